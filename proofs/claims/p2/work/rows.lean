section
-- ===== PART A: goes FIRST, ahead of the names: the tables' words, and 'selects' of the private methods out of them =====
/-- a private method of a class that the tables say can be made, by its rows of tables_1 -/
def lw_okq (q : MethodName × Nat) : Prop := (q.1.cls ≠ "java/lang/invoke/MethodHandle" ∧ q.1.cls ≠ "java/lang/invoke/VarHandle") ∧ Cond.instantiable q.1.cls q.2 ∈ tables_1 ∧ Cond.privateMethod q.1 ∈ tables_1 ∧ Cond.instanceMethod q.1 ∈ tables_1
theorem lw_p0 : lw_okq (⟨"Rowtricks", "isRowSound", "(LRowtricks$Row;)Z"⟩, 4) := ⟨⟨by decide +kernel, by decide +kernel⟩, List.mem_of_getElem? (i := 26) (by decide +kernel), List.mem_of_getElem? (i := 102) (by decide +kernel), List.mem_of_getElem? (i := 103) (by decide +kernel)⟩
theorem lw_p1 : lw_okq (⟨"Rowtricks$Row", "becomeLike", "(LRowtricks$Row;)V"⟩, 4) := ⟨⟨by decide +kernel, by decide +kernel⟩, List.mem_of_getElem? (i := 35) (by decide +kernel), List.mem_of_getElem? (i := 106) (by decide +kernel), List.mem_of_getElem? (i := 107) (by decide +kernel)⟩
theorem lw_p2 : lw_okq (⟨"Rowtricks$Row", "putAllBehind", "(LRowtricks$Row;)V"⟩, 4) := ⟨⟨by decide +kernel, by decide +kernel⟩, List.mem_of_getElem? (i := 35) (by decide +kernel), List.mem_of_getElem? (i := 110) (by decide +kernel), List.mem_of_getElem? (i := 111) (by decide +kernel)⟩
theorem lw_p3 : lw_okq (⟨"Rowtricks$Row", "cardAt", "(I)I"⟩, 4) := ⟨⟨by decide +kernel, by decide +kernel⟩, List.mem_of_getElem? (i := 35) (by decide +kernel), List.mem_of_getElem? (i := 114) (by decide +kernel), List.mem_of_getElem? (i := 115) (by decide +kernel)⟩
theorem lw_p4 : lw_okq (⟨"Rowtricks$Row", "putBehind", "(I)V"⟩, 4) := ⟨⟨by decide +kernel, by decide +kernel⟩, List.mem_of_getElem? (i := 35) (by decide +kernel), List.mem_of_getElem? (i := 118) (by decide +kernel), List.mem_of_getElem? (i := 119) (by decide +kernel)⟩
theorem lw_p5 : lw_okq (⟨"Rowtricks$Row", "put", "(II)V"⟩, 4) := ⟨⟨by decide +kernel, by decide +kernel⟩, List.mem_of_getElem? (i := 35) (by decide +kernel), List.mem_of_getElem? (i := 122) (by decide +kernel), List.mem_of_getElem? (i := 123) (by decide +kernel)⟩
theorem lw_p6 : lw_okq (⟨"Rowtricks$Row", "turn", "(II)V"⟩, 4) := ⟨⟨by decide +kernel, by decide +kernel⟩, List.mem_of_getElem? (i := 35) (by decide +kernel), List.mem_of_getElem? (i := 126) (by decide +kernel), List.mem_of_getElem? (i := 127) (by decide +kernel)⟩
theorem lw_p7 : lw_okq (⟨"Rowtricks$Row", "exchange", "(II)V"⟩, 4) := ⟨⟨by decide +kernel, by decide +kernel⟩, List.mem_of_getElem? (i := 35) (by decide +kernel), List.mem_of_getElem? (i := 130) (by decide +kernel), List.mem_of_getElem? (i := 131) (by decide +kernel)⟩
theorem lw_p8 : lw_okq (⟨"Rowtricks$Row", "push", "(III)V"⟩, 4) := ⟨⟨by decide +kernel, by decide +kernel⟩, List.mem_of_getElem? (i := 35) (by decide +kernel), List.mem_of_getElem? (i := 134) (by decide +kernel), List.mem_of_getElem? (i := 135) (by decide +kernel)⟩
theorem lw_p9 : lw_okq (⟨"Rowtricks$Row", "isLike", "(LRowtricks$Row;)Z"⟩, 4) := ⟨⟨by decide +kernel, by decide +kernel⟩, List.mem_of_getElem? (i := 35) (by decide +kernel), List.mem_of_getElem? (i := 142) (by decide +kernel), List.mem_of_getElem? (i := 143) (by decide +kernel)⟩
theorem lw_p10 : lw_okq (⟨"Rowtricks$Row", "hasFrom", "(ILRowtricks$Row;II)Z"⟩, 4) := ⟨⟨by decide +kernel, by decide +kernel⟩, List.mem_of_getElem? (i := 35) (by decide +kernel), List.mem_of_getElem? (i := 146) (by decide +kernel), List.mem_of_getElem? (i := 147) (by decide +kernel)⟩
theorem lw_p11 : lw_okq (⟨"Rowtricks$Row", "arrange", "(IIZ)V"⟩, 4) := ⟨⟨by decide +kernel, by decide +kernel⟩, List.mem_of_getElem? (i := 35) (by decide +kernel), List.mem_of_getElem? (i := 150) (by decide +kernel), List.mem_of_getElem? (i := 151) (by decide +kernel)⟩
theorem lw_p12 : lw_okq (⟨"Rowtricks$Row", "settle", "(IIZ)V"⟩, 4) := ⟨⟨by decide +kernel, by decide +kernel⟩, List.mem_of_getElem? (i := 35) (by decide +kernel), List.mem_of_getElem? (i := 154) (by decide +kernel), List.mem_of_getElem? (i := 155) (by decide +kernel)⟩
theorem lw_p13 : lw_okq (⟨"Rowtricks$Row", "valueAt", "(I)I"⟩, 4) := ⟨⟨by decide +kernel, by decide +kernel⟩, List.mem_of_getElem? (i := 35) (by decide +kernel), List.mem_of_getElem? (i := 158) (by decide +kernel), List.mem_of_getElem? (i := 159) (by decide +kernel)⟩
theorem lw_p14 : lw_okq (⟨"Rowtricks$Row", "howOften", "(I)I"⟩, 4) := ⟨⟨by decide +kernel, by decide +kernel⟩, List.mem_of_getElem? (i := 35) (by decide +kernel), List.mem_of_getElem? (i := 166) (by decide +kernel), List.mem_of_getElem? (i := 167) (by decide +kernel)⟩
theorem lw_p15 : lw_okq (⟨"Rowtricks$Row", "placeOf", "(IILRowtricks$Row;II)I"⟩, 4) := ⟨⟨by decide +kernel, by decide +kernel⟩, List.mem_of_getElem? (i := 35) (by decide +kernel), List.mem_of_getElem? (i := 183) (by decide +kernel), List.mem_of_getElem? (i := 184) (by decide +kernel)⟩
def lw_privs_1 : List (MethodName × Nat) := [(⟨"Rowtricks", "isRowSound", "(LRowtricks$Row;)Z"⟩, 4), (⟨"Rowtricks$Row", "becomeLike", "(LRowtricks$Row;)V"⟩, 4), (⟨"Rowtricks$Row", "putAllBehind", "(LRowtricks$Row;)V"⟩, 4), (⟨"Rowtricks$Row", "cardAt", "(I)I"⟩, 4), (⟨"Rowtricks$Row", "putBehind", "(I)V"⟩, 4), (⟨"Rowtricks$Row", "put", "(II)V"⟩, 4), (⟨"Rowtricks$Row", "turn", "(II)V"⟩, 4), (⟨"Rowtricks$Row", "exchange", "(II)V"⟩, 4), (⟨"Rowtricks$Row", "push", "(III)V"⟩, 4), (⟨"Rowtricks$Row", "isLike", "(LRowtricks$Row;)Z"⟩, 4), (⟨"Rowtricks$Row", "hasFrom", "(ILRowtricks$Row;II)Z"⟩, 4), (⟨"Rowtricks$Row", "arrange", "(IIZ)V"⟩, 4), (⟨"Rowtricks$Row", "settle", "(IIZ)V"⟩, 4), (⟨"Rowtricks$Row", "valueAt", "(I)I"⟩, 4), (⟨"Rowtricks$Row", "howOften", "(I)I"⟩, 4), (⟨"Rowtricks$Row", "placeOf", "(IILRowtricks$Row;II)I"⟩, 4)]
theorem lw_r1 : ∀ q ∈ lw_privs_1, lw_okq q := List.forall_mem_cons.mpr ⟨lw_p0, List.forall_mem_cons.mpr ⟨lw_p1, List.forall_mem_cons.mpr ⟨lw_p2, List.forall_mem_cons.mpr ⟨lw_p3, List.forall_mem_cons.mpr ⟨lw_p4, List.forall_mem_cons.mpr ⟨lw_p5, List.forall_mem_cons.mpr ⟨lw_p6, List.forall_mem_cons.mpr ⟨lw_p7, List.forall_mem_cons.mpr ⟨lw_p8, List.forall_mem_cons.mpr ⟨lw_p9, List.forall_mem_cons.mpr ⟨lw_p10, List.forall_mem_cons.mpr ⟨lw_p11, List.forall_mem_cons.mpr ⟨lw_p12, List.forall_mem_cons.mpr ⟨lw_p13, List.forall_mem_cons.mpr ⟨lw_p14, List.forall_mem_cons.mpr ⟨lw_p15, fun _ h => absurd h List.not_mem_nil⟩⟩⟩⟩⟩⟩⟩⟩⟩⟩⟩⟩⟩⟩⟩⟩
theorem lw_p16 : lw_okq (⟨"Rowtricks", "mixHouse", "(J)J"⟩, 4) := ⟨⟨by decide +kernel, by decide +kernel⟩, List.mem_of_getElem? (i := 26) (by decide +kernel), List.mem_of_getElem? (i := 225) (by decide +kernel), List.mem_of_getElem? (i := 226) (by decide +kernel)⟩
theorem lw_p17 : lw_okq (⟨"Rowtricks", "allCards", "()I"⟩, 4) := ⟨⟨by decide +kernel, by decide +kernel⟩, List.mem_of_getElem? (i := 26) (by decide +kernel), List.mem_of_getElem? (i := 229) (by decide +kernel), List.mem_of_getElem? (i := 230) (by decide +kernel)⟩
theorem lw_p18 : lw_okq (⟨"Rowtricks", "allParts", "()I"⟩, 4) := ⟨⟨by decide +kernel, by decide +kernel⟩, List.mem_of_getElem? (i := 26) (by decide +kernel), List.mem_of_getElem? (i := 237) (by decide +kernel), List.mem_of_getElem? (i := 238) (by decide +kernel)⟩
theorem lw_p19 : lw_okq (⟨"Rowtricks$Part", "isThere", "()Z"⟩, 4) := ⟨⟨by decide +kernel, by decide +kernel⟩, List.mem_of_getElem? (i := 59) (by decide +kernel), List.mem_of_getElem? (i := 241) (by decide +kernel), List.mem_of_getElem? (i := 242) (by decide +kernel)⟩
theorem lw_p20 : lw_okq (⟨"Rowtricks", "allWalks", "()I"⟩, 4) := ⟨⟨by decide +kernel, by decide +kernel⟩, List.mem_of_getElem? (i := 26) (by decide +kernel), List.mem_of_getElem? (i := 245) (by decide +kernel), List.mem_of_getElem? (i := 246) (by decide +kernel)⟩
theorem lw_p21 : lw_okq (⟨"java/lang/Throwable", "fillInStackTrace", "(I)Ljava/lang/Throwable;"⟩, 6) := ⟨⟨by decide +kernel, by decide +kernel⟩, List.mem_of_getElem? (i := 484) (by decide +kernel), List.mem_of_getElem? (i := 482) (by decide +kernel), List.mem_of_getElem? (i := 483) (by decide +kernel)⟩
theorem lw_p22 : lw_okq (⟨"Rowtricks$Row", "markAt", "(I)I"⟩, 4) := ⟨⟨by decide +kernel, by decide +kernel⟩, List.mem_of_getElem? (i := 35) (by decide +kernel), List.mem_of_getElem? (i := 620) (by decide +kernel), List.mem_of_getElem? (i := 621) (by decide +kernel)⟩
theorem lw_p23 : lw_okq (⟨"Rowtricks$Row", "firstPlaceOf", "(I)I"⟩, 4) := ⟨⟨by decide +kernel, by decide +kernel⟩, List.mem_of_getElem? (i := 35) (by decide +kernel), List.mem_of_getElem? (i := 644) (by decide +kernel), List.mem_of_getElem? (i := 645) (by decide +kernel)⟩
theorem lw_p24 : lw_okq (⟨"Rowtricks", "rowOf", "(I)LRowtricks$Row;"⟩, 4) := ⟨⟨by decide +kernel, by decide +kernel⟩, List.mem_of_getElem? (i := 26) (by decide +kernel), List.mem_of_getElem? (i := 678) (by decide +kernel), List.mem_of_getElem? (i := 679) (by decide +kernel)⟩
theorem lw_p25 : lw_okq (⟨"Rowtricks", "reshape", "(LRowtricks$Row;)V"⟩, 4) := ⟨⟨by decide +kernel, by decide +kernel⟩, List.mem_of_getElem? (i := 26) (by decide +kernel), List.mem_of_getElem? (i := 725) (by decide +kernel), List.mem_of_getElem? (i := 726) (by decide +kernel)⟩
theorem lw_p26 : lw_okq (⟨"Rowtricks$Row", "putBetween", "(II)V"⟩, 4) := ⟨⟨by decide +kernel, by decide +kernel⟩, List.mem_of_getElem? (i := 35) (by decide +kernel), List.mem_of_getElem? (i := 737) (by decide +kernel), List.mem_of_getElem? (i := 738) (by decide +kernel)⟩
theorem lw_p27 : lw_okq (⟨"Rowtricks$Row", "hasPlace", "(I)Z"⟩, 4) := ⟨⟨by decide +kernel, by decide +kernel⟩, List.mem_of_getElem? (i := 35) (by decide +kernel), List.mem_of_getElem? (i := 751) (by decide +kernel), List.mem_of_getElem? (i := 752) (by decide +kernel)⟩
theorem lw_p28 : lw_okq (⟨"Rowtricks$Row", "takeOut", "(II)V"⟩, 4) := ⟨⟨by decide +kernel, by decide +kernel⟩, List.mem_of_getElem? (i := 35) (by decide +kernel), List.mem_of_getElem? (i := 756) (by decide +kernel), List.mem_of_getElem? (i := 757) (by decide +kernel)⟩
theorem lw_p29 : lw_okq (⟨"Rowtricks", "changeBy", "(LRowtricks$Row;I)V"⟩, 4) := ⟨⟨by decide +kernel, by decide +kernel⟩, List.mem_of_getElem? (i := 26) (by decide +kernel), List.mem_of_getElem? (i := 778) (by decide +kernel), List.mem_of_getElem? (i := 779) (by decide +kernel)⟩
theorem lw_p30 : lw_okq (⟨"Rowtricks$Row", "putCopiesBehind", "(II)V"⟩, 4) := ⟨⟨by decide +kernel, by decide +kernel⟩, List.mem_of_getElem? (i := 35) (by decide +kernel), List.mem_of_getElem? (i := 800) (by decide +kernel), List.mem_of_getElem? (i := 801) (by decide +kernel)⟩
theorem lw_p31 : lw_okq (⟨"Rowtricks$Row", "firstValue", "(II)I"⟩, 4) := ⟨⟨by decide +kernel, by decide +kernel⟩, List.mem_of_getElem? (i := 35) (by decide +kernel), List.mem_of_getElem? (i := 847) (by decide +kernel), List.mem_of_getElem? (i := 848) (by decide +kernel)⟩
def lw_privs_2 : List (MethodName × Nat) := [(⟨"Rowtricks", "mixHouse", "(J)J"⟩, 4), (⟨"Rowtricks", "allCards", "()I"⟩, 4), (⟨"Rowtricks", "allParts", "()I"⟩, 4), (⟨"Rowtricks$Part", "isThere", "()Z"⟩, 4), (⟨"Rowtricks", "allWalks", "()I"⟩, 4), (⟨"java/lang/Throwable", "fillInStackTrace", "(I)Ljava/lang/Throwable;"⟩, 6), (⟨"Rowtricks$Row", "markAt", "(I)I"⟩, 4), (⟨"Rowtricks$Row", "firstPlaceOf", "(I)I"⟩, 4), (⟨"Rowtricks", "rowOf", "(I)LRowtricks$Row;"⟩, 4), (⟨"Rowtricks", "reshape", "(LRowtricks$Row;)V"⟩, 4), (⟨"Rowtricks$Row", "putBetween", "(II)V"⟩, 4), (⟨"Rowtricks$Row", "hasPlace", "(I)Z"⟩, 4), (⟨"Rowtricks$Row", "takeOut", "(II)V"⟩, 4), (⟨"Rowtricks", "changeBy", "(LRowtricks$Row;I)V"⟩, 4), (⟨"Rowtricks$Row", "putCopiesBehind", "(II)V"⟩, 4), (⟨"Rowtricks$Row", "firstValue", "(II)I"⟩, 4)]
theorem lw_r2 : ∀ q ∈ lw_privs_2, lw_okq q := List.forall_mem_cons.mpr ⟨lw_p16, List.forall_mem_cons.mpr ⟨lw_p17, List.forall_mem_cons.mpr ⟨lw_p18, List.forall_mem_cons.mpr ⟨lw_p19, List.forall_mem_cons.mpr ⟨lw_p20, List.forall_mem_cons.mpr ⟨lw_p21, List.forall_mem_cons.mpr ⟨lw_p22, List.forall_mem_cons.mpr ⟨lw_p23, List.forall_mem_cons.mpr ⟨lw_p24, List.forall_mem_cons.mpr ⟨lw_p25, List.forall_mem_cons.mpr ⟨lw_p26, List.forall_mem_cons.mpr ⟨lw_p27, List.forall_mem_cons.mpr ⟨lw_p28, List.forall_mem_cons.mpr ⟨lw_p29, List.forall_mem_cons.mpr ⟨lw_p30, List.forall_mem_cons.mpr ⟨lw_p31, fun _ h => absurd h List.not_mem_nil⟩⟩⟩⟩⟩⟩⟩⟩⟩⟩⟩⟩⟩⟩⟩⟩
theorem lw_p32 : lw_okq (⟨"Rowtricks$Row", "lastPlaceOf", "(I)I"⟩, 4) := ⟨⟨by decide +kernel, by decide +kernel⟩, List.mem_of_getElem? (i := 35) (by decide +kernel), List.mem_of_getElem? (i := 918) (by decide +kernel), List.mem_of_getElem? (i := 919) (by decide +kernel)⟩
theorem lw_p33 : lw_okq (⟨"Rowtricks", "partOf", "(I)LRowtricks$Part;"⟩, 4) := ⟨⟨by decide +kernel, by decide +kernel⟩, List.mem_of_getElem? (i := 26) (by decide +kernel), List.mem_of_getElem? (i := 994) (by decide +kernel), List.mem_of_getElem? (i := 995) (by decide +kernel)⟩
theorem lw_p34 : lw_okq (⟨"Rowtricks", "lose", "(LRowtricks$Part;)V"⟩, 4) := ⟨⟨by decide +kernel, by decide +kernel⟩, List.mem_of_getElem? (i := 26) (by decide +kernel), List.mem_of_getElem? (i := 1003) (by decide +kernel), List.mem_of_getElem? (i := 1004) (by decide +kernel)⟩
theorem lw_p35 : lw_okq (⟨"Rowtricks$Part", "isWithin", "(LRowtricks$Part;)Z"⟩, 4) := ⟨⟨by decide +kernel, by decide +kernel⟩, List.mem_of_getElem? (i := 59) (by decide +kernel), List.mem_of_getElem? (i := 1007) (by decide +kernel), List.mem_of_getElem? (i := 1008) (by decide +kernel)⟩
theorem lw_p36 : lw_okq (⟨"Rowtricks$Part", "lay", "(LRowtricks$Row;LRowtricks$Part;II)V"⟩, 4) := ⟨⟨by decide +kernel, by decide +kernel⟩, List.mem_of_getElem? (i := 59) (by decide +kernel), List.mem_of_getElem? (i := 1011) (by decide +kernel), List.mem_of_getElem? (i := 1012) (by decide +kernel)⟩
theorem lw_p37 : lw_okq (⟨"Rowtricks$Part", "many", "()I"⟩, 4) := ⟨⟨by decide +kernel, by decide +kernel⟩, List.mem_of_getElem? (i := 59) (by decide +kernel), List.mem_of_getElem? (i := 1015) (by decide +kernel), List.mem_of_getElem? (i := 1016) (by decide +kernel)⟩
theorem lw_p38 : lw_okq (⟨"Rowtricks", "shrinkAround", "(LRowtricks$Part;LRowtricks$Row;I)V"⟩, 4) := ⟨⟨by decide +kernel, by decide +kernel⟩, List.mem_of_getElem? (i := 26) (by decide +kernel), List.mem_of_getElem? (i := 1046) (by decide +kernel), List.mem_of_getElem? (i := 1047) (by decide +kernel)⟩
theorem lw_p39 : lw_okq (⟨"Rowtricks$Part", "hasPlace", "(I)Z"⟩, 4) := ⟨⟨by decide +kernel, by decide +kernel⟩, List.mem_of_getElem? (i := 59) (by decide +kernel), List.mem_of_getElem? (i := 1057) (by decide +kernel), List.mem_of_getElem? (i := 1058) (by decide +kernel)⟩
theorem lw_p40 : lw_okq (⟨"RowtricksModel", "start", "(ZZZ)Z"⟩, 10) := ⟨⟨by decide +kernel, by decide +kernel⟩, List.mem_of_getElem? (i := 1163) (by decide +kernel), List.mem_of_getElem? (i := 1219) (by decide +kernel), List.mem_of_getElem? (i := 1220) (by decide +kernel)⟩
theorem lw_p41 : lw_okq (⟨"RowtricksModel", "addMany", "(III)I"⟩, 10) := ⟨⟨by decide +kernel, by decide +kernel⟩, List.mem_of_getElem? (i := 1163) (by decide +kernel), List.mem_of_getElem? (i := 1223) (by decide +kernel), List.mem_of_getElem? (i := 1224) (by decide +kernel)⟩
theorem lw_p42 : lw_okq (⟨"RowtricksModel", "put", "(III)V"⟩, 10) := ⟨⟨by decide +kernel, by decide +kernel⟩, List.mem_of_getElem? (i := 1163) (by decide +kernel), List.mem_of_getElem? (i := 1227) (by decide +kernel), List.mem_of_getElem? (i := 1228) (by decide +kernel)⟩
theorem lw_p43 : lw_okq (⟨"RowtricksModel", "reshape", "(I)V"⟩, 10) := ⟨⟨by decide +kernel, by decide +kernel⟩, List.mem_of_getElem? (i := 1163) (by decide +kernel), List.mem_of_getElem? (i := 1231) (by decide +kernel), List.mem_of_getElem? (i := 1232) (by decide +kernel)⟩
theorem lw_p44 : lw_okq (⟨"RowtricksModel", "lost", "(I)I"⟩, 10) := ⟨⟨by decide +kernel, by decide +kernel⟩, List.mem_of_getElem? (i := 1163) (by decide +kernel), List.mem_of_getElem? (i := 1239) (by decide +kernel), List.mem_of_getElem? (i := 1240) (by decide +kernel)⟩
theorem lw_p45 : lw_okq (⟨"RowtricksModel", "isNoPlace", "(II)Z"⟩, 10) := ⟨⟨by decide +kernel, by decide +kernel⟩, List.mem_of_getElem? (i := 1163) (by decide +kernel), List.mem_of_getElem? (i := 1247) (by decide +kernel), List.mem_of_getElem? (i := 1248) (by decide +kernel)⟩
theorem lw_p46 : lw_okq (⟨"RowtricksModel", "take", "(II)I"⟩, 10) := ⟨⟨by decide +kernel, by decide +kernel⟩, List.mem_of_getElem? (i := 1163) (by decide +kernel), List.mem_of_getElem? (i := 1251) (by decide +kernel), List.mem_of_getElem? (i := 1252) (by decide +kernel)⟩
theorem lw_p47 : lw_okq (⟨"RowtricksModel", "firstOf", "(III)I"⟩, 10) := ⟨⟨by decide +kernel, by decide +kernel⟩, List.mem_of_getElem? (i := 1163) (by decide +kernel), List.mem_of_getElem? (i := 1294) (by decide +kernel), List.mem_of_getElem? (i := 1295) (by decide +kernel)⟩
def lw_privs_3 : List (MethodName × Nat) := [(⟨"Rowtricks$Row", "lastPlaceOf", "(I)I"⟩, 4), (⟨"Rowtricks", "partOf", "(I)LRowtricks$Part;"⟩, 4), (⟨"Rowtricks", "lose", "(LRowtricks$Part;)V"⟩, 4), (⟨"Rowtricks$Part", "isWithin", "(LRowtricks$Part;)Z"⟩, 4), (⟨"Rowtricks$Part", "lay", "(LRowtricks$Row;LRowtricks$Part;II)V"⟩, 4), (⟨"Rowtricks$Part", "many", "()I"⟩, 4), (⟨"Rowtricks", "shrinkAround", "(LRowtricks$Part;LRowtricks$Row;I)V"⟩, 4), (⟨"Rowtricks$Part", "hasPlace", "(I)Z"⟩, 4), (⟨"RowtricksModel", "start", "(ZZZ)Z"⟩, 10), (⟨"RowtricksModel", "addMany", "(III)I"⟩, 10), (⟨"RowtricksModel", "put", "(III)V"⟩, 10), (⟨"RowtricksModel", "reshape", "(I)V"⟩, 10), (⟨"RowtricksModel", "lost", "(I)I"⟩, 10), (⟨"RowtricksModel", "isNoPlace", "(II)Z"⟩, 10), (⟨"RowtricksModel", "take", "(II)I"⟩, 10), (⟨"RowtricksModel", "firstOf", "(III)I"⟩, 10)]
theorem lw_r3 : ∀ q ∈ lw_privs_3, lw_okq q := List.forall_mem_cons.mpr ⟨lw_p32, List.forall_mem_cons.mpr ⟨lw_p33, List.forall_mem_cons.mpr ⟨lw_p34, List.forall_mem_cons.mpr ⟨lw_p35, List.forall_mem_cons.mpr ⟨lw_p36, List.forall_mem_cons.mpr ⟨lw_p37, List.forall_mem_cons.mpr ⟨lw_p38, List.forall_mem_cons.mpr ⟨lw_p39, List.forall_mem_cons.mpr ⟨lw_p40, List.forall_mem_cons.mpr ⟨lw_p41, List.forall_mem_cons.mpr ⟨lw_p42, List.forall_mem_cons.mpr ⟨lw_p43, List.forall_mem_cons.mpr ⟨lw_p44, List.forall_mem_cons.mpr ⟨lw_p45, List.forall_mem_cons.mpr ⟨lw_p46, List.forall_mem_cons.mpr ⟨lw_p47, fun _ h => absurd h List.not_mem_nil⟩⟩⟩⟩⟩⟩⟩⟩⟩⟩⟩⟩⟩⟩⟩⟩
theorem lw_p48 : lw_okq (⟨"RowtricksModel", "swapped", "(III)I"⟩, 10) := ⟨⟨by decide +kernel, by decide +kernel⟩, List.mem_of_getElem? (i := 1163) (by decide +kernel), List.mem_of_getElem? (i := 1309) (by decide +kernel), List.mem_of_getElem? (i := 1310) (by decide +kernel)⟩
theorem lw_p49 : lw_okq (⟨"RowtricksModel", "textOf", "(III)Ljava/lang/String;"⟩, 10) := ⟨⟨by decide +kernel, by decide +kernel⟩, List.mem_of_getElem? (i := 1163) (by decide +kernel), List.mem_of_getElem? (i := 1328) (by decide +kernel), List.mem_of_getElem? (i := 1329) (by decide +kernel)⟩
theorem lw_p50 : lw_okq (⟨"RowtricksModel", "count", "(II)I"⟩, 10) := ⟨⟨by decide +kernel, by decide +kernel⟩, List.mem_of_getElem? (i := 1163) (by decide +kernel), List.mem_of_getElem? (i := 1350) (by decide +kernel), List.mem_of_getElem? (i := 1351) (by decide +kernel)⟩
theorem lw_p51 : lw_okq (⟨"RowtricksModel", "areApart", "(II)Z"⟩, 10) := ⟨⟨by decide +kernel, by decide +kernel⟩, List.mem_of_getElem? (i := 1163) (by decide +kernel), List.mem_of_getElem? (i := 1365) (by decide +kernel), List.mem_of_getElem? (i := 1366) (by decide +kernel)⟩
theorem lw_p52 : lw_okq (⟨"RowtricksModel", "isLike", "(II)Z"⟩, 10) := ⟨⟨by decide +kernel, by decide +kernel⟩, List.mem_of_getElem? (i := 1163) (by decide +kernel), List.mem_of_getElem? (i := 1373) (by decide +kernel), List.mem_of_getElem? (i := 1374) (by decide +kernel)⟩
theorem lw_p53 : lw_okq (⟨"RowtricksModel", "rowIn", "(II)I"⟩, 10) := ⟨⟨by decide +kernel, by decide +kernel⟩, List.mem_of_getElem? (i := 1163) (by decide +kernel), List.mem_of_getElem? (i := 1384) (by decide +kernel), List.mem_of_getElem? (i := 1385) (by decide +kernel)⟩
theorem lw_p54 : lw_okq (⟨"RowtricksModel", "mostOf", "(IZ)I"⟩, 10) := ⟨⟨by decide +kernel, by decide +kernel⟩, List.mem_of_getElem? (i := 1163) (by decide +kernel), List.mem_of_getElem? (i := 1392) (by decide +kernel), List.mem_of_getElem? (i := 1393) (by decide +kernel)⟩
theorem lw_p55 : lw_okq (⟨"RowtricksModel", "lay", "(IIIII)I"⟩, 10) := ⟨⟨by decide +kernel, by decide +kernel⟩, List.mem_of_getElem? (i := 1163) (by decide +kernel), List.mem_of_getElem? (i := 1425) (by decide +kernel), List.mem_of_getElem? (i := 1426) (by decide +kernel)⟩
theorem lw_p56 : lw_okq (⟨"RowtricksModel", "lose", "(I)V"⟩, 10) := ⟨⟨by decide +kernel, by decide +kernel⟩, List.mem_of_getElem? (i := 1163) (by decide +kernel), List.mem_of_getElem? (i := 1429) (by decide +kernel), List.mem_of_getElem? (i := 1430) (by decide +kernel)⟩
theorem lw_p57 : lw_okq (⟨"RowtricksModel", "isInside", "(II)Z"⟩, 10) := ⟨⟨by decide +kernel, by decide +kernel⟩, List.mem_of_getElem? (i := 1163) (by decide +kernel), List.mem_of_getElem? (i := 1437) (by decide +kernel), List.mem_of_getElem? (i := 1438) (by decide +kernel)⟩
theorem lw_p58 : lw_okq (⟨"RowtricksModel", "isThere", "(I)Z"⟩, 10) := ⟨⟨by decide +kernel, by decide +kernel⟩, List.mem_of_getElem? (i := 1163) (by decide +kernel), List.mem_of_getElem? (i := 1449) (by decide +kernel), List.mem_of_getElem? (i := 1450) (by decide +kernel)⟩
theorem lw_p59 : lw_okq (⟨"RowtricksModel", "isNoPlaceIn", "(II)Z"⟩, 10) := ⟨⟨by decide +kernel, by decide +kernel⟩, List.mem_of_getElem? (i := 1163) (by decide +kernel), List.mem_of_getElem? (i := 1457) (by decide +kernel), List.mem_of_getElem? (i := 1458) (by decide +kernel)⟩
theorem lw_p60 : lw_okq (⟨"RowtricksModel", "loosened", "(I)I"⟩, 10) := ⟨⟨by decide +kernel, by decide +kernel⟩, List.mem_of_getElem? (i := 1163) (by decide +kernel), List.mem_of_getElem? (i := 1465) (by decide +kernel), List.mem_of_getElem? (i := 1466) (by decide +kernel)⟩
theorem lw_p61 : lw_okq (⟨"RowtricksModel", "partText", "(I)Ljava/lang/String;"⟩, 10) := ⟨⟨by decide +kernel, by decide +kernel⟩, List.mem_of_getElem? (i := 1163) (by decide +kernel), List.mem_of_getElem? (i := 1485) (by decide +kernel), List.mem_of_getElem? (i := 1486) (by decide +kernel)⟩
theorem lw_p62 : lw_okq (⟨"RowtricksModel", "walkOf", "(I)I"⟩, 10) := ⟨⟨by decide +kernel, by decide +kernel⟩, List.mem_of_getElem? (i := 1163) (by decide +kernel), List.mem_of_getElem? (i := 1524) (by decide +kernel), List.mem_of_getElem? (i := 1525) (by decide +kernel)⟩
theorem lw_p63 : lw_okq (⟨"RowtricksModel", "houseOf", "(I)I"⟩, 10) := ⟨⟨by decide +kernel, by decide +kernel⟩, List.mem_of_getElem? (i := 1163) (by decide +kernel), List.mem_of_getElem? (i := 1532) (by decide +kernel), List.mem_of_getElem? (i := 1533) (by decide +kernel)⟩
def lw_privs_4 : List (MethodName × Nat) := [(⟨"RowtricksModel", "swapped", "(III)I"⟩, 10), (⟨"RowtricksModel", "textOf", "(III)Ljava/lang/String;"⟩, 10), (⟨"RowtricksModel", "count", "(II)I"⟩, 10), (⟨"RowtricksModel", "areApart", "(II)Z"⟩, 10), (⟨"RowtricksModel", "isLike", "(II)Z"⟩, 10), (⟨"RowtricksModel", "rowIn", "(II)I"⟩, 10), (⟨"RowtricksModel", "mostOf", "(IZ)I"⟩, 10), (⟨"RowtricksModel", "lay", "(IIIII)I"⟩, 10), (⟨"RowtricksModel", "lose", "(I)V"⟩, 10), (⟨"RowtricksModel", "isInside", "(II)Z"⟩, 10), (⟨"RowtricksModel", "isThere", "(I)Z"⟩, 10), (⟨"RowtricksModel", "isNoPlaceIn", "(II)Z"⟩, 10), (⟨"RowtricksModel", "loosened", "(I)I"⟩, 10), (⟨"RowtricksModel", "partText", "(I)Ljava/lang/String;"⟩, 10), (⟨"RowtricksModel", "walkOf", "(I)I"⟩, 10), (⟨"RowtricksModel", "houseOf", "(I)I"⟩, 10)]
theorem lw_r4 : ∀ q ∈ lw_privs_4, lw_okq q := List.forall_mem_cons.mpr ⟨lw_p48, List.forall_mem_cons.mpr ⟨lw_p49, List.forall_mem_cons.mpr ⟨lw_p50, List.forall_mem_cons.mpr ⟨lw_p51, List.forall_mem_cons.mpr ⟨lw_p52, List.forall_mem_cons.mpr ⟨lw_p53, List.forall_mem_cons.mpr ⟨lw_p54, List.forall_mem_cons.mpr ⟨lw_p55, List.forall_mem_cons.mpr ⟨lw_p56, List.forall_mem_cons.mpr ⟨lw_p57, List.forall_mem_cons.mpr ⟨lw_p58, List.forall_mem_cons.mpr ⟨lw_p59, List.forall_mem_cons.mpr ⟨lw_p60, List.forall_mem_cons.mpr ⟨lw_p61, List.forall_mem_cons.mpr ⟨lw_p62, List.forall_mem_cons.mpr ⟨lw_p63, fun _ h => absurd h List.not_mem_nil⟩⟩⟩⟩⟩⟩⟩⟩⟩⟩⟩⟩⟩⟩⟩⟩
theorem lw_p64 : lw_okq (⟨"RowtricksModel", "areSound", "()Z"⟩, 10) := ⟨⟨by decide +kernel, by decide +kernel⟩, List.mem_of_getElem? (i := 1163) (by decide +kernel), List.mem_of_getElem? (i := 1544) (by decide +kernel), List.mem_of_getElem? (i := 1545) (by decide +kernel)⟩
def lw_privs_5 : List (MethodName × Nat) := [(⟨"RowtricksModel", "areSound", "()Z"⟩, 10)]
theorem lw_r5 : ∀ q ∈ lw_privs_5, lw_okq q := List.forall_mem_cons.mpr ⟨lw_p64, fun _ h => absurd h List.not_mem_nil⟩
def lw_privs : List (MethodName × Nat) := lw_privs_1 ++ (lw_privs_2 ++ (lw_privs_3 ++ (lw_privs_4 ++ (lw_privs_5))))
def lw_tbl : List Cond := k2_sels lw_privs ++ tables_1
theorem lw_privs_ok : ∀ q ∈ lw_privs, lw_okq q := by
  show ∀ q ∈ lw_privs_1 ++ (lw_privs_2 ++ (lw_privs_3 ++ (lw_privs_4 ++ (lw_privs_5)))), lw_okq q
  exact List.forall_mem_append.mpr ⟨lw_r1, List.forall_mem_append.mpr ⟨lw_r2, List.forall_mem_append.mpr ⟨lw_r3, List.forall_mem_append.mpr ⟨lw_r4, lw_r5⟩⟩⟩⟩
end
section
/-! ===== BEGIN words of one list among another's, by their places ===== -/
theorem goodIn_r {big : List Cond} (ws : List Cond) (ps : List Nat) (hp : ws = ps.filterMap (fun i => big[i]?)) (h : ws.all goodWord = true) : GoodIn big ws := by
  intro w hw
  have h1 := List.all_eq_true.mp h w hw
  rw [hp] at hw
  obtain ⟨i, -, hi⟩ := List.mem_filterMap.mp hw
  have hm : w ∈ big := by first | exact List.mem_of_getElem? hi | exact List.getElem?_mem hi
  exact ⟨hm, good_of_word h1⟩
theorem goodIn_app {big a b : List Cond} (ha : GoodIn big a) (hb : GoodIn big b) : GoodIn big (a ++ b) := fun w h => (List.mem_append.mp h).elim (ha w) (hb w)
theorem goodIn_ca {big a b : List Cond} {c : Cond} (ha : GoodIn big (c :: a)) (hb : GoodIn big b) : GoodIn big (c :: (a ++ b)) := fun w h => (List.mem_cons.mp h).elim (fun e => ha w (List.mem_cons.mpr (Or.inl e))) (fun h => (List.mem_append.mp h).elim (fun h => ha w (List.mem_cons.mpr (Or.inr h))) (hb w))
theorem goodIn_sub {big ws : List Cond} (hm : ∀ w ∈ ws, w ∈ big) (h : ws.all goodWord = true) : GoodIn big ws := fun w hw => ⟨hm w hw, good_of_word (List.all_eq_true.mp h w hw)⟩
/-! ===== END ===== -/

/-! ===== BEGIN exceptions that leave a method, and their catching by the caller (launches without stack traces) ===== -/
section VXA
/-! The laws vx_back, vx_callV, vx_callS, vx_callSW, vx_throw0, vx_throwS follow proofs of the library, with one case more: JvmDerived/Free/Laws.lean (Back.of_free), Shelf42/LK1.lean (callV, callS), Shelf/KitTraced.lean (throwNew0V, throwNewS). -/
/-- where a method has thrown q: the class by its name, the cell, what was written, the world -/
def vx_T (XC : String → State → State → Prop) (st : State) (q : Addr) (t : State) (mc ms : Nat) (free : Addr → Prop) : Prop :=
  ∃ (E : String) (ce : Cell) (L : List Loc), XC E st t ∧ t.heap[q]? = some ce ∧ ce.vm = .none ∧ st.vm.findClass E = some ce.cls ∧ st.WarmedH t.vm ∧ st.sameButNew ({ t with vm := st.vm } : State) L mc ms ∧ ∀ z ∈ L, free z.base
def vx_Q (Qc : Array Value → State → Outcome → State → Prop) (XC : String → State → State → Prop) (mc ms : Nat) (free : Addr → Prop) : Array Value → State → Outcome → State → Prop := fun a st o t =>
  (Qc a st o t ∧ ∃ L, FrameEnd st o t L mc ms ∧ ∀ q ∈ L, free q.base) ∨ ∃ q, o = .threw q ∧ vx_T XC st q t mc ms free
/-- a callee that returns or throws -/
def vx_Met (l : Launch) (y : MethodName) (ws : List Cond) (rm : Room) (Pc : Array Value → State → Prop) (Qc : Array Value → State → Outcome → State → Prop) (XC : String → State → State → Prop) (mc ms : Nat) (free : Addr → Prop) : Prop :=
  MetFree l y (headSpec ws rm) Pc (fun _ _ _ _ _ => True) (vx_Q Qc XC mc ms free)
def vx_Post (XC : String → State → State → Prop) (mc ms : Nat) (free : Addr → Prop) : Pt → Array Value → Addr → Pt → Prop := fun A a q B =>
  ∃ (g : JFrame) (mk : MethodId) (t : State) (L : List Loc) (E : String) (ce : Cell), B.U.heap = t.heap ∧ B.U.vm = t.vm ∧ XC E (A.U.calling g mk a) t ∧ t.heap[q]? = some ce ∧ ce.vm = .none ∧ A.U.vm.findClass E = some ce.cls ∧ B.locs = A.locs ++ L ∧ (∀ z ∈ L, free z.base) ∧ B.cells = A.cells + mc ∧ B.slots = A.slots + ms
def vx_Back (l : Launch) (R : Room) (p : Program) (e : Env) (below : List Frame) (s : State) (sargs : Array Value) (y : MethodName) (len W9 : Nat)
    (Pre : Pt → Array Value → Prop) (Post : Pt → Array Value → Option Value → Pt → Prop) (PostX : Pt → Array Value → Addr → Pt → Prop) : Prop :=
  ∀ (m : MethodId) (meth : Method) (c : Code) (A : Pt) (g : JFrame) (ig : Instr) (mk : MethodId) (a : Array Value),
    Stand p l e R s m sargs below meth c A.U A.locs A.cells A.slots → g.method = m → g.locals.size = c.maxLocals → decode c.code g.pc = .ok (ig, len) →
    2 * g.monitorRoom + (g.stack.map fun v => v.category).sum ≤ W9 → A.U.methodNamed? y = some mk → Pre A a →
    (∃ (v : Option Value) (B : Pt), Stand p l e R s m sargs below meth c B.U B.locs B.cells B.slots ∧ Post A a v B ∧
      Steps p.tables e below (doInvoke e (A.U.setTop g) [] mk a).1 (B.U.setTop { g with pc := g.pc + len, stack := v.toList ++ g.stack })) ∨
    (∃ (q : Addr) (B : Pt), Stand p l e R s m sargs below meth c B.U B.locs B.cells B.slots ∧ PostX A a q B ∧
      Steps p.tables e below (doInvoke e (A.U.setTop g) [] mk a).1 ((B.U.setTop g).pushFrame (.throwing q)))
section Payer
variable {l : Launch} {R : Room} {p : Program} {e : Env} {below : List Frame} {s : State} {sargs : Array Value} {y : MethodName} {len W9 : Nat}
theorem vx_back {ws : List Cond} {rm : Room} {Pc : Array Value → State → Prop} {Qc : Array Value → State → Outcome → State → Prop} {XC : String → State → State → Prop} {mc ms : Nat} {free : Addr → Prop} {bytes : ByteArray} {maxL : Nat} {ret : Option FieldType}
    (hM : vx_Met l y ws rm Pc Qc XC mc ms free) (hblind : FrameBlind Pc) (hrc : rm.cells = mc) (hrs : rm.slots = ms)
    (hframes : rm.frames + 1 ≤ R.frames) (hlocals : W9 + (maxL + 11) + rm.locals ≤ R.locals)
    (hws : ∀ w ∈ ws, ∀ a' U, s.WarmedH U.vm → w.before a' U = true) (hcode : Cond.code y bytes maxL ret ∈ ws) (hinit : ∀ a' U, s.WarmedH U.vm → (Cond.initialized y.cls).before a' U = true) :
    vx_Back l R p e below s sargs y len W9 (PreOf R mc ms Pc) (PostOf Qc mc ms free) (vx_Post XC mc ms free) := by
  intro m meth c A g ig mk a X hg hsize hdg hW hn hp
  have h1 : (headSpec ws rm).pre.before a A.U = true := atoms_intro fun w hw => hws w hw _ _ X.warmed
  have h2 : (Cond.code y bytes maxL ret).before a A.U = true := hws _ hcode _ _ X.warmed
  have h3 : (Cond.initialized y.cls).before a A.U = true := hinit _ _ X.warmed
  have h4 : A.cells + (headSpec ws rm).room.cells ≤ R.cells := by rw [show (headSpec ws rm).room.cells = mc from hrc]; exact hp.1
  have h5 : A.slots + (headSpec ws rm).room.slots ≤ R.slots := by rw [show (headSpec ws rm).room.slots = ms from hrs]; exact hp.2.1
  have hPc : Pc a (A.U.calling g mk a) := hblind _ _ _ _ hp.2.2
  obtain ⟨U, Ls, c0, s0⟩ := A
  dsimp only [Pt.U, Pt.locs, Pt.cells, Pt.slots] at h1 h2 h3 h4 h5 X hn hPc ⊢
  obtain ⟨methY, cY, hmY, hcY, -, hlY, -, -, -, -⟩ := Cond.code_spec hn h2
  obtain ⟨kY, hkY, -⟩ := className_of_methodNamed hn
  have hinitY : kY.init = .initialized := Cond.initialized_spec (findClass_of_methodNamed hn) hkY h3
  have h : At U g.method c below := by rw [hg]; exact X.here
  have hlocals9 : W9 + (maxL + 11) + (headSpec ws rm).room.locals ≤ R.locals := hlocals
  have happ : (headSpec ws rm).appliesLoose y e.platform (U.calling g mk a) = true :=
    Spec.appliesLoose_calling (g := g) h hdg hn hkY hinitY
      (X.room_calling (g := g) (R' := (headSpec ws rm).room) hsize hmY hcY hframes (by rw [hlY]; omega) h4 h5) h1
  obtain ⟨mid, hmid⟩ := h.above
  have hfr : (U.setTop g).frames = (.java g :: mid) ++ below := by rw [State.frames_setTop' g h.top, hmid]; rfl
  obtain ⟨o, s₂, hsteps, -, hend, hq⟩ := Steps.callFree hM p X.admits X.cas X.clock (acts := []) hfr happ hPc trivial
  have hq' : vx_Q Qc XC mc ms free a (U.calling g mk a) o s₂ := hq
  rw [State.frames_setTop' g h.top] at hend
  obtain ⟨g₀, hg0⟩ := Option.isSome_iff_exists.mp h.top
  obtain ⟨r, hr⟩ := State.topJava?_eq_some.mp hg0
  have hr' : (({ U with heap := s₂.heap, slotsUsed := s₂.slotsUsed } : State).setVm s₂.vm).frames = .java g₀ :: r := hr
  rcases hq' with ⟨hqc, L, hfe, hL⟩ | ⟨q, rfl, E, ce, L, hx, hce, hcv, hcl, hW₂, hsm, hL⟩
  · obtain ⟨⟨v, rfl⟩, hW₂, e2, q2, q3, q4, q5, q6⟩ := id hfe
    have e3 : s₂ = ({ (U.calling g mk a).setFrames s₂.frames with heap := s₂.heap, slotsUsed := s₂.slotsUsed } : State).setVm s₂.vm := by
      have : s₂ = ({ s₂ with vm := (U.calling g mk a).vm } : State).setVm s₂.vm := rfl
      rw [e2] at this
      exact this
    obtain ⟨c₂, i₂, len₂, hc₂, hd₂, hf₂⟩ := hend
    have hW' : U.WarmedH s₂.vm := hW₂
    have hcc : c₂ = c := by
      have h1 : s₂.code? g.method = U.code? g.method := by
        rw [State.code?_eq, State.code?_eq, hW'.alike.method?]
      exact Option.some.inj (hc₂.symm.trans (h1.trans h.code))
    subst hcc
    have hlen : len₂ = len := by rw [hdg] at hd₂; cases hd₂; rfl
    subst hlen
    have hs₂ : s₂ = (({ U with heap := s₂.heap, slotsUsed := s₂.slotsUsed } : State).setVm s₂.vm).setTop { g with pc := g.pc + len₂, stack := v.toList ++ g.stack } := by
      refine e3.trans ?_
      rw [hf₂, State.calling_eq h.top, State.setFrames_setFrames, State.setTop_of_frames _ hr', hr]
      rfl
    have hsame : U.sameButNew ({ U with heap := s₂.heap, slotsUsed := s₂.slotsUsed } : State) L mc ms := by
      refine ⟨?_, q2, q3, q4, q5, q6⟩
      obtain ⟨t, ht, -⟩ := State.frames_cons hr
      show ({ U with heap := s₂.heap, slotsUsed := s₂.slotsUsed } : State) = { U.setFrames U.frames with heap := s₂.heap, slotsUsed := s₂.slotsUsed }
      rw [State.setFrames_self ht]
    subst hg
    refine Or.inl ⟨v, ⟨(({ U with heap := s₂.heap, slotsUsed := s₂.slotsUsed } : State).setVm s₂.vm), Ls ++ L, c0 + mc, s0 + ms⟩,
      ⟨X.admits, X.cas, X.clock, X.frames, X.room, X.hears, X.method, X.code, (X.here.setHeapUsed s₂.heap s₂.slotsUsed).setVm hW'.alike, X.tail, State.WarmedH.trans X.warmed hW', X.limits, X.bytes, X.same.trans (hsame.setVm s.vm)⟩,
      ⟨g, mk, s₂, L, rfl, rfl, hqc, rfl, hL, rfl, rfl⟩, ?_⟩
    show Steps p.tables e below _ ((({ U with heap := s₂.heap, slotsUsed := s₂.slotsUsed } : State).setVm s₂.vm).setTop { g with pc := g.pc + len₂, stack := v.toList ++ g.stack })
    rw [← hs₂]
    exact hsteps
  · obtain ⟨e2, q2, q3, q4, q5, q6⟩ := id hsm
    have e3 : s₂ = ({ (U.calling g mk a).setFrames s₂.frames with heap := s₂.heap, slotsUsed := s₂.slotsUsed } : State).setVm s₂.vm := by
      have : s₂ = ({ s₂ with vm := (U.calling g mk a).vm } : State).setVm s₂.vm := rfl
      rw [e2] at this
      exact this
    have hf₂ : s₂.frames = .throwing q :: .java g :: U.frames.tail := hend
    have hW' : U.WarmedH s₂.vm := hW₂
    have hs₂ : s₂ = ((({ U with heap := s₂.heap, slotsUsed := s₂.slotsUsed } : State).setVm s₂.vm).setTop g).pushFrame (.throwing q) := by
      refine e3.trans ?_
      rw [hf₂, State.calling_eq h.top, State.setFrames_setFrames, State.pushFrame, State.frames_setTop _ hr', State.setTop_of_frames _ hr', State.setFrames_setFrames, hr]
      rfl
    have hsame : U.sameButNew ({ U with heap := s₂.heap, slotsUsed := s₂.slotsUsed } : State) L mc ms := by
      refine ⟨?_, q2, q3, q4, q5, q6⟩
      obtain ⟨t, ht, -⟩ := State.frames_cons hr
      show ({ U with heap := s₂.heap, slotsUsed := s₂.slotsUsed } : State) = { U.setFrames U.frames with heap := s₂.heap, slotsUsed := s₂.slotsUsed }
      rw [State.setFrames_self ht]
    subst hg
    refine Or.inr ⟨q, ⟨(({ U with heap := s₂.heap, slotsUsed := s₂.slotsUsed } : State).setVm s₂.vm), Ls ++ L, c0 + mc, s0 + ms⟩,
      ⟨X.admits, X.cas, X.clock, X.frames, X.room, X.hears, X.method, X.code, (X.here.setHeapUsed s₂.heap s₂.slotsUsed).setVm hW'.alike, X.tail, State.WarmedH.trans X.warmed hW', X.limits, X.bytes, X.same.trans (hsame.setVm s.vm)⟩,
      ⟨g, mk, s₂, L, E, ce, rfl, rfl, hx, hce, hcv, hcl, rfl, hL, rfl, rfl⟩, ?_⟩
    show Steps p.tables e below _ (((({ U with heap := s₂.heap, slotsUsed := s₂.slotsUsed } : State).setVm s₂.vm).setTop g).pushFrame (.throwing q))
    rw [← hs₂]
    exact hsteps
end Payer
section Calls
variable {p : Program} {l : Launch} {e : Env} {R : Room} {s : State} {m : MethodId} {args : Array Value} {below : List Frame} {meth : Method} {c : Code} {T : State} {locs : List Loc} {cells slots : Nat}
theorem vx_callV (X : Stand p l e R s m args below meth c T locs cells slots) (hexec : p.tables.exec = Jvm.exec) {own C : String} {index : Nat} {y : MethodName} {bytes : ByteArray} {maxL : Nat} {ret : Option FieldType}
    (hown : s.vm.findClass own = some m.cls) (hlink : (Cond.methodLink own index y).before args s = true) (hinst : (Cond.instanceMethod y).before args s = true) (hsel : (Cond.selects C y y).before args s = true)
    (hcode : (Cond.code y bytes maxL ret).before args s = true) (hy : y.cls ≠ "java/lang/invoke/MethodHandle" ∧ y.cls ≠ "java/lang/invoke/VarHandle")
    {W9 : Nat} {Pre : Pt → Array Value → Prop} {Post : Pt → Array Value → Option Value → Pt → Prop} {PostX : Pt → Array Value → Addr → Pt → Prop} (hK : vx_Back l R p e below s args y 3 W9 Pre Post PostX)
    {b : Addr} {cellB : Cell} (hcell : T.heap[b]? = some cellB) (hobj : cellB.vm.isStatics = false) (hcls : s.vm.findClass C = some cellB.cls)
    {g : JFrame} (hg : g.method = m) (hsize : g.locals.size = c.maxLocals) {argsL rest : List Value} (hlen : ∀ sig, parseMethodDescriptor y.desc = some sig → argsL.length = sig.parameters.length)
    (hstack : g.stack = argsL.reverse ++ .ref b :: rest) (hW : 2 * g.monitorRoom + (rest.map fun v => v.category).sum ≤ W9) (hdg : decode c.code g.pc = .ok (.invokevirtual index, 3))
    (hpre : ∀ vm₁, s.WarmedH vm₁ → Pre ⟨T.setVm vm₁, locs, cells, slots⟩ (Value.ref b :: argsL).toArray) :
    (∃ (v : Option Value) (vm₁ : Vm) (B : Pt), s.WarmedH vm₁ ∧ Stand p l e R s m args below meth c B.U B.locs B.cells B.slots ∧ Post ⟨T.setVm vm₁, locs, cells, slots⟩ (Value.ref b :: argsL).toArray v B ∧
      ∀ target, Steps p.tables e below (B.U.setTop { g with pc := g.pc + 3, stack := v.toList ++ rest }) target → Steps p.tables e below (T.setTop g) target) ∨
    (∃ (q : Addr) (vm₁ : Vm) (B : Pt), s.WarmedH vm₁ ∧ Stand p l e R s m args below meth c B.U B.locs B.cells B.slots ∧ PostX ⟨T.setVm vm₁, locs, cells, slots⟩ (Value.ref b :: argsL).toArray q B ∧
      Steps p.tables e below (T.setTop g) ((B.U.setTop { g with stack := rest }).pushFrame (.throwing q))) := by
  obtain ⟨mk, methM, hnamed, hmethM, hstM, habM⟩ := Cond.instanceMethod_spec hinst
  obtain ⟨methM', cM, hmethM', -, -, -, -, -, -, hsigM⟩ := Cond.code_spec hnamed hcode
  cases hmethM.symm.trans hmethM'
  obtain ⟨c2, r2, m2, q1, q2, q3, q4, kP, hkP, hkPi⟩ := Cond.selects_spec hsel
  cases hcls.symm.trans q1
  cases (State.methodFound?_of_named hnamed hy).symm.trans q2
  cases hnamed.symm.trans q3
  have hselP : selectMethod e.platform s.vm cellB.cls mk = .method mk := by rw [Launch.admits_selectMethod X.admits]; exact q4
  obtain ⟨vm₁, X₁, hstep₁⟩ := X.invokevirtual hexec hown hlink hnamed hmethM hstM hkP hkPi hy (a := b) (cell := cellB) hcell
    (fun z h => by rw [h] at hobj; cases hobj) hselP hmethM habM hkP hkPi (g := g) hg (argsL := argsL) (rest := rest) (hlen _ hsigM) hstack hdg
  rcases hK m meth c ⟨T.setVm vm₁, locs, cells, slots⟩ { g with stack := rest } (.invokevirtual index) mk (Value.ref b :: argsL).toArray X₁ hg hsize hdg hW (X₁.named hnamed) (hpre vm₁ X₁.warmed) with ⟨v, B, X', hpost, hsteps⟩ | ⟨q, B, X', hpost, hsteps⟩
  · exact Or.inl ⟨v, vm₁, B, X₁.warmed, X', hpost, fun target h => hstep₁ _ fun acts => by rw [doInvoke_state]; exact hsteps.trans h⟩
  · exact Or.inr ⟨q, vm₁, B, X₁.warmed, X', hpost, hstep₁ _ fun acts => by rw [doInvoke_state]; exact hsteps⟩
theorem vx_callS (X : Stand p l e R s m args below meth c T locs cells slots) (hexec : p.tables.exec = Jvm.exec) {own : String} {index : Nat} {y : MethodName} {bytes : ByteArray} {maxL : Nat} {ret : Option FieldType}
    (hown : s.vm.findClass own = some m.cls) (hlink : (Cond.methodLink own index y).before args s = true) (hstat : (Cond.static y).before args s = true) (hinit : (Cond.initialized y.cls).before args s = true)
    (hcode : (Cond.code y bytes maxL ret).before args s = true) (hy : y.cls ≠ "java/lang/invoke/MethodHandle" ∧ y.cls ≠ "java/lang/invoke/VarHandle")
    {W9 : Nat} {Pre : Pt → Array Value → Prop} {Post : Pt → Array Value → Option Value → Pt → Prop} {PostX : Pt → Array Value → Addr → Pt → Prop} (hK : vx_Back l R p e below s args y 3 W9 Pre Post PostX)
    {g : JFrame} (hg : g.method = m) (hsize : g.locals.size = c.maxLocals) {argsL rest : List Value} (hlen : ∀ sig, parseMethodDescriptor y.desc = some sig → argsL.length = sig.parameters.length)
    (hstack : g.stack = argsL.reverse ++ rest) (hW : 2 * g.monitorRoom + (rest.map fun v => v.category).sum ≤ W9) (hdg : decode c.code g.pc = .ok (.invokestatic index, 3))
    (hpre : ∀ vm₁, s.WarmedH vm₁ → Pre ⟨T.setVm vm₁, locs, cells, slots⟩ argsL.toArray) :
    (∃ (v : Option Value) (vm₁ : Vm) (B : Pt), s.WarmedH vm₁ ∧ Stand p l e R s m args below meth c B.U B.locs B.cells B.slots ∧ Post ⟨T.setVm vm₁, locs, cells, slots⟩ argsL.toArray v B ∧
      ∀ target, Steps p.tables e below (B.U.setTop { g with pc := g.pc + 3, stack := v.toList ++ rest }) target → Steps p.tables e below (T.setTop g) target) ∨
    (∃ (q : Addr) (vm₁ : Vm) (B : Pt), s.WarmedH vm₁ ∧ Stand p l e R s m args below meth c B.U B.locs B.cells B.slots ∧ PostX ⟨T.setVm vm₁, locs, cells, slots⟩ argsL.toArray q B ∧
      Steps p.tables e below (T.setTop g) ((B.U.setTop { g with stack := rest }).pushFrame (.throwing q))) := by
  obtain ⟨mk, hnamed⟩ := Cond.code_named hcode
  obtain ⟨methM, cM, hmethM, -, -, -, -, -, -, hsigM⟩ := Cond.code_spec hnamed hcode
  have hstatic : methM.isStatic = true := Cond.static_spec hnamed hmethM hstat
  obtain ⟨kP, hkP, -⟩ := className_of_methodNamed hnamed
  have hinitP : kP.init = .initialized := Cond.initialized_spec (findClass_of_methodNamed hnamed) hkP hinit
  obtain ⟨vm₁, X₁, hstep₁⟩ := X.invokestatic hexec hown hlink hnamed hmethM hstatic hkP hinitP hy (g := g) hg (argsL := argsL) (rest := rest) (hlen _ hsigM) hstack hdg
  rcases hK m meth c ⟨T.setVm vm₁, locs, cells, slots⟩ { g with stack := rest } (.invokestatic index) mk argsL.toArray X₁ hg hsize hdg hW (X₁.named hnamed) (hpre vm₁ X₁.warmed) with ⟨v, B, X', hpost, hsteps⟩ | ⟨q, B, X', hpost, hsteps⟩
  · exact Or.inl ⟨v, vm₁, B, X₁.warmed, X', hpost, fun target h => hstep₁ _ fun acts => by rw [doInvoke_state]; exact hsteps.trans h⟩
  · exact Or.inr ⟨q, vm₁, B, X₁.warmed, X', hpost, hstep₁ _ fun acts => by rw [doInvoke_state]; exact hsteps⟩
end Calls
theorem vx_cls {s : State} {T : State} {vm₁ : Vm} {E : String} {k : ClassId} (hW : s.WarmedH vm₁) (h : (T.setVm vm₁).vm.findClass E = some k) : s.vm.findClass E = some k := by
  have h1 : vm₁.findClass E = some k := h
  rw [hW.alike.findClass] at h1
  exact h1
/-- the method's frame g, with q thrown over it -/
def vx_W (p : Program) (l : Launch) (e : Env) (R : Room) (s : State) (m : MethodId) (args : Array Value) (below : List Frame) (meth : Method) (c : Code) (H : Heap) (locs : List Loc) (cells slots : Nat) (Q : State → Prop) (g : JFrame) (q : Addr) : Prop :=
  ∀ T : State, T.heap = H → Stand p l e R s m args below meth c T locs cells slots → ∃ t, Steps p.tables e below ((T.setTop g).pushFrame (.throwing q)) t ∧ Q t
def vx_Run (p : Program) (l : Launch) (e : Env) (R : Room) (s : State) (m : MethodId) (args : Array Value) (below : List Frame) (meth : Method) (c : Code) (H : Heap) (locs : List Loc) (cells slots mc ms : Nat) (g : JFrame) (rest : List Value) (Qa : State → Outcome → State → Prop) (XC : String → State → State → Prop) (free : Addr → Prop) : Prop :=
  ∀ T : State, T.heap = H → Stand p l e R s m args below meth c T locs cells slots →
    (∃ (v : Option Value) (st₀ t T' : State) (L : List Loc), st₀.heap = H ∧ Stand p l e R s m args below meth c T' (locs ++ L) (cells + mc) (slots + ms) ∧ (∀ q ∈ L, free q.base) ∧ T'.heap = t.heap ∧ T'.vm = t.vm ∧ Qa st₀ (.returned v) t ∧
      Goes p e below T g T' { g with pc := g.pc + 3, stack := v.toList ++ rest }) ∨
    (∃ (q : Addr) (st₀ t T' : State) (L : List Loc) (E : String) (ce : Cell), st₀.heap = H ∧ Stand p l e R s m args below meth c T' (locs ++ L) (cells + mc) (slots + ms) ∧ (∀ z ∈ L, free z.base) ∧ T'.heap = t.heap ∧ T'.vm = t.vm ∧ XC E st₀ t ∧ t.heap[q]? = some ce ∧ ce.vm = .none ∧ s.vm.findClass E = some ce.cls ∧
      Steps p.tables e below (T.setTop g) ((T'.setTop { g with stack := rest }).pushFrame (.throwing q)))
def vx_X {S : Type} (px : S → Prop) (B : String → S → State → Prop) (A : Nat → Prop) : String → State → State → Prop := fun E st t => ∃ u : S, px u ∧ B E u t ∧ va_F A st t
section Runs
variable {p : Program} {l : Launch} {e : Env} {R : Room} {s : State} {m : MethodId} {args : Array Value} {below : List Frame} {meth : Method} {c : Code} {H : Heap} {locs : List Loc} {cells slots : Nat}
variable {y : MethodName} {bytes cc : ByteArray} {maxL nL mc ms n index : Nat} {ret : Option FieldType} {ws : List Cond} {rm : Room} {Pc : Array Value → State → Prop} {Qc : Array Value → State → Outcome → State → Prop} {XC : String → State → State → Prop} {free : Addr → Prop} {Ts : List Cond} {own C : String} {b : Addr} {As rest : List Value} {g : JFrame}
theorem vx_callBack (cb : CallB R s args own index y bytes maxL ret ws rm mc ms n) (hM : vx_Met l y ws rm Pc Qc XC mc ms free) (hbl : FrameBlind Pc) : vx_Back l R p e below s args y 3 8 (PreOf R mc ms Pc) (PostOf Qc mc ms free) (vx_Post XC mc ms free) := by
  obtain ⟨hrc, hrs, hfr, hlo, hws, hcw, -, hini, -⟩ := cb
  exact vx_back (bytes := bytes) (maxL := maxL) (ret := ret) hM hbl hrc hrs hfr hlo hws hcw (fun a' U hW => word_at hW (Or.inl (by first | rfl | simp [Cond.onTables, Cond.keeps, Cond.steady])) hini)
theorem vx_runV (S : CallFix p m c cc nL s args Ts own) (hM : vx_Met l y ws rm Pc Qc XC mc ms free) (cw : CallW R s args own C index y bytes maxL ret ws rm mc ms n) (hp : PreV s H C b Pc As)
    (hg : g.method = m) (hn : As.length = n) (hsize : g.locals.size = nL) (hstack : g.stack = As.reverse ++ .ref b :: rest) (hW : 2 * g.monitorRoom + (rest.map fun v => v.category).sum ≤ 8) (hdg : decode cc g.pc = .ok (.invokevirtual index, 3)) (hf : cells + mc ≤ R.cells ∧ slots + ms ≤ R.slots) :
    vx_Run p l e R s m args below meth c H locs cells slots mc ms g rest (Qc (Value.ref b :: As).toArray) XC free := by
  have hK : vx_Back l R p e below s args y 3 8 (PreOf R mc ms Pc) (PostOf Qc mc ms free) (vx_Post XC mc ms free) := vx_callBack cw.1 hM hp.1
  obtain ⟨⟨-, -, -, -, -, -, hcode, -, hy, hlen, hl⟩, hin, hse⟩ := cw
  obtain ⟨hx, hb, hml, ho, -⟩ := S
  obtain ⟨-, ⟨cellB, hcB, hoB, hclB⟩, hPc⟩ := hp
  intro T hT X
  rcases vx_callV X hx (C := C) (bytes := bytes) (maxL := maxL) (ret := ret) ho hl hin hse hcode hy hK (by rw [hT]; exact hcB) hoB hclB hg (hsize.trans hml.symm) (argsL := As) (rest := rest) (fun sig h => hn.trans (hlen sig h)) hstack hW (by rw [hb]; exact hdg)
    (fun vm₁ hW₁ => ⟨hf.1, hf.2, hPc (T.setVm vm₁) hT hW₁⟩) with ⟨v, vm₁, ⟨U', l2, c2, s2⟩, hW₁, X', ⟨g', mk, t, L, e1, e2, hq, h1, hL, h2, h3⟩, st⟩ | ⟨q, vm₁, ⟨U', l2, c2, s2⟩, hW₁, X', ⟨g', mk, t, L, E, ce, e1, e2, hq, hce, hcv, hcl, h1, hL, h2, h3⟩, st⟩
  · dsimp only [Pt.U, Pt.locs, Pt.cells, Pt.slots] at X' e1 e2 h1 h2 h3 st
    subst h1; subst h2; subst h3
    exact Or.inl ⟨v, (T.setVm vm₁).calling g' mk (Value.ref b :: As).toArray, t, U', L, hT, X', hL, e1, e2, hq, st⟩
  · dsimp only [Pt.U, Pt.locs, Pt.cells, Pt.slots] at X' e1 e2 h1 h2 h3 st hcl
    subst h1; subst h2; subst h3
    exact Or.inr ⟨q, (T.setVm vm₁).calling g' mk (Value.ref b :: As).toArray, t, U', L, E, ce, hT, X', hL, e1, e2, hq, hce, hcv, vx_cls hW₁ hcl, st⟩
theorem vx_runS (S : CallFix p m c cc nL s args Ts own) (hM : vx_Met l y ws rm Pc Qc XC mc ms free) (cw : CallB R s args own index y bytes maxL ret ws rm mc ms n ∧ (Cond.static y).before args s = true) (hp : PreS s H Pc As)
    (hg : g.method = m) (hn : As.length = n) (hsize : g.locals.size = nL) (hstack : g.stack = As.reverse ++ rest) (hW : 2 * g.monitorRoom + (rest.map fun v => v.category).sum ≤ 8) (hdg : decode cc g.pc = .ok (.invokestatic index, 3)) (hf : cells + mc ≤ R.cells ∧ slots + ms ≤ R.slots) :
    vx_Run p l e R s m args below meth c H locs cells slots mc ms g rest (Qc As.toArray) XC free := by
  have hK : vx_Back l R p e below s args y 3 8 (PreOf R mc ms Pc) (PostOf Qc mc ms free) (vx_Post XC mc ms free) := vx_callBack cw.1 hM hp.1
  obtain ⟨⟨-, -, -, -, -, -, hcode, hini, hy, hlen, hl⟩, hstt⟩ := cw
  obtain ⟨hx, hb, hml, ho, -⟩ := S
  intro T hT X
  rcases vx_callS X hx (bytes := bytes) (maxL := maxL) (ret := ret) ho hl hstt hini hcode hy hK hg (hsize.trans hml.symm) (argsL := As) (rest := rest) (fun sig h => hn.trans (hlen sig h)) hstack hW (by rw [hb]; exact hdg)
    (fun vm₁ hW₁ => ⟨hf.1, hf.2, hp.2 (T.setVm vm₁) hT hW₁⟩) with ⟨v, vm₁, ⟨U', l2, c2, s2⟩, hW₁, X', ⟨g', mk, t, L, e1, e2, hq, h1, hL, h2, h3⟩, st⟩ | ⟨q, vm₁, ⟨U', l2, c2, s2⟩, hW₁, X', ⟨g', mk, t, L, E, ce, e1, e2, hq, hce, hcv, hcl, h1, hL, h2, h3⟩, st⟩
  · dsimp only [Pt.U, Pt.locs, Pt.cells, Pt.slots] at X' e1 e2 h1 h2 h3 st
    subst h1; subst h2; subst h3
    exact Or.inl ⟨v, (T.setVm vm₁).calling g' mk As.toArray, t, U', L, hT, X', hL, e1, e2, hq, st⟩
  · dsimp only [Pt.U, Pt.locs, Pt.cells, Pt.slots] at X' e1 e2 h1 h2 h3 st hcl
    subst h1; subst h2; subst h3
    exact Or.inr ⟨q, (T.setVm vm₁).calling g' mk As.toArray, t, U', L, E, ce, hT, X', hL, e1, e2, hq, hce, hcv, vx_cls hW₁ hcl, st⟩
end Runs
section Rows
variable {p : Program} {l : Launch} {e : Env} {R : Room} {s : State} {m : MethodId} {args : Array Value} {below : List Frame} {meth : Method} {c : Code} {H : Heap} {locs : List Loc} {cells slots : Nat} {Q : State → Prop}
variable {mc ms : Nat} {free : Addr → Prop} {A0 A1 : Nat → Prop} {H0 : Heap} {a : Array Value} {pc : Nat} {ls : Array Slot} {st0 rest : List Value}
theorem vx_keep {st₀ t T' : State} {L : List Loc} (h0 : st₀.heap = H) (e1 : T'.heap = t.heap) (hS : va_S A0 H0 H locs) (hA : ∀ q, q < H.size → A1 q → A0 q) (hf : ∀ q, free q → A0 q) (hL : ∀ q ∈ L, free q.base) (hF : va_F A1 st₀ t) :
    H.size ≤ T'.heap.size ∧ (∀ q : Nat, q < H.size → ¬ A1 q → T'.heap[q]? = H[q]?) ∧ va_S A0 H0 T'.heap (locs ++ L) := by
  obtain ⟨hz, hk⟩ := hF
  rw [h0] at hz hk
  exact ⟨by rw [e1]; exact hz, fun q h1 h2 => by rw [e1]; exact hk q h1 h2,
    ⟨Nat.le_trans hS.1 (by rw [e1]; exact hz), fun q h1 h2 => by rw [e1, hk q (Nat.lt_of_lt_of_le h1 hS.1) (fun z => h2 (hA q (Nat.lt_of_lt_of_le h1 hS.1) z))]; exact hS.2.1 q h1 h2, fun q hq => by
      rcases List.mem_append.mp hq with h | h
      · exact hS.2.2 q h
      · exact hf _ (hL q h)⟩⟩
theorem vx_calli {S SX : Type} {post : Int32 → S → Prop} {px : SX → Prop} {B : S → State → Prop} {BX : String → SX → State → Prop} {AX : Nat → Prop} (hr : vx_Run p l e R s m args below meth c H locs cells slots mc ms (F0 m pc ls st0) rest (va_Qi post B A1 a) (vx_X px BX AX) free) (hS : va_S A0 H0 H locs) (hA : ∀ q, q < H.size → A1 q → A0 q) (hf : ∀ q, free q → A0 q) (hAX : ∀ q, q < H.size → AX q → A0 q)
    (kx : ∀ (E : String) (ce : Cell) (q9 : Addr) (u : SX) (t : State) (H1 : Heap) (locs1 : List Loc), t.heap = H1 → s.vm.Alike t.vm → px u → BX E u t → H.size ≤ H1.size → (∀ q : Nat, q < H.size → ¬ AX q → H1[q]? = H[q]?) → va_S A0 H0 H1 locs1 → H1[q9]? = some ce → ce.vm = .none → s.vm.findClass E = some ce.cls → vx_W p l e R s m args below meth c H1 locs1 (cells + mc) (slots + ms) Q (F0 m pc ls rest) q9)
    (kk : ∀ (r : Int32) (u : S) (t : State) (H1 : Heap) (locs1 : List Loc), t.heap = H1 → s.vm.Alike t.vm → post r u → B u t → H.size ≤ H1.size → (∀ q : Nat, q < H.size → ¬ A1 q → H1[q]? = H[q]?) → va_S A0 H0 H1 locs1 → W p l e R s m args below meth c H1 locs1 (cells + mc) (slots + ms) Q (F0 m (pc + 3) ls (.int r :: rest))) : W p l e R s m args below meth c H locs cells slots Q (F0 m pc ls st0) := by
  intro T hT X
  rcases hr T hT X with ⟨v, st₀, t, T', L, h0, X', hL, e1, e2, ⟨⟨r, u, hv, hp, hb⟩, hF⟩, st⟩ | ⟨q, st₀, t, T', L, E, ce, h0, X', hL, e1, e2, ⟨u, hp, hb, hF⟩, hce, hcv, hcl, st⟩
  · cases hv
    obtain ⟨k1, k2, k3⟩ := vx_keep h0 e1 hS hA hf hL hF
    obtain ⟨t2, a1, b1⟩ := kk r u t T'.heap (locs ++ L) e1.symm (by rw [← e2]; exact X'.warmed.alike) hp hb k1 k2 k3 T' rfl X'
    exact ⟨t2, st t2 a1, b1⟩
  · obtain ⟨k1, k2, k3⟩ := vx_keep h0 e1 hS hAX hf hL hF
    obtain ⟨t2, a1, b1⟩ := kx E ce q u t T'.heap (locs ++ L) e1.symm (by rw [← e2]; exact X'.warmed.alike) hp hb k1 k2 k3 (by rw [e1]; exact hce) hcv hcl T' rfl X'
    exact ⟨t2, st.trans a1, b1⟩
theorem vx_calll {S SX : Type} {post : Int64 → S → Prop} {px : SX → Prop} {B : S → State → Prop} {BX : String → SX → State → Prop} {AX : Nat → Prop} (hr : vx_Run p l e R s m args below meth c H locs cells slots mc ms (F0 m pc ls st0) rest (va_Ql post B A1 a) (vx_X px BX AX) free) (hS : va_S A0 H0 H locs) (hA : ∀ q, q < H.size → A1 q → A0 q) (hf : ∀ q, free q → A0 q) (hAX : ∀ q, q < H.size → AX q → A0 q)
    (kx : ∀ (E : String) (ce : Cell) (q9 : Addr) (u : SX) (t : State) (H1 : Heap) (locs1 : List Loc), t.heap = H1 → s.vm.Alike t.vm → px u → BX E u t → H.size ≤ H1.size → (∀ q : Nat, q < H.size → ¬ AX q → H1[q]? = H[q]?) → va_S A0 H0 H1 locs1 → H1[q9]? = some ce → ce.vm = .none → s.vm.findClass E = some ce.cls → vx_W p l e R s m args below meth c H1 locs1 (cells + mc) (slots + ms) Q (F0 m pc ls rest) q9)
    (kk : ∀ (r : Int64) (u : S) (t : State) (H1 : Heap) (locs1 : List Loc), t.heap = H1 → s.vm.Alike t.vm → post r u → B u t → H.size ≤ H1.size → (∀ q : Nat, q < H.size → ¬ A1 q → H1[q]? = H[q]?) → va_S A0 H0 H1 locs1 → W p l e R s m args below meth c H1 locs1 (cells + mc) (slots + ms) Q (F0 m (pc + 3) ls (.long r :: rest))) : W p l e R s m args below meth c H locs cells slots Q (F0 m pc ls st0) := by
  intro T hT X
  rcases hr T hT X with ⟨v, st₀, t, T', L, h0, X', hL, e1, e2, ⟨⟨r, u, hv, hp, hb⟩, hF⟩, st⟩ | ⟨q, st₀, t, T', L, E, ce, h0, X', hL, e1, e2, ⟨u, hp, hb, hF⟩, hce, hcv, hcl, st⟩
  · cases hv
    obtain ⟨k1, k2, k3⟩ := vx_keep h0 e1 hS hA hf hL hF
    obtain ⟨t2, a1, b1⟩ := kk r u t T'.heap (locs ++ L) e1.symm (by rw [← e2]; exact X'.warmed.alike) hp hb k1 k2 k3 T' rfl X'
    exact ⟨t2, st t2 a1, b1⟩
  · obtain ⟨k1, k2, k3⟩ := vx_keep h0 e1 hS hAX hf hL hF
    obtain ⟨t2, a1, b1⟩ := kx E ce q u t T'.heap (locs ++ L) e1.symm (by rw [← e2]; exact X'.warmed.alike) hp hb k1 k2 k3 (by rw [e1]; exact hce) hcv hcl T' rfl X'
    exact ⟨t2, st.trans a1, b1⟩
theorem vx_callf {S SX : Type} {post : UInt32 → S → Prop} {px : SX → Prop} {B : S → State → Prop} {BX : String → SX → State → Prop} {AX : Nat → Prop} (hr : vx_Run p l e R s m args below meth c H locs cells slots mc ms (F0 m pc ls st0) rest (va_Qf post B A1 a) (vx_X px BX AX) free) (hS : va_S A0 H0 H locs) (hA : ∀ q, q < H.size → A1 q → A0 q) (hf : ∀ q, free q → A0 q) (hAX : ∀ q, q < H.size → AX q → A0 q)
    (kx : ∀ (E : String) (ce : Cell) (q9 : Addr) (u : SX) (t : State) (H1 : Heap) (locs1 : List Loc), t.heap = H1 → s.vm.Alike t.vm → px u → BX E u t → H.size ≤ H1.size → (∀ q : Nat, q < H.size → ¬ AX q → H1[q]? = H[q]?) → va_S A0 H0 H1 locs1 → H1[q9]? = some ce → ce.vm = .none → s.vm.findClass E = some ce.cls → vx_W p l e R s m args below meth c H1 locs1 (cells + mc) (slots + ms) Q (F0 m pc ls rest) q9)
    (kk : ∀ (r : UInt32) (u : S) (t : State) (H1 : Heap) (locs1 : List Loc), t.heap = H1 → s.vm.Alike t.vm → post r u → B u t → H.size ≤ H1.size → (∀ q : Nat, q < H.size → ¬ A1 q → H1[q]? = H[q]?) → va_S A0 H0 H1 locs1 → W p l e R s m args below meth c H1 locs1 (cells + mc) (slots + ms) Q (F0 m (pc + 3) ls (.float r :: rest))) : W p l e R s m args below meth c H locs cells slots Q (F0 m pc ls st0) := by
  intro T hT X
  rcases hr T hT X with ⟨v, st₀, t, T', L, h0, X', hL, e1, e2, ⟨⟨r, u, hv, hp, hb⟩, hF⟩, st⟩ | ⟨q, st₀, t, T', L, E, ce, h0, X', hL, e1, e2, ⟨u, hp, hb, hF⟩, hce, hcv, hcl, st⟩
  · cases hv
    obtain ⟨k1, k2, k3⟩ := vx_keep h0 e1 hS hA hf hL hF
    obtain ⟨t2, a1, b1⟩ := kk r u t T'.heap (locs ++ L) e1.symm (by rw [← e2]; exact X'.warmed.alike) hp hb k1 k2 k3 T' rfl X'
    exact ⟨t2, st t2 a1, b1⟩
  · obtain ⟨k1, k2, k3⟩ := vx_keep h0 e1 hS hAX hf hL hF
    obtain ⟨t2, a1, b1⟩ := kx E ce q u t T'.heap (locs ++ L) e1.symm (by rw [← e2]; exact X'.warmed.alike) hp hb k1 k2 k3 (by rw [e1]; exact hce) hcv hcl T' rfl X'
    exact ⟨t2, st.trans a1, b1⟩
theorem vx_calld {S SX : Type} {post : UInt64 → S → Prop} {px : SX → Prop} {B : S → State → Prop} {BX : String → SX → State → Prop} {AX : Nat → Prop} (hr : vx_Run p l e R s m args below meth c H locs cells slots mc ms (F0 m pc ls st0) rest (va_Qd post B A1 a) (vx_X px BX AX) free) (hS : va_S A0 H0 H locs) (hA : ∀ q, q < H.size → A1 q → A0 q) (hf : ∀ q, free q → A0 q) (hAX : ∀ q, q < H.size → AX q → A0 q)
    (kx : ∀ (E : String) (ce : Cell) (q9 : Addr) (u : SX) (t : State) (H1 : Heap) (locs1 : List Loc), t.heap = H1 → s.vm.Alike t.vm → px u → BX E u t → H.size ≤ H1.size → (∀ q : Nat, q < H.size → ¬ AX q → H1[q]? = H[q]?) → va_S A0 H0 H1 locs1 → H1[q9]? = some ce → ce.vm = .none → s.vm.findClass E = some ce.cls → vx_W p l e R s m args below meth c H1 locs1 (cells + mc) (slots + ms) Q (F0 m pc ls rest) q9)
    (kk : ∀ (r : UInt64) (u : S) (t : State) (H1 : Heap) (locs1 : List Loc), t.heap = H1 → s.vm.Alike t.vm → post r u → B u t → H.size ≤ H1.size → (∀ q : Nat, q < H.size → ¬ A1 q → H1[q]? = H[q]?) → va_S A0 H0 H1 locs1 → W p l e R s m args below meth c H1 locs1 (cells + mc) (slots + ms) Q (F0 m (pc + 3) ls (.double r :: rest))) : W p l e R s m args below meth c H locs cells slots Q (F0 m pc ls st0) := by
  intro T hT X
  rcases hr T hT X with ⟨v, st₀, t, T', L, h0, X', hL, e1, e2, ⟨⟨r, u, hv, hp, hb⟩, hF⟩, st⟩ | ⟨q, st₀, t, T', L, E, ce, h0, X', hL, e1, e2, ⟨u, hp, hb, hF⟩, hce, hcv, hcl, st⟩
  · cases hv
    obtain ⟨k1, k2, k3⟩ := vx_keep h0 e1 hS hA hf hL hF
    obtain ⟨t2, a1, b1⟩ := kk r u t T'.heap (locs ++ L) e1.symm (by rw [← e2]; exact X'.warmed.alike) hp hb k1 k2 k3 T' rfl X'
    exact ⟨t2, st t2 a1, b1⟩
  · obtain ⟨k1, k2, k3⟩ := vx_keep h0 e1 hS hAX hf hL hF
    obtain ⟨t2, a1, b1⟩ := kx E ce q u t T'.heap (locs ++ L) e1.symm (by rw [← e2]; exact X'.warmed.alike) hp hb k1 k2 k3 (by rw [e1]; exact hce) hcv hcl T' rfl X'
    exact ⟨t2, st.trans a1, b1⟩
theorem vx_callv {S SX : Type} {post : S → Prop} {px : SX → Prop} {B : S → State → Prop} {BX : String → SX → State → Prop} {AX : Nat → Prop} (hr : vx_Run p l e R s m args below meth c H locs cells slots mc ms (F0 m pc ls st0) rest (va_Qv post B A1 a) (vx_X px BX AX) free) (hS : va_S A0 H0 H locs) (hA : ∀ q, q < H.size → A1 q → A0 q) (hf : ∀ q, free q → A0 q) (hAX : ∀ q, q < H.size → AX q → A0 q)
    (kx : ∀ (E : String) (ce : Cell) (q9 : Addr) (u : SX) (t : State) (H1 : Heap) (locs1 : List Loc), t.heap = H1 → s.vm.Alike t.vm → px u → BX E u t → H.size ≤ H1.size → (∀ q : Nat, q < H.size → ¬ AX q → H1[q]? = H[q]?) → va_S A0 H0 H1 locs1 → H1[q9]? = some ce → ce.vm = .none → s.vm.findClass E = some ce.cls → vx_W p l e R s m args below meth c H1 locs1 (cells + mc) (slots + ms) Q (F0 m pc ls rest) q9)
    (kk : ∀ (u : S) (t : State) (H1 : Heap) (locs1 : List Loc), t.heap = H1 → s.vm.Alike t.vm → post u → B u t → H.size ≤ H1.size → (∀ q : Nat, q < H.size → ¬ A1 q → H1[q]? = H[q]?) → va_S A0 H0 H1 locs1 → W p l e R s m args below meth c H1 locs1 (cells + mc) (slots + ms) Q (F0 m (pc + 3) ls (rest))) : W p l e R s m args below meth c H locs cells slots Q (F0 m pc ls st0) := by
  intro T hT X
  rcases hr T hT X with ⟨v, st₀, t, T', L, h0, X', hL, e1, e2, ⟨⟨u, hv, hp, hb⟩, hF⟩, st⟩ | ⟨q, st₀, t, T', L, E, ce, h0, X', hL, e1, e2, ⟨u, hp, hb, hF⟩, hce, hcv, hcl, st⟩
  · cases hv
    obtain ⟨k1, k2, k3⟩ := vx_keep h0 e1 hS hA hf hL hF
    obtain ⟨t2, a1, b1⟩ := kk u t T'.heap (locs ++ L) e1.symm (by rw [← e2]; exact X'.warmed.alike) hp hb k1 k2 k3 T' rfl X'
    exact ⟨t2, st t2 a1, b1⟩
  · obtain ⟨k1, k2, k3⟩ := vx_keep h0 e1 hS hAX hf hL hF
    obtain ⟨t2, a1, b1⟩ := kx E ce q u t T'.heap (locs ++ L) e1.symm (by rw [← e2]; exact X'.warmed.alike) hp hb k1 k2 k3 (by rw [e1]; exact hce) hcv hcl T' rfl X'
    exact ⟨t2, st.trans a1, b1⟩
/-- caught by the row x of this method's table; the rows ahead don't take it -/
theorem vx_catch {own name : String} {E : String} {ce : Cell} {q : Addr} (hown : s.vm.findClass own = some m.cls) (pre : List ExceptionTableEntry) (x : ExceptionTableEntry) (suf : List ExceptionTableEntry) (hsplit : c.exceptionTable.toList = pre ++ x :: suf)
    (hpass : ∀ z ∈ pre, covers z pc = false ∨ (z.catchType ≠ 0 ∧ ∃ nm : String, (Cond.classLink own z.catchType nm).before args s = true ∧ va_Nc E nm s)) (hx : covers x pc = true) (h0 : x.catchType ≠ 0)
    (hlink : (Cond.classLink own x.catchType name).before args s = true) (hcast : (Cond.castable E name).before args s = true) (hcell : H[q]? = some ce) (hv : ce.vm = .none) (hcl : s.vm.findClass E = some ce.cls)
    (kk : W p l e R s m args below meth c H locs cells slots Q (F0 m x.handlerPc ls [.ref q])) : vx_W p l e R s m args below meth c H locs cells slots Q (F0 m pc ls rest) q := by
  intro T hT X
  have hpl : e.platform.magicAccessors = ({} : Platform).magicAccessors := by rw [X.admits.platform]
  obtain ⟨c3, c4, hc3, hc4, hasg⟩ := Cond.castable_spec hcast
  cases Option.some.inj (hc3.symm.trans hcl)
  obtain ⟨c5, hc5, hcl5⟩ := Cond.classLink_spec hown hlink e.platform hpl
  cases Option.some.inj (hc4.symm.trans hc5)
  obtain ⟨vm', X', st⟩ := X.thenCaughtThrough q (g := F0 m pc ls rest) rfl (Steps.refl _) (by rw [hT]; exact hcell) (by rw [hv]; rfl) (by obtain ⟨k9, h9, -⟩ := Vm.findClass_spec hcl; exact ⟨k9, h9⟩) pre x suf hsplit
    (fun z hz => by
      rcases hpass z hz with h | ⟨hz0, nm, hl1, hn1⟩
      · exact Or.inl h
      · obtain ⟨c6, hc6, hcl6⟩ := Cond.classLink_spec hown hl1 e.platform hpl
        obtain ⟨a8, b8, h1, h2, h3⟩ := hn1
        cases Option.some.inj (h1.symm.trans hcl)
        cases Option.some.inj (h2.symm.trans hc6)
        exact Or.inr ⟨hz0, _, hcl6, h3⟩) hx (Or.inr ⟨h0, c4, hcl5, hasg⟩)
  obtain ⟨t, a1, b1⟩ := kk (T.setVm vm') hT X'
  exact ⟨t, st.trans a1, b1⟩
end Rows
section Ends
variable {p : Program} {l : Launch} {e : Env} {R : Room} {s : State} {m : MethodId} {args : Array Value} {below : List Frame} {meth : Method} {c : Code} {H : Heap} {locs : List Loc} {cells slots : Nat} {Q : State → Prop}
variable {mc ms : Nat} {free : Addr → Prop} {A0 A1 : Nat → Prop} {H0 : Heap} {a : Array Value} {ls : Array Slot} {st0 rest : List Value}
variable {Qc : Array Value → State → Outcome → State → Prop} {XC : String → State → State → Prop}
/-- what a body that may throw owes at its end -/
def vx_MQ (below : List Frame) (Qc : Array Value → State → Outcome → State → Prop) (XC : String → State → State → Prop) (a : Array Value) (s : State) (mc ms : Nat) (free : Addr → Prop) : State → Prop := fun t =>
  ∃ o, t.status = .running ∧ Ended t below o ∧ vx_Q Qc XC mc ms free a s o t
theorem vx_ret {g : JFrame} {mc ms : Nat} (k : W p l e R s m args below meth c H locs cells slots (MQ below Qc args s mc ms free) g) : W p l e R s m args below meth c H locs cells slots (vx_MQ below Qc XC args s mc ms free) g := by
  intro T hT X
  obtain ⟨t, a1, o, b1, b2, b3, b4⟩ := k T hT X
  exact ⟨t, a1, o, b1, b2, Or.inl ⟨b3, b4⟩⟩
/-- not caught here: it goes on to the caller -/
theorem vx_widen {g : JFrame} {q : Addr} {k n : Nat} (h1 : cells ≤ k) (h2 : slots ≤ n) (kk : vx_W p l e R s m args below meth c H locs k n Q g q) : vx_W p l e R s m args below meth c H locs cells slots Q g q := fun T hT X => kk T hT (stand_widen X h1 h2)
theorem vx_out {pc : Nat} {E : String} {ce : Cell} {q : Addr} {mc ms : Nat} (hout : ∀ x ∈ c.exceptionTable.toList, covers x pc = false) (hlocks : meth.locks = false) (hcell : H[q]? = some ce) (hv : ce.vm = .none) (hcl : s.vm.findClass E = some ce.cls)
    (hx : ∀ t : State, t.heap = H → s.vm.Alike t.vm → XC E s t) (hf : ∀ z ∈ locs, free z.base) (hc : cells ≤ mc) (hs : slots ≤ ms) :
    vx_W p l e R s m args below meth c H locs cells slots (vx_MQ below Qc XC args s mc ms free) (F0 m pc ls rest) q := by
  intro T hT X
  obtain ⟨st1, hrun, hend, hW, hsm⟩ := X.leaveThrown q (g := F0 m pc ls rest) rfl rfl rfl hout hlocks
  have hcell9 : (T.setFrames (.throwing q :: below)).heap[q]? = some ce := by
    show T.heap[q]? = some ce
    rw [hT]; exact hcell
  exact ⟨_, st1, .threw q, hrun, hend, Or.inr ⟨q, rfl, E, ce, locs, hx _ hT hW.alike, hcell9, hv, hcl, hW, hsm.mono hc hs, hf⟩⟩
theorem vx_frame {U : State} {k n : Nat} (h : s.sameButNew ({ U with vm := s.vm } : State) locs k n) : s.heap.size ≤ U.heap.size ∧ ∀ q : Nat, q < s.heap.size → (∀ z ∈ locs, z.base ≠ q) → U.heap[q]? = s.heap[q]? := by
  obtain ⟨-, h2, -, -, -, h6⟩ := h
  refine ⟨h2, fun q hq hz => ?_⟩
  obtain ⟨c9, e1, e2, e3, e4⟩ := h6 q _ (Array.getElem?_eq_getElem hq)
  have hs : c9.slots = (s.heap[q]).slots := Array.ext_getElem? fun i => e4 i fun hm => hz _ hm rfl
  have h9 : c9 = s.heap[q] := by
    rw [hs] at e2
    exact e2
  have e5 : U.heap[q]? = some c9 := e1
  rw [e5, h9, Array.getElem?_eq_getElem hq]
/-- the words of a throw but the four that speak of the heap -/
def vx_no (w : Cond) : Bool := decide (w ≠ .isRef (.static Bundle.tN "UNASSIGNED_STACK" Bundle.steD)) && decide (w ≠ .isRef (.static Bundle.tN "SUPPRESSED_SENTINEL" Bundle.listD)) && decide (w ≠ .laysStatic Bundle.tN "UNASSIGNED_STACK" Bundle.steD) && decide (w ≠ .laysStatic Bundle.tN "SUPPRESSED_SENTINEL" Bundle.listD)
def vx_at0 (own : String) (ic : Nat) (X : String) (names : List String) : List Cond := (Bundle.ownAtoms0 own ic X names).filter vx_no
def vx_atS (own : String) (ic : Nat) (X : String) (names : List String) : List Cond := (Bundle.ownAtoms own ic X names).filter vx_no
/-- a word that the tables alone decide, or a good one -/
def vx_ot (w : Cond) : Bool := w.onTables || goodWord w
theorem vx_ot_at {args a' : Array Value} {s U : State} {w : Cond} (hW : s.WarmedH U.vm) (hvm : s.vm = U.vm) (hg : vx_ot w = true) (h : w.before args s = true) : w.before a' U = true := by
  simp only [vx_ot, Bool.or_eq_true] at hg
  rcases hg with hg | hg
  · exact va_tabs hg hvm h
  · exact word_at hW (good_of_word hg) h
/-- a list's words: the good ones out of the method's own list, the others by premises of their own -/
theorem vx_hat {args : Array Value} {s : State} {L B : List Cond} (h1 : ∀ w ∈ L.filter goodWord, w.before args s = true) (h2 : ∀ w ∈ L.filter (fun w => !goodWord w), w ∈ B) (h3 : ∀ w ∈ B, w.before args s = true) : ∀ w ∈ L, w.before args s = true := by
  intro w hw
  by_cases g : goodWord w = true
  · exact h1 w (List.mem_filter.mpr ⟨hw, g⟩)
  · refine h3 w (h2 w (List.mem_filter.mpr ⟨hw, ?_⟩))
    show (!goodWord w) = true
    cases hgw : goodWord w
    · rfl
    · exact absurd hgw g
theorem vx_c {args : Array Value} {s : State} {w : Cond} {B : List Cond} (h : w.before args s = true) (t : ∀ w ∈ B, w.before args s = true) : ∀ w' ∈ w :: B, w'.before args s = true := fun w' h' => (List.mem_cons.mp h').elim (fun e => by rw [e]; exact h) (t w')
theorem vx_n {args : Array Value} {s : State} : ∀ w ∈ ([] : List Cond), w.before args s = true := fun _ h => nomatch h
theorem vx_own {args : Array Value} {s : State} {L : List Cond} (h1 : ∀ w ∈ L.filter vx_no, w.before args s = true)
    (hU : (Cond.isRef (.static Bundle.tN "UNASSIGNED_STACK" Bundle.steD)).before args s = true) (hN : (Cond.isRef (.static Bundle.tN "SUPPRESSED_SENTINEL" Bundle.listD)).before args s = true)
    (lU : (Cond.laysStatic Bundle.tN "UNASSIGNED_STACK" Bundle.steD).before args s = true) (lN : (Cond.laysStatic Bundle.tN "SUPPRESSED_SENTINEL" Bundle.listD).before args s = true) : ∀ w ∈ L, w.before args s = true := by
  intro w hw
  by_cases e1 : w = .isRef (.static Bundle.tN "UNASSIGNED_STACK" Bundle.steD)
  · rw [e1]; exact hU
  · by_cases e2 : w = .isRef (.static Bundle.tN "SUPPRESSED_SENTINEL" Bundle.listD)
    · rw [e2]; exact hN
    · by_cases e3 : w = .laysStatic Bundle.tN "UNASSIGNED_STACK" Bundle.steD
      · rw [e3]; exact lU
      · by_cases e4 : w = .laysStatic Bundle.tN "SUPPRESSED_SENTINEL" Bundle.listD
        · rw [e4]; exact lN
        · exact h1 w (List.mem_filter.mpr ⟨hw, by unfold vx_no; rw [decide_eq_true e1, decide_eq_true e2, decide_eq_true e3, decide_eq_true e4]; rfl⟩)
/-- where a static field lies, its class's statics cell in H -/
def vx_L (C n d : String) (A : Nat → Prop) (U : State) (H : Heap) : Prop := ∃ (c : ClassId) (k : Class) (i : Nat) (f : Field) (a : Nat) (cell : Cell), U.vm.findClass C = some c ∧ U.fieldFound? C n d = some (c, k, i, f) ∧ f.isStatic = true ∧ k.statics = some a ∧ H[a]? = some cell ∧ cell.vm.isStatics = true ∧ cell.cls = c ∧ f.slot < cell.slots.size ∧ k.staticTypes[f.slot]? = some f.type ∧ ¬ A a
theorem vx_L.moved {C n d : String} {A : Nat → Prop} {u U : State} {H : Heap} (hvm : u.vm.Alike U.vm) (h : vx_L C n d A u H) : vx_L C n d A U H := by
  obtain ⟨c, k, i, f, a, cell, h1, h2, h3, h4, h5, h6, h7, h8, h9, h10⟩ := h
  obtain ⟨k', hi', he⟩ := State.fieldFound?_setVm hvm h2
  exact ⟨c, k', i, f, a, cell, by rw [hvm.findClass]; exact h1, hi', h3, by rw [he]; exact h4, h5, h6, h7, h8, by rw [he]; exact h9, h10⟩
theorem vx_L.kept {C n d : String} {A : Nat → Prop} {U : State} {H H1 : Heap} (h : vx_L C n d A U H) (hq : ∀ a : Nat, a < H.size → ¬ A a → H1[a]? = H[a]?) : vx_L C n d A U H1 := by
  obtain ⟨c, k, i, f, a, cell, h1, h2, h3, h4, h5, h6, h7, h8, h9, h10⟩ := h
  exact ⟨c, k, i, f, a, cell, h1, h2, h3, h4, by rw [hq a (Array.getElem?_eq_some_iff.mp h5).1 h10]; exact h5, h6, h7, h8, h9, h10⟩
theorem vx_L.narrow {C n d : String} {A B : Nat → Prop} {U : State} {H : Heap} (h : vx_L C n d A U H) (hAB : ∀ q, B q → A q) : vx_L C n d B U H := by
  obtain ⟨c, k, i, f, a, cell, h1, h2, h3, h4, h5, h6, h7, h8, h9, h10⟩ := h
  exact ⟨c, k, i, f, a, cell, h1, h2, h3, h4, h5, h6, h7, h8, h9, fun z => h10 (hAB _ z)⟩
theorem vx_L.word {C n d : String} {A : Nat → Prop} {s : State} {args : Array Value} (h : vx_L C n d A s s.heap) : (Cond.laysStatic C n d).before args s = true := by
  obtain ⟨c, k, i, f, a, cell, h1, h2, h3, h4, h5, h6, h7, h8, h9, -⟩ := h
  show (Cond.laysStatic C n d).holds args s none s [] = true
  exact Cond.laysStatic_of h1 h2 h3 h4 h5 h6 h7 h8 h9
/-- .. and what it holds: null or some reference -/
def vx_Zq (C n d : String) (A : Nat → Prop) (U : State) (H : Heap) : Prop := va_Zq C n d A U H ∧ vx_L C n d A U H
theorem vx_Zq.moved {C n d : String} {A : Nat → Prop} {u U : State} {H : Heap} (hvm : u.vm.Alike U.vm) (h : vx_Zq C n d A u H) : vx_Zq C n d A U H := ⟨va_Zq.moved hvm h.1, vx_L.moved hvm h.2⟩
theorem vx_Zq.kept {C n d : String} {A : Nat → Prop} {U : State} {H H1 : Heap} (h : vx_Zq C n d A U H) (hq : ∀ a : Nat, a < H.size → ¬ A a → H1[a]? = H[a]?) : vx_Zq C n d A U H1 := ⟨va_Zq.kept h.1 hq, vx_L.kept h.2 hq⟩
theorem vx_Zq.narrow {C n d : String} {A B : Nat → Prop} {U : State} {H : Heap} (h : vx_Zq C n d A U H) (hAB : ∀ q, B q → A q) : vx_Zq C n d B U H := ⟨va_Zq.narrow h.1 hAB, vx_L.narrow h.2 hAB⟩
theorem vx_Zqof {args : Array Value} {s : State} {C n d : String} {A : Nat → Prop} (hl : (Cond.laysStatic C n d).before args s = true) (hini : (Cond.initialized C).before args s = true) (h : (Cond.isRef (.static C n d)).before args s = true) (hA : ∀ a : Nat, a < s.heap.size → ¬ A a) : vx_Zq C n d A s s.heap := by
  refine ⟨va_Zqof hl hini h hA, ?_⟩
  obtain ⟨c, k, i, f, a, cell, h1, h2, h3, h4, h5, h6, h7, h8, h9⟩ := Cond.laysStatic_spec hl
  exact ⟨c, k, i, f, a, cell, h1, h2, h3, h4, h5, h6, h7, h8, h9, hA a (Array.getElem?_eq_some_iff.mp h5).1⟩
theorem vx_isRef {C n d : String} {v : Value} {A : Nat → Prop} {s : State} {args : Array Value} (h : va_Z C n d v A s s.heap) (hv : v.isRef = true) : (Cond.isRef (.static C n d)).before args s = true := by
  obtain ⟨cf, kf, fi, f, a, cell, h1, h2, h3, h4, h5, h6, h7, -⟩ := h
  have he : (Term.static C n d).eval args s none [] s = some v := by
    simp [Term.eval, State.fieldNamed?, h1, h2, h4, h5, h6, h7]
  simp only [Cond.before, Cond.holds, Cond.value, he]
  cases v <;> simp_all [Value.isRef]
theorem vx_isRefq {C n d : String} {A : Nat → Prop} {s : State} {args : Array Value} (h : va_Zq C n d A s s.heap) : (Cond.isRef (.static C n d)).before args s = true := by
  rcases h with h | ⟨t, h⟩
  · exact vx_isRef h rfl
  · exact vx_isRef h rfl
/-- the same frame, seen from here: as if the method were called anew in this heap -/
theorem vx_rebase {T : State} (X : Stand p l e R s m args below meth c T locs cells slots) {R' : Room} (hf : R'.frames ≤ R.frames) (hl : R'.locals ≤ R.locals) (hc : cells + R'.cells ≤ R.cells) (hs : slots + R'.slots ≤ R.slots) :
    Stand p l e R' ((T.setVm s.vm).setFrames (.invoking m args :: below)) m args below meth c T [] 0 0 := by
  have htop : (T.setVm s.vm).topJava?.isSome := X.here.top
  have hF : ((T.setVm s.vm).setFrames (.invoking m args :: below)).frames = .invoking m args :: below := State.frames_setFrames _ (State.cur_lt_of_top htop)
  obtain ⟨g₀, hg0⟩ := Option.isSome_iff_exists.mp htop
  obtain ⟨r, hr⟩ := State.topJava?_eq_some.mp hg0
  have hl9 : e.platform.stackLimits (T.setVm s.vm).me = e.platform.stackLimits s.me := X.limits
  have hb9 : (T.setVm s.vm).me.stackBytes = s.me.stackBytes := X.bytes
  refine ⟨X.admits, X.cas, X.clock, hF, ?_, X.hears, X.method, X.code, X.here, X.tail, X.warmed, ?_, ?_, ?_⟩
  · have h := X.room
    have hU : ((T.setVm s.vm).setFrames (.invoking m args :: below)).localsInUse = s.localsInUse := by
      rw [State.localsInUse_invoking hF (meth := meth) (c := c) X.method X.code, State.localsInUse_invoking X.frames X.method X.code]
    simp only [State.hasRoom, Bool.and_eq_true, decide_eq_true_eq] at h ⊢
    obtain ⟨⟨⟨⟨h1, h2, h3, h4, h5, h6⟩, h7⟩, h8⟩, h9⟩ := h
    rw [X.frames, List.length_cons] at h2 h3
    have q1 := X.heapSize
    have q2 := X.used
    simp only [hF, hU, List.length_cons, State.stackLimits_setFrames, State.stackBytes_setFrames, hl9, hb9]
    refine ⟨⟨⟨⟨by omega, by omega, by omega, by omega, by omega, h6⟩, ?_⟩, ?_⟩, X.book⟩
    · show T.heap.size + R'.cells ≤ e.platform.maxCells
      omega
    · show T.slotsUsed + R'.slots ≤ e.platform.maxSlots
      omega
  · rw [State.stackLimits_setFrames]; rfl
  · rw [State.stackBytes_setFrames]; rfl
  · refine ⟨?_, Nat.le_refl _, Nat.le_refl _, ?_, ?_, fun a c9 h9 => ⟨c9, h9, rfl, rfl, fun _ _ => rfl⟩⟩
    · obtain ⟨t, ht, -⟩ := State.frames_cons hr
      show T.setVm s.vm = { ((T.setVm s.vm).setFrames (.invoking m args :: below)).setFrames (T.setVm s.vm).frames with heap := T.heap, slotsUsed := T.slotsUsed }
      rw [State.setFrames_setFrames, State.setFrames_self ht]
      rfl
    · show T.slotsUsed = T.slotsUsed + ((T.heap.toList.drop T.heap.size).map (·.slots.size)).sum
      rw [List.drop_eq_nil_of_le (Nat.le_of_eq Array.length_toList)]
      rfl
    · show ((T.heap.toList.drop T.heap.size).map (·.slots.size)).sum ≤ 0
      rw [List.drop_eq_nil_of_le (Nat.le_of_eq Array.length_toList)]
      exact Nat.le_refl _
/-- 'throw new E()': new; dup; invokespecial; athrow -/
theorem vx_throw0 {cc : ByteArray} {pc : Nat} (hexec : p.tables.exec = Jvm.exec) (hb : c.code = cc) (hl : l.stackTraces = false) {own cls : String} {names : List String} {ik ic mc ms : Nat} {A : Nat → Prop}
    (hown : s.vm.findClass own = some m.cls) (hcls : Bundle.fit cls = true) (hnames : ∀ n ∈ names, Bundle.fit n = true)
    (hk : (Cond.classLink own ik cls).before args s = true) (hini : (Cond.initialized cls).before args s = true) (hat : ∀ w ∈ vx_at0 own ic cls names, w.before args s = true)
    (hgood : ∀ w ∈ Cond.classLink own ik cls :: Cond.initialized cls :: vx_at0 own ic cls names, vx_ot w = true)
    (hU : vx_Zq Bundle.tN "UNASSIGNED_STACK" Bundle.steD A s s.heap) (hN : vx_Zq Bundle.tN "SUPPRESSED_SENTINEL" Bundle.listD A s s.heap) (hS : va_S A s.heap H locs) (hsize : ls.size = c.maxLocals)
    (d0 : decode cc pc = .ok (.new ik, 3)) (d3 : decode cc (pc + 3) = .ok (.dup, 1)) (d4 : decode cc (pc + 4) = .ok (.invokespecial ic, 3)) (d7 : decode cc (pc + 7) = .ok (.athrow, 1))
    (hout : ∀ x ∈ c.exceptionTable.toList, covers x (pc + 7) = false)
    (hRframes : names.length + 3 < R.frames) (hRlocals : (rest.map fun v => v.category).sum + (13 * (names.length + 1) + 42) ≤ R.locals) (hRcells : cells + 1 ≤ R.cells) (hRslots : slots + 6 ≤ R.slots) (hlocks : meth.locks = false)
    (hx : ∀ t : State, s.vm.Alike t.vm → H.size ≤ t.heap.size → (∀ q : Nat, q < H.size → t.heap[q]? = H[q]?) → XC cls s t)
    (hf : ∀ z ∈ locs, free z.base) (hc : cells + 1 ≤ mc) (hs : slots + 6 ≤ ms) :
    W p l e R s m args below meth c H locs cells slots (vx_MQ below Qc XC args s mc ms free) (F0 m pc ls rest) := by
  intro T hT X
  have htr : e.platform.stackTraces = false := (show e.platform.stackTraces = l.stackTraces by rw [X.admits.platform]).trans hl
  have Y := vx_rebase X (R' := { frames := R.frames, locals := R.locals, cells := 1, slots := 6 }) (Nat.le_refl _) (Nat.le_refl _) hRcells hRslots
  obtain ⟨s', hA⟩ : ∃ z, z = (T.setVm s.vm).setFrames (.invoking m args :: below) := ⟨_, rfl⟩
  rw [← hA] at Y
  have hvm : s'.vm = s.vm := by rw [hA]; rfl
  have hhp : s'.heap = H := by rw [hA]; exact hT
  have hW0 : s.WarmedH s'.vm := by rw [hvm]; exact State.WarmedH.refl s
  have hat' : ∀ w ∈ vx_at0 own ic cls names, w.before args s' = true := fun w hw => vx_ot_at hW0 hvm.symm (hgood w (List.mem_cons_of_mem _ (List.mem_cons_of_mem _ hw))) (hat w hw)
  have hk' : (Cond.classLink own ik cls).before args s' = true := vx_ot_at hW0 hvm.symm (hgood _ List.mem_cons_self) hk
  have hini' : (Cond.initialized cls).before args s' = true := vx_ot_at hW0 hvm.symm (hgood _ (List.mem_cons_of_mem _ List.mem_cons_self)) hini
  have hU' : vx_Zq Bundle.tN "UNASSIGNED_STACK" Bundle.steD A s' s'.heap := by rw [hhp]; exact vx_Zq.moved hW0.alike (hU.kept hS.2.1)
  have hN' : vx_Zq Bundle.tN "SUPPRESSED_SENTINEL" Bundle.listD A s' s'.heap := by rw [hhp]; exact vx_Zq.moved hW0.alike (hN.kept hS.2.1)
  have h : ∀ w ∈ Bundle.ownAtoms0 own ic cls names, w.before args s' = true := vx_own hat' (vx_isRefq hU'.1) (vx_isRefq hN'.1) hU'.2.word hN'.2.word
  have hown' : s'.vm.findClass own = some m.cls := by rw [hvm]; exact hown
  have hins : (Cond.instantiable cls 6).before args s' = true := h _ (by simp [Bundle.ownAtoms0])
  obtain ⟨vm₁, cX, kX, hfX, hkX, -, -, X₁, st1⟩ := Y.newCold hexec (own := own) (C := cls) (index := ik) (n := 6) hown' hk' hins hini'
    (g := F0 m pc ls rest) rfl (by rw [hb]; exact d0) (Nat.le_refl _) (Nat.le_refl _)
  generalize hT1 : (T.setVm vm₁).pushCell { cls := cX, slots := kX.instanceTypes.map defaultValue, vm := .none } = T1 at X₁ st1
  have hcat : (Value.ref T.heap.size).category = 1 := rfl
  have hcellA : T1.heap[T.heap.size]? = some (freshCell cX kX) := by rw [← hT1]; exact State.heap_pushCell_size _ _
  have d3' : decode c.code (pc + 3) = .ok (.dup, 1) := by rw [hb]; exact d3
  obtain ⟨U, hsteps, hrun, hend, hW, hsame, ce, hce, hO⟩ := X₁.ctorThrow0 hexec htr (own := own) (cls := cls) (names := names) (ic := ic) hown' hcls hnames h (fun x hx => nomatch hx) hfX hkX hcellA (by rw [hhp, hT]; exact Nat.le_refl _)
    (g := { method := m, pc := pc + 4, locals := ls, stack := .ref T.heap.size :: .ref T.heap.size :: rest, locked := none }) rfl hsize rfl rfl (rest := rest) rfl
    (by rw [hb]; exact d4) (by rw [hb]; exact d7) hout hRframes (by simp only [List.map_cons, List.sum_cons, hcat]; omega) hlocks
  obtain ⟨f1, f2⟩ := vx_frame hsame
  rw [hhp] at f1 f2
  have hWs : s.WarmedH U.vm := State.WarmedH.trans hW0 hW
  have hcl : s.vm.findClass cls = some ce.cls := by
    have h9 := hO.cls
    rw [hvm] at h9
    exact h9
  have hall : s.sameButNew ({ U with vm := s.vm } : State) locs mc ms := by
    subst hA
    obtain ⟨e1, e2⟩ := hsame
    rw [State.setFrames_setFrames] at e1
    have h2 : (T.setVm s.vm).sameButNew ({ U with vm := s.vm } : State) [] (0 + 1) (0 + 6) := ⟨e1, e2⟩
    have h3 := X.same.trans h2
    rw [List.append_nil] at h3
    exact h3.mono hc hs
  refine ⟨U, ?_, .threw T.heap.size, hrun, hend, Or.inr ⟨T.heap.size, rfl, cls, ce, locs, hx U hWs.alike f1 (fun q hq => f2 q hq (fun z hz => nomatch hz)), hce, hO.vm, hcl, hWs, hall, hf⟩⟩
  refine st1 _ ?_
  show Steps p.tables e below (T1.setTop { method := m, pc := pc + 3, locals := ls, stack := .ref T.heap.size :: rest, locked := none }) _
  jvm_step X₁.here [X₁.here.top, hexec, d3', Value.category]
  exact hsteps
/-- 'throw new E("text")': new; dup; ldc; invokespecial; athrow -/
theorem vx_throwS {cc : ByteArray} {pc : Nat} (hexec : p.tables.exec = Jvm.exec) (hb : c.code = cc) (hl : l.stackTraces = false) {own cls text : String} {names : List String} {ik is ic mc ms sa : Nat} {A : Nat → Prop}
    (hown : s.vm.findClass own = some m.cls) (hcls : Bundle.fit cls = true) (hnames : ∀ n ∈ names, Bundle.fit n = true)
    (hk : (Cond.classLink own ik cls).before args s = true) (hini : (Cond.initialized cls).before args s = true) (hstr : vk_R own is text sa s) (hat : ∀ w ∈ vx_atS own ic cls names, w.before args s = true)
    (hgood : ∀ w ∈ Cond.classLink own ik cls :: Cond.initialized cls :: vx_atS own ic cls names, vx_ot w = true)
    (hU : vx_Zq Bundle.tN "UNASSIGNED_STACK" Bundle.steD A s s.heap) (hN : vx_Zq Bundle.tN "SUPPRESSED_SENTINEL" Bundle.listD A s s.heap) (hS : va_S A s.heap H locs) (hsize : ls.size = c.maxLocals)
    (d0 : decode cc pc = .ok (.new ik, 3)) (d3 : decode cc (pc + 3) = .ok (.dup, 1)) (d4 : decode cc (pc + 4) = .ok (.ldc is, 2)) (d6 : decode cc (pc + 6) = .ok (.invokespecial ic, 3)) (d9 : decode cc (pc + 9) = .ok (.athrow, 1))
    (hout : ∀ x ∈ c.exceptionTable.toList, covers x (pc + 9) = false)
    (hRframes : names.length + 3 < R.frames) (hRlocals : (rest.map fun v => v.category).sum + (13 * (names.length + 1) + 43) ≤ R.locals) (hRcells : cells + 1 ≤ R.cells) (hRslots : slots + 6 ≤ R.slots) (hlocks : meth.locks = false)
    (hx : ∀ t : State, s.vm.Alike t.vm → H.size ≤ t.heap.size → (∀ q : Nat, q < H.size → t.heap[q]? = H[q]?) → XC cls s t)
    (hf : ∀ z ∈ locs, free z.base) (hc : cells + 1 ≤ mc) (hs : slots + 6 ≤ ms) :
    W p l e R s m args below meth c H locs cells slots (vx_MQ below Qc XC args s mc ms free) (F0 m pc ls rest) := by
  intro T hT X
  have htr : e.platform.stackTraces = false := (show e.platform.stackTraces = l.stackTraces by rw [X.admits.platform]).trans hl
  have Y := vx_rebase X (R' := { frames := R.frames, locals := R.locals, cells := 1, slots := 6 }) (Nat.le_refl _) (Nat.le_refl _) hRcells hRslots
  obtain ⟨s', hA⟩ : ∃ z, z = (T.setVm s.vm).setFrames (.invoking m args :: below) := ⟨_, rfl⟩
  rw [← hA] at Y
  have hvm : s'.vm = s.vm := by rw [hA]; rfl
  have hhp : s'.heap = H := by rw [hA]; exact hT
  have hW0 : s.WarmedH s'.vm := by rw [hvm]; exact State.WarmedH.refl s
  have hat' : ∀ w ∈ vx_atS own ic cls names, w.before args s' = true := fun w hw => vx_ot_at hW0 hvm.symm (hgood w (List.mem_cons_of_mem _ (List.mem_cons_of_mem _ hw))) (hat w hw)
  have hk' : (Cond.classLink own ik cls).before args s' = true := vx_ot_at hW0 hvm.symm (hgood _ List.mem_cons_self) hk
  have hini' : (Cond.initialized cls).before args s' = true := vx_ot_at hW0 hvm.symm (hgood _ (List.mem_cons_of_mem _ List.mem_cons_self)) hini
  have hU' : vx_Zq Bundle.tN "UNASSIGNED_STACK" Bundle.steD A s' s'.heap := by rw [hhp]; exact vx_Zq.moved hW0.alike (hU.kept hS.2.1)
  have hN' : vx_Zq Bundle.tN "SUPPRESSED_SENTINEL" Bundle.listD A s' s'.heap := by rw [hhp]; exact vx_Zq.moved hW0.alike (hN.kept hS.2.1)
  have h : ∀ w ∈ Bundle.ownAtoms own ic cls names, w.before args s' = true := vx_own hat' (vx_isRefq hU'.1) (vx_isRefq hN'.1) hU'.2.word hN'.2.word
  have hown' : s'.vm.findClass own = some m.cls := by rw [hvm]; exact hown
  have hins : (Cond.instantiable cls 6).before args s' = true := h _ (by simp [Bundle.ownAtoms])
  obtain ⟨vm₁, cX, kX, hfX, hkX, -, -, X₁, st1⟩ := Y.newCold hexec (own := own) (C := cls) (index := ik) (n := 6) hown' hk' hins hini'
    (g := F0 m pc ls rest) rfl (by rw [hb]; exact d0) (Nat.le_refl _) (Nat.le_refl _)
  generalize hT1 : (T.setVm vm₁).pushCell { cls := cX, slots := kX.instanceTypes.map defaultValue, vm := .none } = T1 at X₁ st1
  have hcat : (Value.ref T.heap.size).category = 1 := rfl
  have hcellA : T1.heap[T.heap.size]? = some (freshCell cX kX) := by rw [← hT1]; exact State.heap_pushCell_size _ _
  have d3' : decode c.code (pc + 3) = .ok (.dup, 1) := by rw [hb]; exact d3
  have d4' : decode c.code (pc + 4) = .ok (.ldc is, 2) := by rw [hb]; exact d4
  have hstr' : vk_R own is text sa s' := vk_R.warm hW0 hstr
  obtain ⟨U, hsteps, hrun, hend, hW, hsame, ce, hce, hO⟩ := X₁.ctorThrowS hexec htr (own := own) (cls := cls) (names := names) (ic := ic) hown' hcls hnames h (fun x hx => nomatch hx) hfX hkX hcellA (by rw [hhp, hT]; exact Nat.le_refl _) (msg := .ref sa) rfl
    (g := { method := m, pc := pc + 6, locals := ls, stack := .ref sa :: .ref T.heap.size :: .ref T.heap.size :: rest, locked := none }) rfl hsize rfl rfl (rest := rest) rfl
    (by rw [hb]; exact d6) (by rw [hb]; exact d9) hout hRframes (by simp only [List.map_cons, List.sum_cons, hcat]; omega) hlocks
  obtain ⟨f1, f2⟩ := vx_frame hsame
  rw [hhp] at f1 f2
  have hWs : s.WarmedH U.vm := State.WarmedH.trans hW0 hW
  have hcl : s.vm.findClass cls = some ce.cls := by
    have h9 := hO.cls
    rw [hvm] at h9
    exact h9
  have hall : s.sameButNew ({ U with vm := s.vm } : State) locs mc ms := by
    subst hA
    obtain ⟨e1, e2⟩ := hsame
    rw [State.setFrames_setFrames] at e1
    have h2 : (T.setVm s.vm).sameButNew ({ U with vm := s.vm } : State) [] (0 + 1) (0 + 6) := ⟨e1, e2⟩
    have h3 := X.same.trans h2
    rw [List.append_nil] at h3
    exact h3.mono hc hs
  refine ⟨U, ?_, .threw T.heap.size, hrun, hend, Or.inr ⟨T.heap.size, rfl, cls, ce, locs, hx U hWs.alike f1 (fun q hq => f2 q hq (fun z hz => nomatch hz)), hce, hO.vm, hcl, hWs, hall, hf⟩⟩
  refine st1 _ ?_
  show Steps p.tables e below (T1.setTop { method := m, pc := pc + 3, locals := ls, stack := .ref T.heap.size :: rest, locked := none }) _
  jvm_step X₁.here [X₁.here.top, hexec, d3', Value.category]
  exact X₁.ldcString hexec (own := own) (text := text) (index := is) (a := sa) hown' hstr'.1 hstr'.2
    (g := { method := m, pc := pc + 4, locals := ls, stack := .ref T.heap.size :: .ref T.heap.size :: rest, locked := none }) rfl d4' _ hsteps
/-- 'throw new E("text")', the text by a wide index -/
theorem vx_throwSW {cc : ByteArray} {pc : Nat} (hexec : p.tables.exec = Jvm.exec) (hb : c.code = cc) (hl : l.stackTraces = false) {own cls text : String} {names : List String} {ik is ic mc ms sa : Nat} {A : Nat → Prop}
    (hown : s.vm.findClass own = some m.cls) (hcls : Bundle.fit cls = true) (hnames : ∀ n ∈ names, Bundle.fit n = true)
    (hk : (Cond.classLink own ik cls).before args s = true) (hini : (Cond.initialized cls).before args s = true) (hstr : vk_R own is text sa s) (hat : ∀ w ∈ vx_atS own ic cls names, w.before args s = true)
    (hgood : ∀ w ∈ Cond.classLink own ik cls :: Cond.initialized cls :: vx_atS own ic cls names, vx_ot w = true)
    (hU : vx_Zq Bundle.tN "UNASSIGNED_STACK" Bundle.steD A s s.heap) (hN : vx_Zq Bundle.tN "SUPPRESSED_SENTINEL" Bundle.listD A s s.heap) (hS : va_S A s.heap H locs) (hsize : ls.size = c.maxLocals)
    (d0 : decode cc pc = .ok (.new ik, 3)) (d3 : decode cc (pc + 3) = .ok (.dup, 1)) (d4 : decode cc (pc + 4) = .ok (.ldc_w is, 3)) (d7 : decode cc (pc + 7) = .ok (.invokespecial ic, 3)) (d10 : decode cc (pc + 10) = .ok (.athrow, 1))
    (hout : ∀ x ∈ c.exceptionTable.toList, covers x (pc + 10) = false)
    (hRframes : names.length + 3 < R.frames) (hRlocals : (rest.map fun v => v.category).sum + (13 * (names.length + 1) + 43) ≤ R.locals) (hRcells : cells + 1 ≤ R.cells) (hRslots : slots + 6 ≤ R.slots) (hlocks : meth.locks = false)
    (hx : ∀ t : State, s.vm.Alike t.vm → H.size ≤ t.heap.size → (∀ q : Nat, q < H.size → t.heap[q]? = H[q]?) → XC cls s t)
    (hf : ∀ z ∈ locs, free z.base) (hc : cells + 1 ≤ mc) (hs : slots + 6 ≤ ms) :
    W p l e R s m args below meth c H locs cells slots (vx_MQ below Qc XC args s mc ms free) (F0 m pc ls rest) := by
  intro T hT X
  have htr : e.platform.stackTraces = false := (show e.platform.stackTraces = l.stackTraces by rw [X.admits.platform]).trans hl
  have Y := vx_rebase X (R' := { frames := R.frames, locals := R.locals, cells := 1, slots := 6 }) (Nat.le_refl _) (Nat.le_refl _) hRcells hRslots
  obtain ⟨s', hA⟩ : ∃ z, z = (T.setVm s.vm).setFrames (.invoking m args :: below) := ⟨_, rfl⟩
  rw [← hA] at Y
  have hvm : s'.vm = s.vm := by rw [hA]; rfl
  have hhp : s'.heap = H := by rw [hA]; exact hT
  have hW0 : s.WarmedH s'.vm := by rw [hvm]; exact State.WarmedH.refl s
  have hat' : ∀ w ∈ vx_atS own ic cls names, w.before args s' = true := fun w hw => vx_ot_at hW0 hvm.symm (hgood w (List.mem_cons_of_mem _ (List.mem_cons_of_mem _ hw))) (hat w hw)
  have hk' : (Cond.classLink own ik cls).before args s' = true := vx_ot_at hW0 hvm.symm (hgood _ List.mem_cons_self) hk
  have hini' : (Cond.initialized cls).before args s' = true := vx_ot_at hW0 hvm.symm (hgood _ (List.mem_cons_of_mem _ List.mem_cons_self)) hini
  have hU' : vx_Zq Bundle.tN "UNASSIGNED_STACK" Bundle.steD A s' s'.heap := by rw [hhp]; exact vx_Zq.moved hW0.alike (hU.kept hS.2.1)
  have hN' : vx_Zq Bundle.tN "SUPPRESSED_SENTINEL" Bundle.listD A s' s'.heap := by rw [hhp]; exact vx_Zq.moved hW0.alike (hN.kept hS.2.1)
  have h : ∀ w ∈ Bundle.ownAtoms own ic cls names, w.before args s' = true := vx_own hat' (vx_isRefq hU'.1) (vx_isRefq hN'.1) hU'.2.word hN'.2.word
  have hown' : s'.vm.findClass own = some m.cls := by rw [hvm]; exact hown
  have hins : (Cond.instantiable cls 6).before args s' = true := h _ (by simp [Bundle.ownAtoms])
  obtain ⟨vm₁, cX, kX, hfX, hkX, -, -, X₁, st1⟩ := Y.newCold hexec (own := own) (C := cls) (index := ik) (n := 6) hown' hk' hins hini'
    (g := F0 m pc ls rest) rfl (by rw [hb]; exact d0) (Nat.le_refl _) (Nat.le_refl _)
  generalize hT1 : (T.setVm vm₁).pushCell { cls := cX, slots := kX.instanceTypes.map defaultValue, vm := .none } = T1 at X₁ st1
  have hcat : (Value.ref T.heap.size).category = 1 := rfl
  have hcellA : T1.heap[T.heap.size]? = some (freshCell cX kX) := by rw [← hT1]; exact State.heap_pushCell_size _ _
  have d3' : decode c.code (pc + 3) = .ok (.dup, 1) := by rw [hb]; exact d3
  have d4' : decode c.code (pc + 4) = .ok (.ldc_w is, 3) := by rw [hb]; exact d4
  have hstr' : vk_R own is text sa s' := vk_R.warm hW0 hstr
  obtain ⟨U, hsteps, hrun, hend, hW, hsame, ce, hce, hO⟩ := X₁.ctorThrowS hexec htr (own := own) (cls := cls) (names := names) (ic := ic) hown' hcls hnames h (fun x hx => nomatch hx) hfX hkX hcellA (by rw [hhp, hT]; exact Nat.le_refl _) (msg := .ref sa) rfl
    (g := { method := m, pc := pc + 7, locals := ls, stack := .ref sa :: .ref T.heap.size :: .ref T.heap.size :: rest, locked := none }) rfl hsize rfl rfl (rest := rest) rfl
    (by rw [hb]; exact d7) (by rw [hb]; exact d10) hout hRframes (by simp only [List.map_cons, List.sum_cons, hcat]; omega) hlocks
  obtain ⟨f1, f2⟩ := vx_frame hsame
  rw [hhp] at f1 f2
  have hWs : s.WarmedH U.vm := State.WarmedH.trans hW0 hW
  have hcl : s.vm.findClass cls = some ce.cls := by
    have h9 := hO.cls
    rw [hvm] at h9
    exact h9
  have hall : s.sameButNew ({ U with vm := s.vm } : State) locs mc ms := by
    subst hA
    obtain ⟨e1, e2⟩ := hsame
    rw [State.setFrames_setFrames] at e1
    have h2 : (T.setVm s.vm).sameButNew ({ U with vm := s.vm } : State) [] (0 + 1) (0 + 6) := ⟨e1, e2⟩
    have h3 := X.same.trans h2
    rw [List.append_nil] at h3
    exact h3.mono hc hs
  refine ⟨U, ?_, .threw T.heap.size, hrun, hend, Or.inr ⟨T.heap.size, rfl, cls, ce, locs, hx U hWs.alike f1 (fun q hq => f2 q hq (fun z hz => nomatch hz)), hce, hO.vm, hcl, hWs, hall, hf⟩⟩
  refine st1 _ ?_
  show Steps p.tables e below (T1.setTop { method := m, pc := pc + 3, locals := ls, stack := .ref T.heap.size :: rest, locked := none }) _
  jvm_step X₁.here [X₁.here.top, hexec, d3', Value.category]
  exact X₁.ldcStringW hexec (own := own) (text := text) (index := is) (a := sa) hown' hstr'.1 hstr'.2
    (g := { method := m, pc := pc + 4, locals := ls, stack := .ref T.heap.size :: .ref T.heap.size :: rest, locked := none }) rfl d4' _ hsteps
end Ends
section Bodies
variable {l : Launch}
theorem vx_ofW {y : MethodName} {ws ws' : List Cond} {rm : Room} {Pc : Array Value → State → Prop} {Qc : Array Value → State → Outcome → State → Prop} {XC : String → State → State → Prop} {mc ms : Nat} {free : Addr → Prop} {cc : ByteArray} {maxL : Nat} {ret : Option FieldType}
    (hy : plainName y.cls = true) (hw : ws = Cond.code y cc maxL ret :: ws')
    (body : ∀ p e s m args below meth c s₁, BodyLoose p l y (headSpec ws rm) cc maxL ret e s m args below meth c s₁ → c.maxLocals = maxL → (∀ x ∈ c.exceptionTable.toList, False) → Pc args s →
      W p l e (headSpec ws rm).room s m args below meth c s.heap [] 0 0 (vx_MQ below Qc XC args s mc ms free) (entryFrame m args maxL)) : vx_Met l y ws rm Pc Qc XC mc ms free := by
  refine MetFree.of_bodyS (code := cc) (maxLocals := maxL) (ret := ret) hy ?_ ?_
  · intro args s m h hn
    obtain ⟨meth, c, h1, h2, h3, h4, h5, h6, -, -⟩ := Cond.code_spec hn (atoms_spec (ws := ws) h _ (by rw [hw]; exact List.mem_cons_self))
    exact ⟨meth, c, h1, h2, h3, h4, h5, h6⟩
  · intro p e s m args below meth c s₁ B hml hP _
    have hh0 : s₁.heap = s.heap := by rw [B.state]; rfl
    have ht : ∀ x ∈ c.exceptionTable.toList, False := by
      obtain ⟨meth9, c9, h1, h2, -, -, -, -, h7, -⟩ := Cond.code_spec B.named (atoms_spec (ws := ws) B.pre _ (by rw [hw]; exact List.mem_cons_self))
      cases Option.some.inj (h1.symm.trans B.method)
      cases Option.some.inj (h2.symm.trans (Stand.of_body B).code)
      intro x hx
      rw [Array.isEmpty_iff.mp h7] at hx
      cases hx
    obtain ⟨t, a1, o, b1, b2, b3⟩ := body p e s m args below meth c s₁ B hml ht hP s₁ hh0 (Stand.of_body B)
    exact ⟨t, o, a1, b1, b2, b3⟩
/-- the table of a body with handlers -/
theorem vx_table {p : Program} {x y : MethodName} {S : Spec} {cc bytes : ByteArray} {maxL maxL' : Nat} {ret ret' : Option FieldType} {e : Env} {s s₁ : State} {m : MethodId} {args : Array Value} {below : List Frame} {meth : Method} {c : Code} {hh : List (Nat × Nat × Nat × Nat)}
    (B : BodyLoose p l y S cc maxL ret e s m args below meth c s₁) (h : (Cond.codeWith y bytes maxL' ret' hh).before args s = true) : c.exceptionTable.toList = tableOf hh := by
  obtain ⟨m9, meth9, c9, hn9, h1, h2, -, -, h6, -⟩ := Cond.codeWith_spec h
  cases Option.some.inj (hn9.symm.trans B.named)
  cases Option.some.inj (h1.symm.trans B.method)
  cases Option.some.inj (h2.symm.trans (Stand.of_body B).code)
  rw [← h6, table_eq]
end Bodies
end VXA
/-! ===== END ===== -/
/-! ===== BEGIN a static call of a method with an exception table ===== -/
section VXS
variable {p : Program} {l : Launch} {e : Env} {R : Room} {s : State} {m : MethodId} {args : Array Value} {below : List Frame} {meth : Method} {c : Code} {T : State} {H : Heap} {locs : List Loc} {cells slots : Nat}
abbrev vx_CSW (R : Room) (s : State) (args : Array Value) (own : String) (index : Nat) (y : MethodName) (bytes : ByteArray) (maxL : Nat) (ret : Option FieldType) (hh : List (Nat × Nat × Nat × Nat)) (ws : List Cond) (rm : Room) (mc ms n : Nat) : Prop :=
  (rm.cells = mc ∧ rm.slots = ms ∧ rm.frames + 1 ≤ R.frames ∧ 8 + (maxL + 11) + rm.locals ≤ R.locals ∧ (∀ w ∈ ws, ∀ (a' : Array Value) (U : State), s.WarmedH U.vm → w.before a' U = true) ∧ Cond.codeWith y bytes maxL ret hh ∈ ws) ∧
  (Cond.codeWith y bytes maxL ret hh).before args s = true ∧ (Cond.initialized y.cls).before args s = true ∧ (y.cls ≠ "java/lang/invoke/MethodHandle" ∧ y.cls ≠ "java/lang/invoke/VarHandle") ∧
  (∀ sig, parseMethodDescriptor y.desc = some sig → n = sig.parameters.length) ∧ (Cond.methodLink own index y).before args s = true ∧ (Cond.static y).before args s = true
theorem vx_cwSW {own : String} {index maxL mc ms : Nat} {y : MethodName} {bytes : ByteArray} {ret : Option FieldType} {hh : List (Nat × Nat × Nat × Nat)} {Ts ws ws' : List Cond} {rm : Room} (n : Nat) (ht : ∀ w ∈ Ts, w.before args s = true) (hT : GoodIn Ts (va_wsS own index y ws)) (hw : ws = Cond.codeWith y bytes maxL ret hh :: ws') (hrc : rm.cells = mc) (hrs : rm.slots = ms)
    (hd : y.cls ≠ "java/lang/invoke/MethodHandle" ∧ y.cls ≠ "java/lang/invoke/VarHandle" ∧ (parseMethodDescriptor y.desc).map (fun d => d.parameters.length) = some n) (hR : rm.frames + 1 ≤ R.frames ∧ 8 + (maxL + 11) + rm.locals ≤ R.locals) :
    vx_CSW R s args own index y bytes maxL ret hh ws rm mc ms n := by
  have ok : ∀ w ∈ va_wsS own index y ws, w.before args s = true := fun w h => ht w (hT w h).1
  have hG : GoodIn Ts ws := fun w h => hT w (by unfold va_wsS; exact List.mem_append_right _ h)
  have hc : Cond.codeWith y bytes maxL ret hh ∈ ws := by rw [hw]; exact List.mem_cons_self
  refine ⟨⟨hrc, hrs, hR.1, hR.2, pay_in ht hG, hc⟩, ht _ (hG _ hc).1, ok _ (by simp [va_wsS]), ⟨hd.1, hd.2.1⟩, fun sig h => ?_, ok _ (by simp [va_wsS]), ok _ (by simp [va_wsS])⟩
  have h2 := hd.2.2
  rw [h] at h2
  exact (Option.some.inj h2).symm
theorem vx_callSW (X : Stand p l e R s m args below meth c T locs cells slots) (hexec : p.tables.exec = Jvm.exec) {own : String} {index : Nat} {y : MethodName} {bytes : ByteArray} {maxL : Nat} {ret : Option FieldType} {hh : List (Nat × Nat × Nat × Nat)}
    (hown : s.vm.findClass own = some m.cls) (hlink : (Cond.methodLink own index y).before args s = true) (hstat : (Cond.static y).before args s = true) (hinit : (Cond.initialized y.cls).before args s = true)
    (hcode : (Cond.codeWith y bytes maxL ret hh).before args s = true) (hy : y.cls ≠ "java/lang/invoke/MethodHandle" ∧ y.cls ≠ "java/lang/invoke/VarHandle")
    {W9 : Nat} {Pre : Pt → Array Value → Prop} {Post : Pt → Array Value → Option Value → Pt → Prop} (hK : Back l R p e below s args y 3 W9 Pre Post)
    {g : JFrame} (hg : g.method = m) (hsize : g.locals.size = c.maxLocals) {argsL rest : List Value} (hlen : ∀ sig, parseMethodDescriptor y.desc = some sig → argsL.length = sig.parameters.length)
    (hstack : g.stack = argsL.reverse ++ rest) (hW : 2 * g.monitorRoom + (rest.map fun v => v.category).sum ≤ W9) (hdg : decode c.code g.pc = .ok (.invokestatic index, 3))
    (hpre : ∀ vm₁, s.WarmedH vm₁ → Pre ⟨T.setVm vm₁, locs, cells, slots⟩ argsL.toArray) :
    ∃ (v : Option Value) (vm₁ : Vm) (B : Pt), s.WarmedH vm₁ ∧ Stand p l e R s m args below meth c B.U B.locs B.cells B.slots ∧ Post ⟨T.setVm vm₁, locs, cells, slots⟩ argsL.toArray v B ∧
      ∀ target, Steps p.tables e below (B.U.setTop { g with pc := g.pc + 3, stack := v.toList ++ rest }) target → Steps p.tables e below (T.setTop g) target := by
  obtain ⟨mk, methM, cM, hnamed, hmethM, -, -, -, -, -, -, hsigM⟩ := Cond.codeWith_spec hcode
  have hstatic : methM.isStatic = true := Cond.static_spec hnamed hmethM hstat
  obtain ⟨kP, hkP, -⟩ := className_of_methodNamed hnamed
  have hinitP : kP.init = .initialized := Cond.initialized_spec (findClass_of_methodNamed hnamed) hkP hinit
  obtain ⟨vm₁, X₁, hstep₁⟩ := X.invokestatic hexec hown hlink hnamed hmethM hstatic hkP hinitP hy (g := g) hg (argsL := argsL) (rest := rest) (hlen _ hsigM) hstack hdg
  obtain ⟨v, B, X', hpost, hsteps⟩ := hK m meth c ⟨T.setVm vm₁, locs, cells, slots⟩ { g with stack := rest } (.invokestatic index) mk argsL.toArray X₁ hg hsize hdg hW (X₁.named hnamed) (hpre vm₁ X₁.warmed)
  exact ⟨v, vm₁, B, X₁.warmed, X', hpost, fun target h => hstep₁ _ fun acts => by rw [doInvoke_state]; exact hsteps.trans h⟩
theorem vx_runSW {y : MethodName} {bytes cc : ByteArray} {maxL nL mc ms n index : Nat} {ret : Option FieldType} {hh : List (Nat × Nat × Nat × Nat)} {ws : List Cond} {rm : Room} {Pc : Array Value → State → Prop} {Qc : Array Value → State → Outcome → State → Prop} {free : Addr → Prop} {Ts : List Cond} {own : String} {As rest : List Value} {g : JFrame}
    (S : CallFix p m c cc nL s args Ts own) (hM : Met l y ws rm Pc Qc mc ms free) (cw : vx_CSW R s args own index y bytes maxL ret hh ws rm mc ms n) (hp : PreS s H Pc As)
    (hg : g.method = m) (hn : As.length = n) (hsize : g.locals.size = nL) (hstack : g.stack = As.reverse ++ rest) (hW : 2 * g.monitorRoom + (rest.map fun v => v.category).sum ≤ 8) (hdg : decode cc g.pc = .ok (.invokestatic index, 3)) (hf : cells + mc ≤ R.cells ∧ slots + ms ≤ R.slots) :
    va_Run p l e R s m args below meth c H locs cells slots mc ms g rest (Qc As.toArray) (free) := by
  obtain ⟨⟨hrc, hrs, hfr, hlo, hws, hcw⟩, hcode, hini, hy, hlen, hl, hstt⟩ := cw
  have hK : Back l R p e below s args y 3 8 (PreOf R mc ms Pc) (PostOf Qc mc ms free) := va_backW (hh := hh) (bytes := bytes) (maxL := maxL) (ret := ret) hM hp.1 hrc hrs hfr hlo hws hcw (fun a' U hW => word_at hW (Or.inl (by first | rfl | simp [Cond.onTables, Cond.keeps, Cond.steady])) hini)
  obtain ⟨hx, hb, hml, ho, -⟩ := S
  intro T hT X
  obtain ⟨v, vm₁, ⟨U', l2, c2, s2⟩, hW₁, X', ⟨g', mk, t, L, e1, e2, hq, h1, hL, h2, h3⟩, st⟩ := vx_callSW X hx (hh := hh) (bytes := bytes) (maxL := maxL) (ret := ret) ho hl hstt hini hcode hy hK hg (hsize.trans hml.symm) (argsL := As) (rest := rest) (fun sig h => hn.trans (hlen sig h)) hstack hW (by rw [hb]; exact hdg)
    (fun vm₁ hW₁ => ⟨hf.1, hf.2, hp.2 (T.setVm vm₁) hT hW₁⟩)
  dsimp only [Pt.U, Pt.locs, Pt.cells, Pt.slots] at X' e1 e2 h1 h2 h3 st
  subst h1; subst h2; subst h3
  exact ⟨v, (T.setVm vm₁).calling g' mk As.toArray, t, U', L, hT, X', hL, e1, e2, hq, st⟩
/-- not caught here, past rows that name other classes: it goes on to the caller -/
theorem vx_outP {p : Program} {l : Launch} {e : Env} {R : Room} {s : State} {m : MethodId} {args : Array Value} {below : List Frame} {meth : Method} {c : Code} {H : Heap} {locs : List Loc} {cells slots : Nat} {free : Addr → Prop} {ls : Array Slot} {rest : List Value} {Qc : Array Value → State → Outcome → State → Prop} {XC : String → State → State → Prop}
    {pc : Nat} {own E : String} {ce : Cell} {q : Addr} {mc ms : Nat} (hown : s.vm.findClass own = some m.cls) (hlocks : meth.locks = false)
    (hpass : ∀ z ∈ c.exceptionTable.toList, covers z pc = false ∨ (z.catchType ≠ 0 ∧ ∃ nm : String, (Cond.classLink own z.catchType nm).before args s = true ∧ va_Nc E nm s)) (hcell : H[q]? = some ce) (hv : ce.vm = .none) (hcl : s.vm.findClass E = some ce.cls)
    (hx : ∀ t : State, t.heap = H → s.vm.Alike t.vm → XC E s t) (hf : ∀ z ∈ locs, free z.base) (hc : cells ≤ mc) (hs : slots ≤ ms) :
    vx_W p l e R s m args below meth c H locs cells slots (vx_MQ below Qc XC args s mc ms free) (F0 m pc ls rest) q := by
  intro T hT X
  have hpl : e.platform.magicAccessors = ({} : Platform).magicAccessors := by rw [X.admits.platform]
  obtain ⟨vm', hW', X', st⟩ := X.outThrough hlocks q (g := F0 m pc ls rest) rfl rfl rfl (cell := ce) (by rw [hT]; exact hcell) (by rw [hv]; rfl)
    (by obtain ⟨k9, h9, -⟩ := Vm.findClass_spec hcl; exact ⟨k9, h9⟩) (fun z hz => by
      rcases hpass z hz with h | ⟨hz0, nm, hl1, hn1⟩
      · exact Or.inl h
      · obtain ⟨c6, hc6, hcl6⟩ := Cond.classLink_spec hown hl1 e.platform hpl
        obtain ⟨a8, b8, h1, h2, h3⟩ := hn1
        cases Option.some.inj (h1.symm.trans hcl)
        cases Option.some.inj (h2.symm.trans hc6)
        exact Or.inr ⟨hz0, _, hcl6, h3⟩)
  obtain ⟨g₀, hfr⟩ := X'.frames_eq
  have hcell9 : ((T.setVm vm').setFrames (.throwing q :: below)).heap[q]? = some ce := by
    show T.heap[q]? = some ce
    rw [hT]; exact hcell
  have hend : Ended ((T.setVm vm').setFrames (.throwing q :: below)) below (.threw q) := State.frames_setFrames _ (State.cur_lt_of_frames hfr)
  refine ⟨(T.setVm vm').setFrames (.throwing q :: below), ?_, .threw q, X'.here.running, hend, Or.inr ⟨q, rfl, E, ce, locs, hx _ hT (X'.ends _).1.alike, hcell9, hv, hcl, (X'.ends _).1, (X'.ends _).2.mono hc hs, hf⟩⟩
  rw [X.pushThrowing_eq]
  exact st
/-- a thing of a world lies in the heap -/
theorem vx_lt {D : va_G} {cl : List vw_C} {ws : va_W} {H1 : Heap} (h : va_P D cl ws H1) {k : Nat} {q : Nat × va_E} (hk : ws[k]? = some q) : q.1 < H1.size := (h k q hk).lt
end VXS
/-! ===== END ===== -/
/-! ===== BEGIN methods with a table of their own: called by a name, returning or throwing ===== -/
section VXH
/-! vx_backW, vx_callVX, vx_callSX, vx_callVW, vx_runVW, vx_runVX, vx_runSX, vx_ofWH follow the same proofs as their sisters above (Free/Laws.lean, Shelf42/LK1.lean); vx_outP calls Shelf42/NT130.lean (outThrough). -/
section
variable {l : Launch} {R : Room} {p : Program} {e : Env} {below : List Frame} {s : State} {sargs : Array Value} {y : MethodName} {len W9 : Nat}
theorem vx_backW {ws : List Cond} {rm : Room} {Pc : Array Value → State → Prop} {Qc : Array Value → State → Outcome → State → Prop} {XC : String → State → State → Prop} {mc ms : Nat} {free : Addr → Prop} {bytes : ByteArray} {maxL : Nat} {ret : Option FieldType} {hh : List (Nat × Nat × Nat × Nat)}
    (hM : vx_Met l y ws rm Pc Qc XC mc ms free) (hblind : FrameBlind Pc) (hrc : rm.cells = mc) (hrs : rm.slots = ms)
    (hframes : rm.frames + 1 ≤ R.frames) (hlocals : W9 + (maxL + 11) + rm.locals ≤ R.locals)
    (hws : ∀ w ∈ ws, ∀ a' U, s.WarmedH U.vm → w.before a' U = true) (hcode : Cond.codeWith y bytes maxL ret hh ∈ ws) (hinit : ∀ a' U, s.WarmedH U.vm → (Cond.initialized y.cls).before a' U = true) :
    vx_Back l R p e below s sargs y len W9 (PreOf R mc ms Pc) (PostOf Qc mc ms free) (vx_Post XC mc ms free) := by
  intro m meth c A g ig mk a X hg hsize hdg hW hn hp
  have h1 : (headSpec ws rm).pre.before a A.U = true := atoms_intro fun w hw => hws w hw _ _ X.warmed
  have h2 : (Cond.codeWith y bytes maxL ret hh).before a A.U = true := hws _ hcode _ _ X.warmed
  have h3 : (Cond.initialized y.cls).before a A.U = true := hinit _ _ X.warmed
  have h4 : A.cells + (headSpec ws rm).room.cells ≤ R.cells := by rw [show (headSpec ws rm).room.cells = mc from hrc]; exact hp.1
  have h5 : A.slots + (headSpec ws rm).room.slots ≤ R.slots := by rw [show (headSpec ws rm).room.slots = ms from hrs]; exact hp.2.1
  have hPc : Pc a (A.U.calling g mk a) := hblind _ _ _ _ hp.2.2
  obtain ⟨U, Ls, c0, s0⟩ := A
  dsimp only [Pt.U, Pt.locs, Pt.cells, Pt.slots] at h1 h2 h3 h4 h5 X hn hPc ⊢
  obtain ⟨m9, methY, cY, hn9, hmY, hcY, -, hlY, -⟩ := Cond.codeWith_spec h2
  cases Option.some.inj (hn9.symm.trans hn)
  obtain ⟨kY, hkY, -⟩ := className_of_methodNamed hn
  have hinitY : kY.init = .initialized := Cond.initialized_spec (findClass_of_methodNamed hn) hkY h3
  have h : At U g.method c below := by rw [hg]; exact X.here
  have hlocals9 : W9 + (maxL + 11) + (headSpec ws rm).room.locals ≤ R.locals := hlocals
  have happ : (headSpec ws rm).appliesLoose y e.platform (U.calling g mk a) = true :=
    Spec.appliesLoose_calling (g := g) h hdg hn hkY hinitY
      (X.room_calling (g := g) (R' := (headSpec ws rm).room) hsize hmY hcY hframes (by rw [hlY]; omega) h4 h5) h1
  obtain ⟨mid, hmid⟩ := h.above
  have hfr : (U.setTop g).frames = (.java g :: mid) ++ below := by rw [State.frames_setTop' g h.top, hmid]; rfl
  obtain ⟨o, s₂, hsteps, -, hend, hq⟩ := Steps.callFree hM p X.admits X.cas X.clock (acts := []) hfr happ hPc trivial
  have hq' : vx_Q Qc XC mc ms free a (U.calling g mk a) o s₂ := hq
  rw [State.frames_setTop' g h.top] at hend
  obtain ⟨g₀, hg0⟩ := Option.isSome_iff_exists.mp h.top
  obtain ⟨r, hr⟩ := State.topJava?_eq_some.mp hg0
  have hr' : (({ U with heap := s₂.heap, slotsUsed := s₂.slotsUsed } : State).setVm s₂.vm).frames = .java g₀ :: r := hr
  rcases hq' with ⟨hqc, L, hfe, hL⟩ | ⟨q, rfl, E, ce, L, hx, hce, hcv, hcl, hW₂, hsm, hL⟩
  · obtain ⟨⟨v, rfl⟩, hW₂, e2, q2, q3, q4, q5, q6⟩ := id hfe
    have e3 : s₂ = ({ (U.calling g mk a).setFrames s₂.frames with heap := s₂.heap, slotsUsed := s₂.slotsUsed } : State).setVm s₂.vm := by
      have : s₂ = ({ s₂ with vm := (U.calling g mk a).vm } : State).setVm s₂.vm := rfl
      rw [e2] at this
      exact this
    obtain ⟨c₂, i₂, len₂, hc₂, hd₂, hf₂⟩ := hend
    have hW' : U.WarmedH s₂.vm := hW₂
    have hcc : c₂ = c := by
      have h1 : s₂.code? g.method = U.code? g.method := by
        rw [State.code?_eq, State.code?_eq, hW'.alike.method?]
      exact Option.some.inj (hc₂.symm.trans (h1.trans h.code))
    subst hcc
    have hlen : len₂ = len := by rw [hdg] at hd₂; cases hd₂; rfl
    subst hlen
    have hs₂ : s₂ = (({ U with heap := s₂.heap, slotsUsed := s₂.slotsUsed } : State).setVm s₂.vm).setTop { g with pc := g.pc + len₂, stack := v.toList ++ g.stack } := by
      refine e3.trans ?_
      rw [hf₂, State.calling_eq h.top, State.setFrames_setFrames, State.setTop_of_frames _ hr', hr]
      rfl
    have hsame : U.sameButNew ({ U with heap := s₂.heap, slotsUsed := s₂.slotsUsed } : State) L mc ms := by
      refine ⟨?_, q2, q3, q4, q5, q6⟩
      obtain ⟨t, ht, -⟩ := State.frames_cons hr
      show ({ U with heap := s₂.heap, slotsUsed := s₂.slotsUsed } : State) = { U.setFrames U.frames with heap := s₂.heap, slotsUsed := s₂.slotsUsed }
      rw [State.setFrames_self ht]
    subst hg
    refine Or.inl ⟨v, ⟨(({ U with heap := s₂.heap, slotsUsed := s₂.slotsUsed } : State).setVm s₂.vm), Ls ++ L, c0 + mc, s0 + ms⟩,
      ⟨X.admits, X.cas, X.clock, X.frames, X.room, X.hears, X.method, X.code, (X.here.setHeapUsed s₂.heap s₂.slotsUsed).setVm hW'.alike, X.tail, State.WarmedH.trans X.warmed hW', X.limits, X.bytes, X.same.trans (hsame.setVm s.vm)⟩,
      ⟨g, mk, s₂, L, rfl, rfl, hqc, rfl, hL, rfl, rfl⟩, ?_⟩
    show Steps p.tables e below _ ((({ U with heap := s₂.heap, slotsUsed := s₂.slotsUsed } : State).setVm s₂.vm).setTop { g with pc := g.pc + len₂, stack := v.toList ++ g.stack })
    rw [← hs₂]
    exact hsteps
  · obtain ⟨e2, q2, q3, q4, q5, q6⟩ := id hsm
    have e3 : s₂ = ({ (U.calling g mk a).setFrames s₂.frames with heap := s₂.heap, slotsUsed := s₂.slotsUsed } : State).setVm s₂.vm := by
      have : s₂ = ({ s₂ with vm := (U.calling g mk a).vm } : State).setVm s₂.vm := rfl
      rw [e2] at this
      exact this
    have hf₂ : s₂.frames = .throwing q :: .java g :: U.frames.tail := hend
    have hW' : U.WarmedH s₂.vm := hW₂
    have hs₂ : s₂ = ((({ U with heap := s₂.heap, slotsUsed := s₂.slotsUsed } : State).setVm s₂.vm).setTop g).pushFrame (.throwing q) := by
      refine e3.trans ?_
      rw [hf₂, State.calling_eq h.top, State.setFrames_setFrames, State.pushFrame, State.frames_setTop _ hr', State.setTop_of_frames _ hr', State.setFrames_setFrames, hr]
      rfl
    have hsame : U.sameButNew ({ U with heap := s₂.heap, slotsUsed := s₂.slotsUsed } : State) L mc ms := by
      refine ⟨?_, q2, q3, q4, q5, q6⟩
      obtain ⟨t, ht, -⟩ := State.frames_cons hr
      show ({ U with heap := s₂.heap, slotsUsed := s₂.slotsUsed } : State) = { U.setFrames U.frames with heap := s₂.heap, slotsUsed := s₂.slotsUsed }
      rw [State.setFrames_self ht]
    subst hg
    refine Or.inr ⟨q, ⟨(({ U with heap := s₂.heap, slotsUsed := s₂.slotsUsed } : State).setVm s₂.vm), Ls ++ L, c0 + mc, s0 + ms⟩,
      ⟨X.admits, X.cas, X.clock, X.frames, X.room, X.hears, X.method, X.code, (X.here.setHeapUsed s₂.heap s₂.slotsUsed).setVm hW'.alike, X.tail, State.WarmedH.trans X.warmed hW', X.limits, X.bytes, X.same.trans (hsame.setVm s.vm)⟩,
      ⟨g, mk, s₂, L, E, ce, rfl, rfl, hx, hce, hcv, hcl, rfl, hL, rfl, rfl⟩, ?_⟩
    show Steps p.tables e below _ (((({ U with heap := s₂.heap, slotsUsed := s₂.slotsUsed } : State).setVm s₂.vm).setTop g).pushFrame (.throwing q))
    rw [← hs₂]
    exact hsteps
end
variable {p : Program} {l : Launch} {e : Env} {R : Room} {s : State} {m : MethodId} {args : Array Value} {below : List Frame} {meth : Method} {c : Code} {T : State} {H : Heap} {locs : List Loc} {cells slots : Nat}
theorem vx_callVX (X : Stand p l e R s m args below meth c T locs cells slots) (hexec : p.tables.exec = Jvm.exec) {own C : String} {index : Nat} {y : MethodName} {bytes : ByteArray} {maxL : Nat} {ret : Option FieldType} {hh : List (Nat × Nat × Nat × Nat)}
    (hown : s.vm.findClass own = some m.cls) (hlink : (Cond.methodLink own index y).before args s = true) (hinst : (Cond.instanceMethod y).before args s = true) (hsel : (Cond.selects C y y).before args s = true)
    (hcode : (Cond.codeWith y bytes maxL ret hh).before args s = true) (hy : y.cls ≠ "java/lang/invoke/MethodHandle" ∧ y.cls ≠ "java/lang/invoke/VarHandle")
    {W9 : Nat} {Pre : Pt → Array Value → Prop} {Post : Pt → Array Value → Option Value → Pt → Prop} {PostX : Pt → Array Value → Addr → Pt → Prop} (hK : vx_Back l R p e below s args y 3 W9 Pre Post PostX)
    {b : Addr} {cellB : Cell} (hcell : T.heap[b]? = some cellB) (hobj : cellB.vm.isStatics = false) (hcls : s.vm.findClass C = some cellB.cls)
    {g : JFrame} (hg : g.method = m) (hsize : g.locals.size = c.maxLocals) {argsL rest : List Value} (hlen : ∀ sig, parseMethodDescriptor y.desc = some sig → argsL.length = sig.parameters.length)
    (hstack : g.stack = argsL.reverse ++ .ref b :: rest) (hW : 2 * g.monitorRoom + (rest.map fun v => v.category).sum ≤ W9) (hdg : decode c.code g.pc = .ok (.invokevirtual index, 3))
    (hpre : ∀ vm₁, s.WarmedH vm₁ → Pre ⟨T.setVm vm₁, locs, cells, slots⟩ (Value.ref b :: argsL).toArray) :
    (∃ (v : Option Value) (vm₁ : Vm) (B : Pt), s.WarmedH vm₁ ∧ Stand p l e R s m args below meth c B.U B.locs B.cells B.slots ∧ Post ⟨T.setVm vm₁, locs, cells, slots⟩ (Value.ref b :: argsL).toArray v B ∧
      ∀ target, Steps p.tables e below (B.U.setTop { g with pc := g.pc + 3, stack := v.toList ++ rest }) target → Steps p.tables e below (T.setTop g) target) ∨
    (∃ (q : Addr) (vm₁ : Vm) (B : Pt), s.WarmedH vm₁ ∧ Stand p l e R s m args below meth c B.U B.locs B.cells B.slots ∧ PostX ⟨T.setVm vm₁, locs, cells, slots⟩ (Value.ref b :: argsL).toArray q B ∧
      Steps p.tables e below (T.setTop g) ((B.U.setTop { g with stack := rest }).pushFrame (.throwing q))) := by
  obtain ⟨mk, methM, hnamed, hmethM, hstM, habM⟩ := Cond.instanceMethod_spec hinst
  obtain ⟨m8, methM', cM, hn8, hmethM', -, -, -, -, -, -, hsigM⟩ := Cond.codeWith_spec hcode
  cases Option.some.inj (hn8.symm.trans hnamed)
  cases hmethM.symm.trans hmethM'
  obtain ⟨c2, r2, m2, q1, q2, q3, q4, kP, hkP, hkPi⟩ := Cond.selects_spec hsel
  cases hcls.symm.trans q1
  cases (State.methodFound?_of_named hnamed hy).symm.trans q2
  cases hnamed.symm.trans q3
  have hselP : selectMethod e.platform s.vm cellB.cls mk = .method mk := by rw [Launch.admits_selectMethod X.admits]; exact q4
  obtain ⟨vm₁, X₁, hstep₁⟩ := X.invokevirtual hexec hown hlink hnamed hmethM hstM hkP hkPi hy (a := b) (cell := cellB) hcell
    (fun z h => by rw [h] at hobj; cases hobj) hselP hmethM habM hkP hkPi (g := g) hg (argsL := argsL) (rest := rest) (hlen _ hsigM) hstack hdg
  rcases hK m meth c ⟨T.setVm vm₁, locs, cells, slots⟩ { g with stack := rest } (.invokevirtual index) mk (Value.ref b :: argsL).toArray X₁ hg hsize hdg hW (X₁.named hnamed) (hpre vm₁ X₁.warmed) with ⟨v, B, X', hpost, hsteps⟩ | ⟨q, B, X', hpost, hsteps⟩
  · exact Or.inl ⟨v, vm₁, B, X₁.warmed, X', hpost, fun target h => hstep₁ _ fun acts => by rw [doInvoke_state]; exact hsteps.trans h⟩
  · exact Or.inr ⟨q, vm₁, B, X₁.warmed, X', hpost, hstep₁ _ fun acts => by rw [doInvoke_state]; exact hsteps⟩
theorem vx_callSX (X : Stand p l e R s m args below meth c T locs cells slots) (hexec : p.tables.exec = Jvm.exec) {own : String} {index : Nat} {y : MethodName} {bytes : ByteArray} {maxL : Nat} {ret : Option FieldType} {hh : List (Nat × Nat × Nat × Nat)}
    (hown : s.vm.findClass own = some m.cls) (hlink : (Cond.methodLink own index y).before args s = true) (hstat : (Cond.static y).before args s = true) (hinit : (Cond.initialized y.cls).before args s = true)
    (hcode : (Cond.codeWith y bytes maxL ret hh).before args s = true) (hy : y.cls ≠ "java/lang/invoke/MethodHandle" ∧ y.cls ≠ "java/lang/invoke/VarHandle")
    {W9 : Nat} {Pre : Pt → Array Value → Prop} {Post : Pt → Array Value → Option Value → Pt → Prop} {PostX : Pt → Array Value → Addr → Pt → Prop} (hK : vx_Back l R p e below s args y 3 W9 Pre Post PostX)
    {g : JFrame} (hg : g.method = m) (hsize : g.locals.size = c.maxLocals) {argsL rest : List Value} (hlen : ∀ sig, parseMethodDescriptor y.desc = some sig → argsL.length = sig.parameters.length)
    (hstack : g.stack = argsL.reverse ++ rest) (hW : 2 * g.monitorRoom + (rest.map fun v => v.category).sum ≤ W9) (hdg : decode c.code g.pc = .ok (.invokestatic index, 3))
    (hpre : ∀ vm₁, s.WarmedH vm₁ → Pre ⟨T.setVm vm₁, locs, cells, slots⟩ argsL.toArray) :
    (∃ (v : Option Value) (vm₁ : Vm) (B : Pt), s.WarmedH vm₁ ∧ Stand p l e R s m args below meth c B.U B.locs B.cells B.slots ∧ Post ⟨T.setVm vm₁, locs, cells, slots⟩ argsL.toArray v B ∧
      ∀ target, Steps p.tables e below (B.U.setTop { g with pc := g.pc + 3, stack := v.toList ++ rest }) target → Steps p.tables e below (T.setTop g) target) ∨
    (∃ (q : Addr) (vm₁ : Vm) (B : Pt), s.WarmedH vm₁ ∧ Stand p l e R s m args below meth c B.U B.locs B.cells B.slots ∧ PostX ⟨T.setVm vm₁, locs, cells, slots⟩ argsL.toArray q B ∧
      Steps p.tables e below (T.setTop g) ((B.U.setTop { g with stack := rest }).pushFrame (.throwing q))) := by
  obtain ⟨mk, methM, cM, hnamed, hmethM, -, -, -, -, -, -, hsigM⟩ := Cond.codeWith_spec hcode
  have hstatic : methM.isStatic = true := Cond.static_spec hnamed hmethM hstat
  obtain ⟨kP, hkP, -⟩ := className_of_methodNamed hnamed
  have hinitP : kP.init = .initialized := Cond.initialized_spec (findClass_of_methodNamed hnamed) hkP hinit
  obtain ⟨vm₁, X₁, hstep₁⟩ := X.invokestatic hexec hown hlink hnamed hmethM hstatic hkP hinitP hy (g := g) hg (argsL := argsL) (rest := rest) (hlen _ hsigM) hstack hdg
  rcases hK m meth c ⟨T.setVm vm₁, locs, cells, slots⟩ { g with stack := rest } (.invokestatic index) mk argsL.toArray X₁ hg hsize hdg hW (X₁.named hnamed) (hpre vm₁ X₁.warmed) with ⟨v, B, X', hpost, hsteps⟩ | ⟨q, B, X', hpost, hsteps⟩
  · exact Or.inl ⟨v, vm₁, B, X₁.warmed, X', hpost, fun target h => hstep₁ _ fun acts => by rw [doInvoke_state]; exact hsteps.trans h⟩
  · exact Or.inr ⟨q, vm₁, B, X₁.warmed, X', hpost, hstep₁ _ fun acts => by rw [doInvoke_state]; exact hsteps⟩
theorem vx_callVW (X : Stand p l e R s m args below meth c T locs cells slots) (hexec : p.tables.exec = Jvm.exec) {own C : String} {index : Nat} {y : MethodName} {bytes : ByteArray} {maxL : Nat} {ret : Option FieldType} {hh : List (Nat × Nat × Nat × Nat)}
    (hown : s.vm.findClass own = some m.cls) (hlink : (Cond.methodLink own index y).before args s = true) (hinst : (Cond.instanceMethod y).before args s = true) (hsel : (Cond.selects C y y).before args s = true)
    (hcode : (Cond.codeWith y bytes maxL ret hh).before args s = true) (hy : y.cls ≠ "java/lang/invoke/MethodHandle" ∧ y.cls ≠ "java/lang/invoke/VarHandle")
    {W9 : Nat} {Pre : Pt → Array Value → Prop} {Post : Pt → Array Value → Option Value → Pt → Prop} (hK : Back l R p e below s args y 3 W9 Pre Post)
    {b : Addr} {cellB : Cell} (hcell : T.heap[b]? = some cellB) (hobj : cellB.vm.isStatics = false) (hcls : s.vm.findClass C = some cellB.cls)
    {g : JFrame} (hg : g.method = m) (hsize : g.locals.size = c.maxLocals) {argsL rest : List Value} (hlen : ∀ sig, parseMethodDescriptor y.desc = some sig → argsL.length = sig.parameters.length)
    (hstack : g.stack = argsL.reverse ++ .ref b :: rest) (hW : 2 * g.monitorRoom + (rest.map fun v => v.category).sum ≤ W9) (hdg : decode c.code g.pc = .ok (.invokevirtual index, 3))
    (hpre : ∀ vm₁, s.WarmedH vm₁ → Pre ⟨T.setVm vm₁, locs, cells, slots⟩ (Value.ref b :: argsL).toArray) :
    ∃ (v : Option Value) (vm₁ : Vm) (B : Pt), s.WarmedH vm₁ ∧ Stand p l e R s m args below meth c B.U B.locs B.cells B.slots ∧ Post ⟨T.setVm vm₁, locs, cells, slots⟩ (Value.ref b :: argsL).toArray v B ∧
      ∀ target, Steps p.tables e below (B.U.setTop { g with pc := g.pc + 3, stack := v.toList ++ rest }) target → Steps p.tables e below (T.setTop g) target := by
  obtain ⟨mk, methM, hnamed, hmethM, hstM, habM⟩ := Cond.instanceMethod_spec hinst
  obtain ⟨m8, methM', cM, hn8, hmethM', -, -, -, -, -, -, hsigM⟩ := Cond.codeWith_spec hcode
  cases Option.some.inj (hn8.symm.trans hnamed)
  cases hmethM.symm.trans hmethM'
  obtain ⟨c2, r2, m2, q1, q2, q3, q4, kP, hkP, hkPi⟩ := Cond.selects_spec hsel
  cases hcls.symm.trans q1
  cases (State.methodFound?_of_named hnamed hy).symm.trans q2
  cases hnamed.symm.trans q3
  have hselP : selectMethod e.platform s.vm cellB.cls mk = .method mk := by rw [Launch.admits_selectMethod X.admits]; exact q4
  obtain ⟨vm₁, X₁, hstep₁⟩ := X.invokevirtual hexec hown hlink hnamed hmethM hstM hkP hkPi hy (a := b) (cell := cellB) hcell
    (fun z h => by rw [h] at hobj; cases hobj) hselP hmethM habM hkP hkPi (g := g) hg (argsL := argsL) (rest := rest) (hlen _ hsigM) hstack hdg
  obtain ⟨v, B, X', hpost, hsteps⟩ := hK m meth c ⟨T.setVm vm₁, locs, cells, slots⟩ { g with stack := rest } (.invokevirtual index) mk (Value.ref b :: argsL).toArray X₁ hg hsize hdg hW (X₁.named hnamed) (hpre vm₁ X₁.warmed)
  exact ⟨v, vm₁, B, X₁.warmed, X', hpost, fun target h => hstep₁ _ fun acts => by rw [doInvoke_state]; exact hsteps.trans h⟩
abbrev vx_CVW (R : Room) (s : State) (args : Array Value) (own C : String) (index : Nat) (y : MethodName) (bytes : ByteArray) (maxL : Nat) (ret : Option FieldType) (hh : List (Nat × Nat × Nat × Nat)) (ws : List Cond) (rm : Room) (mc ms n : Nat) : Prop :=
  (rm.cells = mc ∧ rm.slots = ms ∧ rm.frames + 1 ≤ R.frames ∧ 8 + (maxL + 11) + rm.locals ≤ R.locals ∧ (∀ w ∈ ws, ∀ (a' : Array Value) (U : State), s.WarmedH U.vm → w.before a' U = true) ∧ Cond.codeWith y bytes maxL ret hh ∈ ws) ∧
  (Cond.codeWith y bytes maxL ret hh).before args s = true ∧ (Cond.initialized y.cls).before args s = true ∧ (y.cls ≠ "java/lang/invoke/MethodHandle" ∧ y.cls ≠ "java/lang/invoke/VarHandle") ∧
  (∀ sig, parseMethodDescriptor y.desc = some sig → n = sig.parameters.length) ∧ (Cond.methodLink own index y).before args s = true ∧ (Cond.instanceMethod y).before args s = true ∧ (Cond.selects C y y).before args s = true
theorem vx_cwVW {own C : String} {index maxL mc ms : Nat} {y : MethodName} {bytes : ByteArray} {ret : Option FieldType} {hh : List (Nat × Nat × Nat × Nat)} {Ts ws ws' : List Cond} {rm : Room} (n : Nat) (ht : ∀ w ∈ Ts, w.before args s = true) (hT : GoodIn Ts (wsV own index C y ws)) (hw : ws = Cond.codeWith y bytes maxL ret hh :: ws') (hrc : rm.cells = mc) (hrs : rm.slots = ms)
    (hd : y.cls = C ∧ y.cls ≠ "java/lang/invoke/MethodHandle" ∧ y.cls ≠ "java/lang/invoke/VarHandle" ∧ (parseMethodDescriptor y.desc).map (fun d => d.parameters.length) = some n) (hR : rm.frames + 1 ≤ R.frames ∧ 8 + (maxL + 11) + rm.locals ≤ R.locals) :
    vx_CVW R s args own C index y bytes maxL ret hh ws rm mc ms n := by
  obtain ⟨hC, hd⟩ := hd
  subst hC
  have ok : ∀ w ∈ wsV own index y.cls y ws, w.before args s = true := fun w h => ht w (hT w h).1
  have hG : GoodIn Ts ws := fun w h => hT w (by unfold wsV; exact List.mem_append_right _ h)
  have hc : Cond.codeWith y bytes maxL ret hh ∈ ws := by rw [hw]; exact List.mem_cons_self
  refine ⟨⟨hrc, hrs, hR.1, hR.2, pay_in ht hG, hc⟩, ht _ (hG _ hc).1, ok _ (by simp [wsV]), ⟨hd.1, hd.2.1⟩, fun sig h => ?_, ok _ (by simp [wsV]), ok _ (by simp [wsV]), ok _ (by simp [wsV])⟩
  have h2 := hd.2.2
  rw [h] at h2
  exact (Option.some.inj h2).symm
theorem vx_runVW {y : MethodName} {bytes cc : ByteArray} {maxL nL mc ms n index : Nat} {ret : Option FieldType} {hh : List (Nat × Nat × Nat × Nat)} {ws : List Cond} {rm : Room} {Pc : Array Value → State → Prop} {Qc : Array Value → State → Outcome → State → Prop} {free : Addr → Prop} {Ts : List Cond} {own C : String} {b : Addr} {As rest : List Value} {g : JFrame}
    (S : CallFix p m c cc nL s args Ts own) (hM : Met l y ws rm Pc Qc mc ms free) (cw : vx_CVW R s args own C index y bytes maxL ret hh ws rm mc ms n) (hp : PreV s H C b Pc As)
    (hg : g.method = m) (hn : As.length = n) (hsize : g.locals.size = nL) (hstack : g.stack = As.reverse ++ .ref b :: rest) (hW : 2 * g.monitorRoom + (rest.map fun v => v.category).sum ≤ 8) (hdg : decode cc g.pc = .ok (.invokevirtual index, 3)) (hf : cells + mc ≤ R.cells ∧ slots + ms ≤ R.slots) :
    va_Run p l e R s m args below meth c H locs cells slots mc ms g rest (Qc (Value.ref b :: As).toArray) free := by
  obtain ⟨⟨hrc, hrs, hfr, hlo, hws, hcw⟩, hcode, hini, hy, hlen, hl, hin, hse⟩ := cw
  have hK : Back l R p e below s args y 3 8 (PreOf R mc ms Pc) (PostOf Qc mc ms free) := va_backW (hh := hh) (bytes := bytes) (maxL := maxL) (ret := ret) hM hp.1 hrc hrs hfr hlo hws hcw (fun a' U hW => word_at hW (Or.inl (by first | rfl | simp [Cond.onTables, Cond.keeps, Cond.steady])) hini)
  obtain ⟨hx, hb, hml, ho, -⟩ := S
  obtain ⟨-, ⟨cellB, hcB, hoB, hclB⟩, hPc⟩ := hp
  intro T hT X
  obtain ⟨v, vm₁, ⟨U', l2, c2, s2⟩, hW₁, X', ⟨g', mk, t, L, e1, e2, hq, h1, hL, h2, h3⟩, st⟩ := vx_callVW X hx (C := C) (hh := hh) (bytes := bytes) (maxL := maxL) (ret := ret) ho hl hin hse hcode hy hK (by rw [hT]; exact hcB) hoB hclB hg (hsize.trans hml.symm) (argsL := As) (rest := rest) (fun sig h => hn.trans (hlen sig h)) hstack hW (by rw [hb]; exact hdg)
    (fun vm₁ hW₁ => ⟨hf.1, hf.2, hPc (T.setVm vm₁) hT hW₁⟩)
  dsimp only [Pt.U, Pt.locs, Pt.cells, Pt.slots] at X' e1 e2 h1 h2 h3 st
  subst h1; subst h2; subst h3
  exact ⟨v, (T.setVm vm₁).calling g' mk (Value.ref b :: As).toArray, t, U', L, hT, X', hL, e1, e2, hq, st⟩
section
variable {y : MethodName} {bytes cc : ByteArray} {maxL nL mc ms n index : Nat} {ret : Option FieldType} {ws : List Cond} {rm : Room} {Pc : Array Value → State → Prop} {Qc : Array Value → State → Outcome → State → Prop} {XC : String → State → State → Prop} {free : Addr → Prop} {Ts : List Cond} {own C : String} {b : Addr} {As rest : List Value} {g : JFrame}
theorem vx_runVX {hh : List (Nat × Nat × Nat × Nat)} (S : CallFix p m c cc nL s args Ts own) (hM : vx_Met l y ws rm Pc Qc XC mc ms free) (cw : vx_CVW R s args own C index y bytes maxL ret hh ws rm mc ms n) (hp : PreV s H C b Pc As)
    (hg : g.method = m) (hn : As.length = n) (hsize : g.locals.size = nL) (hstack : g.stack = As.reverse ++ .ref b :: rest) (hW : 2 * g.monitorRoom + (rest.map fun v => v.category).sum ≤ 8) (hdg : decode cc g.pc = .ok (.invokevirtual index, 3)) (hf : cells + mc ≤ R.cells ∧ slots + ms ≤ R.slots) :
    vx_Run p l e R s m args below meth c H locs cells slots mc ms g rest (Qc (Value.ref b :: As).toArray) XC free := by
  obtain ⟨⟨hrc, hrs, hfr, hlo, hws, hcw⟩, hcode, hini, hy, hlen, hl, hin, hse⟩ := cw
  have hK : vx_Back l R p e below s args y 3 8 (PreOf R mc ms Pc) (PostOf Qc mc ms free) (vx_Post XC mc ms free) := vx_backW (hh := hh) (bytes := bytes) (maxL := maxL) (ret := ret) hM hp.1 hrc hrs hfr hlo hws hcw (fun a' U hW => word_at hW (Or.inl (by first | rfl | simp [Cond.onTables, Cond.keeps, Cond.steady])) hini)
  obtain ⟨hx, hb, hml, ho, -⟩ := S
  obtain ⟨-, ⟨cellB, hcB, hoB, hclB⟩, hPc⟩ := hp
  intro T hT X
  rcases vx_callVX X hx (C := C) (hh := hh) (bytes := bytes) (maxL := maxL) (ret := ret) ho hl hin hse hcode hy hK (by rw [hT]; exact hcB) hoB hclB hg (hsize.trans hml.symm) (argsL := As) (rest := rest) (fun sig h => hn.trans (hlen sig h)) hstack hW (by rw [hb]; exact hdg)
    (fun vm₁ hW₁ => ⟨hf.1, hf.2, hPc (T.setVm vm₁) hT hW₁⟩) with ⟨v, vm₁, ⟨U', l2, c2, s2⟩, hW₁, X', ⟨g', mk, t, L, e1, e2, hq, h1, hL, h2, h3⟩, st⟩ | ⟨q, vm₁, ⟨U', l2, c2, s2⟩, hW₁, X', ⟨g', mk, t, L, E, ce, e1, e2, hq, hce, hcv, hcl, h1, hL, h2, h3⟩, st⟩
  · dsimp only [Pt.U, Pt.locs, Pt.cells, Pt.slots] at X' e1 e2 h1 h2 h3 st
    subst h1; subst h2; subst h3
    exact Or.inl ⟨v, (T.setVm vm₁).calling g' mk (Value.ref b :: As).toArray, t, U', L, hT, X', hL, e1, e2, hq, st⟩
  · dsimp only [Pt.U, Pt.locs, Pt.cells, Pt.slots] at X' e1 e2 h1 h2 h3 st hcl
    subst h1; subst h2; subst h3
    exact Or.inr ⟨q, (T.setVm vm₁).calling g' mk (Value.ref b :: As).toArray, t, U', L, E, ce, hT, X', hL, e1, e2, hq, hce, hcv, vx_cls hW₁ hcl, st⟩
theorem vx_runSX {hh : List (Nat × Nat × Nat × Nat)} (S : CallFix p m c cc nL s args Ts own) (hM : vx_Met l y ws rm Pc Qc XC mc ms free) (cw : vx_CSW R s args own index y bytes maxL ret hh ws rm mc ms n) (hp : PreS s H Pc As)
    (hg : g.method = m) (hn : As.length = n) (hsize : g.locals.size = nL) (hstack : g.stack = As.reverse ++ rest) (hW : 2 * g.monitorRoom + (rest.map fun v => v.category).sum ≤ 8) (hdg : decode cc g.pc = .ok (.invokestatic index, 3)) (hf : cells + mc ≤ R.cells ∧ slots + ms ≤ R.slots) :
    vx_Run p l e R s m args below meth c H locs cells slots mc ms g rest (Qc As.toArray) XC free := by
  obtain ⟨⟨hrc, hrs, hfr, hlo, hws, hcw⟩, hcode, hini, hy, hlen, hl, hstt⟩ := cw
  have hK : vx_Back l R p e below s args y 3 8 (PreOf R mc ms Pc) (PostOf Qc mc ms free) (vx_Post XC mc ms free) := vx_backW (hh := hh) (bytes := bytes) (maxL := maxL) (ret := ret) hM hp.1 hrc hrs hfr hlo hws hcw (fun a' U hW => word_at hW (Or.inl (by first | rfl | simp [Cond.onTables, Cond.keeps, Cond.steady])) hini)
  obtain ⟨hx, hb, hml, ho, -⟩ := S
  intro T hT X
  rcases vx_callSX X hx (hh := hh) (bytes := bytes) (maxL := maxL) (ret := ret) ho hl hstt hini hcode hy hK hg (hsize.trans hml.symm) (argsL := As) (rest := rest) (fun sig h => hn.trans (hlen sig h)) hstack hW (by rw [hb]; exact hdg)
    (fun vm₁ hW₁ => ⟨hf.1, hf.2, hp.2 (T.setVm vm₁) hT hW₁⟩) with ⟨v, vm₁, ⟨U', l2, c2, s2⟩, hW₁, X', ⟨g', mk, t, L, e1, e2, hq, h1, hL, h2, h3⟩, st⟩ | ⟨q, vm₁, ⟨U', l2, c2, s2⟩, hW₁, X', ⟨g', mk, t, L, E, ce, e1, e2, hq, hce, hcv, hcl, h1, hL, h2, h3⟩, st⟩
  · dsimp only [Pt.U, Pt.locs, Pt.cells, Pt.slots] at X' e1 e2 h1 h2 h3 st
    subst h1; subst h2; subst h3
    exact Or.inl ⟨v, (T.setVm vm₁).calling g' mk As.toArray, t, U', L, hT, X', hL, e1, e2, hq, st⟩
  · dsimp only [Pt.U, Pt.locs, Pt.cells, Pt.slots] at X' e1 e2 h1 h2 h3 st hcl
    subst h1; subst h2; subst h3
    exact Or.inr ⟨q, (T.setVm vm₁).calling g' mk As.toArray, t, U', L, E, ce, hT, X', hL, e1, e2, hq, hce, hcv, vx_cls hW₁ hcl, st⟩
end
end VXH
theorem vx_ofWH {l : Launch} {y : MethodName} {ws ws' : List Cond} {rm : Room} {Pc : Array Value → State → Prop} {Qc : Array Value → State → Outcome → State → Prop} {XC : String → State → State → Prop} {mc ms : Nat} {free : Addr → Prop} {cc : ByteArray} {maxL : Nat} {ret : Option FieldType} {hh : List (Nat × Nat × Nat × Nat)}
    (hy : plainName y.cls = true) (hw : ws = Cond.codeWith y cc maxL ret hh :: ws')
    (body : ∀ p e s m args below meth c s₁, BodyLoose p l y (headSpec ws rm) cc maxL ret e s m args below meth c s₁ → c.maxLocals = maxL → Pc args s →
      W p l e (headSpec ws rm).room s m args below meth c s.heap [] 0 0 (vx_MQ below Qc XC args s mc ms free) (entryFrame m args maxL)) : vx_Met l y ws rm Pc Qc XC mc ms free := by
  refine MetFree.of_bodyS (code := cc) (maxLocals := maxL) (ret := ret) hy ?_ ?_
  · intro args s m h hn
    obtain ⟨m9, meth, c, hn9, h1, h2, h3, h4, -, h5, h6, -⟩ := Cond.codeWith_spec (atoms_spec (ws := ws) h _ (by rw [hw]; exact List.mem_cons_self))
    cases hn.symm.trans hn9
    exact ⟨meth, c, h1, h2, h3, h4, h5, h6⟩
  · intro p e s m args below meth c s₁ B hml hP _
    have hh0 : s₁.heap = s.heap := by rw [B.state]; rfl
    obtain ⟨t, a1, o, b1, b2, b3⟩ := body p e s m args below meth c s₁ B hml hP s₁ hh0 (Stand.of_body B)
    exact ⟨t, o, a1, b1, b2, b3⟩
/-! ===== END ===== -/

/-! ===== BEGIN what the machine throws by itself, no traces kept ===== -/
section VXM
set_option maxHeartbeats 1000000 in
/-- the machine throws cls with the message text, no traces kept: from its note over the frame g to 'throwing' over the same frame (follows the proofs of Stand.vmThrowsMessage, Shelf/KitTracedVmS.lean, and Stand.throwsMessageColdBareV, StandMessageColdV.lean, without the step out of the frame) -/
theorem vx_vmAt {p : Program} {l : Launch} {e : Env} {R : Room} {s : State} {m₀ : MethodId} {args : Array Value} {below : List Frame} {meth : Method} {c : Code} {W : State} {locs : List Loc} {cells slots : Nat}
    (X : Stand p l e R s m₀ args below meth c W locs cells slots) (hexec : p.tables.exec = Jvm.exec) (htr : e.platform.stackTraces = false) {cls : String} {names : List String} {text : String}
    (hcls : Bundle.fit cls = true) (hnames : ∀ n ∈ names, Bundle.fit n = true) (hsoe : (cls == "java/lang/StackOverflowError") = false) (hoom : (cls == "java/lang/OutOfMemoryError") = false)
    (h : ∀ a ∈ Bundle.messageArmAtoms cls names, a.before args s = true)
    (hlocs : ∀ x ∈ locs, ∀ cell, s.heap[x.base]? = some cell → cell.vm.isStatics = false)
    (htext : (text == notModelled) = false) (hlimit : ¬ (stringBytes (stringToUtf16 text)).size > e.platform.arrayLengthLimit) (hheap : ¬ (stringBytes (stringToUtf16 text)).size * componentBytes .byte > e.platform.maxHeapBytes)
    {g : JFrame} (hg : g.method = m₀) (hsize : g.locals.size = c.maxLocals)
    (hRframes : names.length + 4 < R.frames) (hRlocals : 2 * g.monitorRoom + (g.stack.map fun v => v.category).sum + 10240 ≤ R.locals) (hshort : 13 * names.length + 55 ≤ 10240)
    (hRcells : cells + 3 ≤ R.cells) (hRslots : slots + ((stringBytes (stringToUtf16 text)).size + 4 + 6) ≤ R.slots) (hlocks : meth.locks = false) :
    ∃ (S : State) (q : Addr) (ce : Cell), (∀ target, Steps p.tables e below ((S.setTop g).pushFrame (.throwing q)) target → Steps p.tables e below ((W.setTop g).pushFrame (.throwNew cls (some text) none)) target) ∧
      Stand p l e R s m₀ args below meth c S locs (cells + 3) (slots + ((stringBytes (stringToUtf16 text)).size + 4 + 6)) ∧ S.heap[q]? = some ce ∧ s.vm.findClass cls = some ce.cls ∧ ce.vm = .none := by
  have howns : e.platform.frameOwnsMonitors = true := by rw [X.admits.platform]
  have hfin : e.platform.finalization = false := by rw [X.admits.platform]
  have hpl : e.platform.magicAccessors = ({} : Platform).magicAccessors := by rw [X.admits.platform]
  have a : ∀ x, x ∈ Bundle.messageArmAtoms cls names → x.holds args s none s [] = true := fun x hx => h x hx
  obtain ⟨T, Z0, L, -, Y⟩ := ThrowableC.of_atoms (args := args) howns hfin hpl (fun x hx => h x (by simp [Bundle.messageArmAtoms, hx]))
  obtain ⟨Z, M, LZ, LM, hnZ⟩ := Init0T.ofS_atoms (args := args) hpl L Y (fun x hx => h x (by simp [Bundle.messageArmAtoms, hx]))
  obtain ⟨P1, Ps, hlen, L1, hL, hP1m, hlink1, hlink⟩ := Bundle.chainS (args := args) hpl hnZ names cls hcls hnames (fun x hx => h x (by simp [Bundle.messageArmAtoms, hx]))
  obtain ⟨Zs, LZs, hn4, hfitv, hfitc⟩ := StringT.of_atoms (args := args) (fun x hx => h x (by simp [Bundle.messageArmAtoms, hx]))
  have hfound : s.vm.findClass cls = some P1.m.cls := findClass_of_methodNamed hP1m
  obtain ⟨c1, kX, hc1, hk, hord, -, -, hn6⟩ := Cond.instantiable_spec (a (.instantiable cls 6) (by simp [Bundle.messageArmAtoms]))
  cases Option.some.inj (hc1.symm.trans hfound)
  have hinit := Cond.initialized_spec hfound hk (a (.initialized cls) (by simp [Bundle.messageArmAtoms]))
  have hctor : kX.findMethod "<init>" "(Ljava/lang/String;)V" = some P1.m.idx := findMethod_of_methodNamed hP1m hk
  have hsel0 : selectMethod e.platform s.vm P1.m.cls T.fill0 = .method T.fill0 := by
    obtain ⟨c2, r2, m2, q1, q2, q3, q4, -⟩ := Cond.selects_spec (a (.selects cls Bundle.tFill0 Bundle.tFill0) (by simp [Bundle.messageArmAtoms]))
    cases Option.some.inj (q1.symm.trans hfound)
    cases Option.some.inj (q2.symm.trans (State.methodFound?_of_named Y.fill0 (by decide)))
    cases Option.some.inj (q3.symm.trans Y.fill0)
    rw [Launch.admits_selectMethod X.admits]; exact q4
  have hselF : selectMethod e.platform s.vm P1.m.cls T.fill = .method T.fill := by
    obtain ⟨c2, r2, m2, q1, q2, q3, q4, -⟩ := Cond.selects_spec (a (.selects cls Bundle.tFill Bundle.tFill) (by simp [Bundle.messageArmAtoms]))
    cases Option.some.inj (q1.symm.trans hfound)
    cases Option.some.inj (q2.symm.trans (State.methodFound?_of_named Y.fill (by decide)))
    cases Option.some.inj (q3.symm.trans Y.fill)
    rw [Launch.admits_selectMethod X.admits]; exact q4
  obtain ⟨cellS0, hcS0, hiss⟩ := Y.statics
  obtain ⟨u0, hu0⟩ := Cond.staticRefV Y.unassigned L.unassignedStatic L.statics hcS0 hiss (a (.isRef (.static Bundle.tN "UNASSIGNED_STACK" Bundle.steD)) (by simp [Bundle.messageArmAtoms]))
  obtain ⟨sen, hsen⟩ := Cond.staticRefV Y.sentinel L.sentinelStatic L.statics hcS0 hiss (a (.isRef (.static Bundle.tN "SUPPRESSED_SENTINEL" Bundle.listD)) (by simp [Bundle.messageArmAtoms]))
  obtain ⟨ci198, i198, fB, hk198, hg198, ha198, hsB, -, hnB, htB, hffB⟩ := Cond.ownField (t := .object "java/lang/Object") Y.found L.cls (by decide +kernel) (a (.fieldLink Bundle.tN 198 Bundle.tN "backtrace" "Ljava/lang/Object;") (by simp [Bundle.messageArmAtoms])) (a (.lays Bundle.tN Bundle.tN "backtrace" "Ljava/lang/Object;") (by simp [Bundle.messageArmAtoms])) e.platform hpl
  obtain ⟨cellS, hcS', heS, -, hkeep⟩ := X.same.2.2.2.2.2 T.aS cellS0 hcS0
  have hcellS : W.heap[T.aS]? = some cellS := hcS'
  have hout' : ∀ i, (⟨T.aS, i⟩ : Loc) ∉ locs := fun i hmem => by
    have := hlocs _ hmem cellS0 hcS0
    rw [hiss] at this; cases this
  have hknownS : cellS.vm ≠ .unknown := by
    rw [heS]; intro hu
    rw [show cellS0.vm = .unknown from hu] at hiss
    cases hiss
  have hvU : cellS.slots[T.fUnassigned.slot]? = some u0.v := by rw [hkeep _ (hout' _)]; exact hu0
  have hvSen : cellS.slots[T.fSentinel.slot]? = some sen.v := by rw [hkeep _ (hout' _)]; exact hsen
  obtain ⟨iM, hffM⟩ := Y.msg
  obtain ⟨tyC, dC, hdC, hdnC⟩ := Cond.laysAt hfound hk Y.cause (a (.lays cls Bundle.tN "cause" "Ljava/lang/Throwable;") (by simp [Bundle.messageArmAtoms]))
  obtain ⟨tyS, dS, hdS, hdnS⟩ := Cond.laysAt hfound hk Y.stack (a (.lays cls Bundle.tN "stackTrace" Bundle.steD) (by simp [Bundle.messageArmAtoms]))
  obtain ⟨tyP, dP, hdP, hdnP⟩ := Cond.laysAt hfound hk Y.supp (a (.lays cls Bundle.tN "suppressedExceptions" Bundle.listD) (by simp [Bundle.messageArmAtoms]))
  obtain ⟨tyM, dM, hdM, hdnM⟩ := Cond.laysAt hfound hk hffM (a (.lays cls Bundle.tN "detailMessage" "Ljava/lang/String;") (by simp [Bundle.messageArmAtoms]))
  obtain ⟨tyB, dB, hdB, hdnB⟩ := Cond.laysAt hfound hk hffB (a (.lays cls Bundle.tN "backtrace" "Ljava/lang/Object;") (by simp [Bundle.messageArmAtoms]))
  have bC := Cond.laysApart hdB hdC hdnB hdnC (by rw [hnB, Y.causeName]; decide)
  have bS := Cond.laysApart hdB hdS hdnB hdnS (by rw [hnB, Y.stackName]; decide)
  have bP := Cond.laysApart hdB hdP hdnB hdnP (by rw [hnB, Y.suppName]; decide)
  have hbk : ((preparedCellV T.toThrowableT (freshCell P1.m.cls kX) (W.heap.size + 2) u0 sen).withEntry W.cur).slots[fB.slot]? = some .null := by
    have := fresh_default (c := P1.m.cls) tyB
    rw [htB] at this
    simpa [preparedCellV, Cell.setSlot, Cell.withEntry, Array.getElem?_setIfInBounds, bC, bS, bP, bC.symm, bS.symm, bP.symm, defaultValue] using this
  have tkC := Takes.of_laid (v := .ref (W.heap.size + 2)) hk hord tyC (by rw [Y.causeType]; rfl)
  have tkS := Takes.of_laid (v := u0.v) hk hord tyS (by rw [Y.stackType]; exact fits_refV_array _ u0)
  have tkP := Takes.of_laid (v := sen.v) hk hord tyP (by rw [Y.suppType]; exact fits_refV_object _ sen)
  have tkM := Takes.of_laid (v := .ref (W.heap.size + 1)) hk hord tyM (by rw [Y.msgType]; rfl)
  have hskip : SkipFacts T e.platform s (fun u => u) u0 ((preparedCellV T.toThrowableT (freshCell P1.m.cls kX) (W.heap.size + 2) u0 sen).withEntry W.cur) := ⟨{ ci198 := ci198, i198 := i198, fBack := fB }, ⟨hk198, hg198, ha198, hsB⟩, hbk, fun _ _ => rfl⟩
  have h0 : At W g.method c below := by rw [hg]; exact X.here
  obtain ⟨hbeyond, hfreeW⟩ := X.vmMayThrow hsize (.throwNew cls (some text) none) (fun f hf => by cases hf) rfl hRlocals
  have hfr' : W.frames.length + Ps.length + 4 < (e.platform.stackLimits W.me).1 := by have := X.framesAbove hRframes; omega
  have hwd' : (stackUse (.java g :: W.frames.tail)).2 + 13 * Ps.length + 55 ≤ (e.platform.stackLimits W.me).2 := by have := X.stackAbove hsize (K := 13 * Ps.length + 55) (by omega); omega
  have hslots : W.slotsUsed + (stringBytes (stringToUtf16 text)).size + Zs.kS.instanceTypes.size + kX.instanceTypes.size ≤ e.platform.maxSlots := by
    have := X.slotsAbove hRslots
    rw [hn4, hn6]
    omega
  obtain ⟨vm', hW', st⟩ := Steps.vmThrowsMessageColdByV p (s₀ := s) (S := W) (g := g) h0 hexec T L Z LZ M LM X.warmed (t := W.cur) rfl Zs LZs P1 L1 Ps hL hlink1 hlink hsoe hoom hfound hk hinit hord hctor
    (Launch.admits_hotImplicitExceptions X.admits) hbeyond hfreeW htext hlimit hheap (X.cellsAbove hRcells) hslots (hfitv _) (hfitc _)
    (Nn := fun u => u) heapOnly_id (fun _ _ => rfl) (fun _ => rfl) (fun u x y => setCell_twice _ _ _ _) (fun _ => Nat.le_refl _) (cN := ((preparedCellV T.toThrowableT (freshCell P1.m.cls kX) (W.heap.size + 2) u0 sen).withEntry W.cur))
    hsel0 hcellS hknownS hvU tkS (fun _ hu => hu) (fun _ hu => hu) rfl rfl rfl (by simp [preparedCellV, Cell.setSlot, Cell.withEntry]) hskip (fun _ _ hA hW _ hroom _ hrest => L.nativeOff p htr hA hW hroom hrest) hselF hvSen tkC tkP tkM Y.objLocals rfl hfr' hwd'
  rw [plainBareV_eq T.toThrowableT (W.heap.size + 2) u0 sen (.ref (W.heap.size + 1)) W.cur rfl rfl] at st
  obtain ⟨-, -, w3, w4, -, -, -⟩ := withThrown_facts e.platform W Zs text P1.m.cls kX
  have X3 := ((X.pushed (bytesOf Zs.cB (stringToUtf16 text))).pushed (stringAt Zs.cS Zs.kS Zs.fv Zs.fc (stringToUtf16 text) W.heap.size)).pushed (freshCell P1.m.cls kX)
  rw [← withString_eq] at X3
  have X4 := X3.noted hW'
  have ha : (W.heap.size + 2) < ((withThrown W Zs text P1.m.cls kX).setVm vm').heap.size := by show _ < (withThrown W Zs text P1.m.cls kX).heap.size; rw [w3]; omega
  have hcell : ((withThrown W Zs text P1.m.cls kX).setVm vm').heap[(W.heap.size + 2)]? = some (freshCell P1.m.cls kX) := w4
  have X5 := ((((X4.stored hcell T.fCause.slot (.ref (W.heap.size + 2))).storedAgain ha T.fStack.slot u0.v).storedAgain ha T.fSupp.slot sen.v).storedAgain ha T.fStack.slot u0.v).storedAgain ha T.fMsg.slot (.ref (W.heap.size + 1))
  obtain ⟨g₁, hfrM⟩ := X5.frames_eq
  have hU : ((((withThrown W Zs text P1.m.cls kX).setVm vm').setCell (W.heap.size + 2) (plainBareV T.toThrowableT (freshCell P1.m.cls kX) (W.heap.size + 2) u0 sen (.ref (W.heap.size + 1)))).setTop g).pushFrame (.throwing (W.heap.size + 2)) = (((withThrown W Zs text P1.m.cls kX).setVm vm').setCell (W.heap.size + 2) (plainBareV T.toThrowableT (freshCell P1.m.cls kX) (W.heap.size + 2) u0 sen (.ref (W.heap.size + 1)))).setFrames (.throwing (W.heap.size + 2) :: .java g :: below) := by
    rw [State.pushFrame, State.frames_setTop _ hfrM, State.setTop_of_frames _ hfrM, State.setFrames_setFrames]
  have b1 : (bytesOf Zs.cB (stringToUtf16 text)).slots.size = (stringBytes (stringToUtf16 text)).size := by
    rw [(Cell.writeAll_facts _ _).2.2]; simp [bytes0]
  have b2 : (stringAt Zs.cS Zs.kS Zs.fv Zs.fc (stringToUtf16 text) W.heap.size).slots.size = 4 := by simp [string0, Cell.setSlot, hn4]
  have b3 : (freshCell P1.m.cls kX).slots.size = 6 := by simp [hn6]
  rw [b1, b2, b3] at X5
  have e9 : slots + (stringBytes (stringToUtf16 text)).size + 4 + 6 = slots + ((stringBytes (stringToUtf16 text)).size + 4 + 6) := by omega
  rw [e9] at X5
  simp only [List.append_assoc, List.cons_append, List.nil_append] at X5
  refine ⟨((withThrown W Zs text P1.m.cls kX).setVm vm').setCell (W.heap.size + 2) (plainBareV T.toThrowableT (freshCell P1.m.cls kX) (W.heap.size + 2) u0 sen (.ref (W.heap.size + 1))), W.heap.size + 2, _, fun target ht => st _ (by rw [X.tail, ← hU]; exact ht),
    X5.forget (fun y hy => ?_), heapAt_setCell_self _ ha, hfound, rfl⟩
  simp only [List.mem_cons, List.not_mem_nil, or_false] at hy
  have hge : s.heap.size ≤ W.heap.size := X.same.2.1
  rcases hy with rfl | rfl | rfl | rfl | rfl <;> exact Nat.le_trans hge (Nat.le_add_right _ 2)
set_option maxHeartbeats 1000000 in
/-- the machine throws NullPointerException, no traces kept: from its note over the frame g to 'throwing' over the same frame (follows the proof of Stand.vmThrowsNpe, Shelf42/KT2.lean; throwsNpeColdBareVAt, Shelf42/NT91.lean, called) -/
theorem vx_npeAt {p : Program} {l : Launch} {e : Env} {R : Room} {s : State} {m₀ : MethodId} {args : Array Value} {below : List Frame} {meth : Method} {c : Code} {W : State} {locs : List Loc} {cells slots : Nat}
    (X : Stand p l e R s m₀ args below meth c W locs cells slots) (hexec : p.tables.exec = Jvm.exec) (htr : e.platform.stackTraces = false) {n : Nat}
    (h : ∀ a ∈ Bundle.npeArmAtoms n, a.before args s = true)
    (hlocs : ∀ x ∈ locs, ∀ cell, s.heap[x.base]? = some cell → cell.vm.isStatics = false)
    {g : JFrame} (hg : g.method = m₀) (hsize : g.locals.size = c.maxLocals)
    (hRframes : 7 < R.frames) (hRlocals : 2 * g.monitorRoom + (g.stack.map fun v => v.category).sum + 10240 ≤ R.locals)
    (hRcells : cells + 1 ≤ R.cells) (hRslots : slots + n ≤ R.slots) (hlocks : meth.locks = false) :
    ∃ (S : State) (q : Addr) (ce : Cell), (∀ target, Steps p.tables e below ((S.setTop g).pushFrame (.throwing q)) target → Steps p.tables e below ((W.setTop g).pushFrame (.throwNew "java/lang/NullPointerException" none none)) target) ∧
      Stand p l e R s m₀ args below meth c S locs (cells + 1) (slots + n) ∧ S.heap[q]? = some ce ∧ s.vm.findClass "java/lang/NullPointerException" = some ce.cls ∧ ce.vm = .none := by
  have howns : e.platform.frameOwnsMonitors = true := by rw [X.admits.platform]
  have hfin : e.platform.finalization = false := by rw [X.admits.platform]
  have hpl : e.platform.magicAccessors = ({} : Platform).magicAccessors := by rw [X.admits.platform]
  have hpl2 : e.platform.arrayCloneIsPublic = true := by rw [X.admits.platform]
  have a' : ∀ x, x ∈ Bundle.npeArmAtoms n → x.holds args s none s [] = true := fun x hx => h x hx
  obtain ⟨T, Z, L, LZ, Y⟩ := ThrowableC.of_atoms (args := args) howns hfin hpl (fun x hx => h x (by simp [Bundle.npeArmAtoms, hx]))
  obtain ⟨N, LN, hcN, hnNF, hordN, hffS⟩ := NpeC.of_atoms (args := args) hpl hpl2 L Y (fun x hx => h x (by simp [Bundle.npeArmAtoms, hx]))
  obtain ⟨P1, L1, hP1m, hP1s⟩ := PassC.of_atoms (args := args) (s := s) hpl (X := Bundle.nN) (Y := Bundle.rN) (by decide) (by decide) LibCode.NullPointerException.Init0.at_0 LibCode.NullPointerException.Init0.at_1 LibCode.NullPointerException.Init0.at_4 (fun x hx => h x (by simp [Bundle.npeArmAtoms, hx]))
  obtain ⟨PR, LR, hPRm, hPRs⟩ := PassC.of_atoms (args := args) (s := s) hpl (X := Bundle.rN) (Y := Bundle.eN) (by decide) (by decide) LibCode.RuntimeException.Init0.at_0 LibCode.RuntimeException.Init0.at_1 LibCode.RuntimeException.Init0.at_4 (fun x hx => h x (by simp [Bundle.npeArmAtoms, hx]))
  obtain ⟨PE, LEx, hPEm, hPEs⟩ := PassC.of_atoms (args := args) (s := s) hpl (X := Bundle.eN) (Y := Bundle.tN) (by decide) (by decide) LibCode.Exception.Init0.at_0 LibCode.Exception.Init0.at_1 LibCode.Exception.Init0.at_4 (fun x hx => h x (by simp [Bundle.npeArmAtoms, hx]))
  have hfound : s.vm.findClass Bundle.nN = some P1.m.cls := findClass_of_methodNamed hP1m
  have ecls : N.cN = P1.m.cls := Option.some.inj (hcN.symm.trans hfound)
  have hk : s.vm.classes[P1.m.cls]? = some N.kN := by rw [← ecls]; exact LN.cls
  have hinit := Cond.initialized_spec hfound hk (a' (.initialized Bundle.nN) (by simp [Bundle.npeArmAtoms]))
  have hctor : N.kN.findMethod "<init>" "()V" = some P1.m.idx := findMethod_of_methodNamed hP1m hk
  obtain ⟨c1, k1, hc1, hk1, -, -, -, hn⟩ := Cond.instantiable_spec (a' (.instantiable Bundle.nN n) (by simp [Bundle.npeArmAtoms]))
  cases Option.some.inj (hc1.symm.trans hfound)
  cases Option.some.inj (hk1.symm.trans hk)
  have hfsz : (freshCell P1.m.cls N.kN).slots.size = n := by simp [hn]
  have hlink1 : P1.sup = PR.m := Option.some.inj (hP1s.symm.trans hPRm)
  have hlinkR : PR.sup = PE.m := Option.some.inj (hPRs.symm.trans hPEm)
  have hlinkE : PE.sup = Z.m T.toThrowableT := Option.some.inj (hPEs.symm.trans Y.init0)
  have hLs : ∀ P, P ∈ [PR, PE] → P.Links0 e.platform s := fun P hP => by
    simp only [List.mem_cons, List.not_mem_nil, or_false] at hP
    rcases hP with rfl | rfl
    · exact LR
    · exact LEx
  have hsel0 : selectMethod e.platform s.vm P1.m.cls T.fill0 = .method T.fill0 := by
    obtain ⟨c2, r2, m2, q1, q2, q3, q4, -⟩ := Cond.selects_spec (a' (.selects Bundle.nN Bundle.tFill0 Bundle.tFill0) (by simp [Bundle.npeArmAtoms]))
    cases Option.some.inj (q1.symm.trans hfound)
    cases Option.some.inj (q2.symm.trans (State.methodFound?_of_named Y.fill0 (by decide)))
    cases Option.some.inj (q3.symm.trans Y.fill0)
    rw [Launch.admits_selectMethod X.admits]; exact q4
  have hselF : selectMethod e.platform s.vm P1.m.cls T.fill = .method N.fill := by
    obtain ⟨c2, r2, m2, q1, q2, q3, q4, -⟩ := Cond.selects_spec (a' (.selects Bundle.nN Bundle.tFill Bundle.nFill) (by simp [Bundle.npeArmAtoms]))
    cases Option.some.inj (q1.symm.trans hfound)
    cases Option.some.inj (q2.symm.trans (State.methodFound?_of_named Y.fill (by decide)))
    cases Option.some.inj (q3.symm.trans hnNF)
    rw [Launch.admits_selectMethod X.admits]; exact q4
  obtain ⟨cellS0, hcS0, hiss⟩ := Y.statics
  obtain ⟨u0, hu0⟩ := Cond.staticRefV Y.unassigned L.unassignedStatic L.statics hcS0 hiss (a' (.isRef (.static Bundle.tN "UNASSIGNED_STACK" Bundle.steD)) (by simp [Bundle.npeArmAtoms]))
  obtain ⟨sen, hsen⟩ := Cond.staticRefV Y.sentinel L.sentinelStatic L.statics hcS0 hiss (a' (.isRef (.static Bundle.tN "SUPPRESSED_SENTINEL" Bundle.listD)) (by simp [Bundle.npeArmAtoms]))
  obtain ⟨ci198, i198, fB, hk198, hg198, ha198, hsB, -, hnB, htB, hffB⟩ := Cond.ownField (t := .object "java/lang/Object") Y.found L.cls (by decide +kernel) (a' (.fieldLink Bundle.tN 198 Bundle.tN "backtrace" Bundle.objD) (by simp [Bundle.npeArmAtoms])) (a' (.lays Bundle.tN Bundle.tN "backtrace" Bundle.objD) (by simp [Bundle.npeArmAtoms])) e.platform hpl
  obtain ⟨cellS, hcS', heS, -, hkeep⟩ := X.same.2.2.2.2.2 T.aS cellS0 hcS0
  have hcellS : W.heap[T.aS]? = some cellS := hcS'
  have hout' : ∀ i, (⟨T.aS, i⟩ : Loc) ∉ locs := fun i hmem => by
    have := hlocs _ hmem cellS0 hcS0
    rw [hiss] at this; cases this
  have hknownS : cellS.vm ≠ .unknown := by
    rw [heS]; intro hu
    rw [show cellS0.vm = .unknown from hu] at hiss
    cases hiss
  have hvU : cellS.slots[T.fUnassigned.slot]? = some u0.v := by rw [hkeep _ (hout' _)]; exact hu0
  have hvSen : cellS.slots[T.fSentinel.slot]? = some sen.v := by rw [hkeep _ (hout' _)]; exact hsen
  obtain ⟨tyC, dC, hdC, hdnC⟩ := Cond.laysAt hfound hk Y.cause (a' (.lays Bundle.nN Bundle.tN "cause" "Ljava/lang/Throwable;") (by simp [Bundle.npeArmAtoms]))
  obtain ⟨tyS, dS, hdS, hdnS⟩ := Cond.laysAt hfound hk Y.stack (a' (.lays Bundle.nN Bundle.tN "stackTrace" Bundle.steD) (by simp [Bundle.npeArmAtoms]))
  obtain ⟨tyP, dP, hdP, hdnP⟩ := Cond.laysAt hfound hk Y.supp (a' (.lays Bundle.nN Bundle.tN "suppressedExceptions" Bundle.listD) (by simp [Bundle.npeArmAtoms]))
  obtain ⟨tyX, dX, hdX, hdnX⟩ := Cond.laysAt hfound hk hffS (a' (.lays Bundle.nN Bundle.nN "extendedMessageState" "I") (by simp [Bundle.npeArmAtoms, Bundle.npeAtoms]))
  obtain ⟨hnX, htX⟩ := State.fieldFound?_type hffS (t := .int) (by decide +kernel)
  have xC := Cond.laysApart hdC hdX hdnC hdnX (by rw [hnX, Y.causeName]; decide)
  have xS := Cond.laysApart hdS hdX hdnS hdnX (by rw [hnX, Y.stackName]; decide)
  have xP := Cond.laysApart hdP hdX hdnP hdnX (by rw [hnX, Y.suppName]; decide)
  have hv0 : (freshCell P1.m.cls N.kN).slots[N.fState.slot]? = some (.int 0) := by
    have := fresh_default (c := P1.m.cls) tyX
    rw [htX] at this; exact this
  obtain ⟨tyB, dB, hdB, hdnB⟩ := Cond.laysAt hfound hk hffB (a' (.lays Bundle.nN Bundle.tN "backtrace" Bundle.objD) (by simp [Bundle.npeArmAtoms]))
  have bC := Cond.laysApart hdB hdC hdnB hdnC (by rw [hnB, Y.causeName]; decide)
  have bS := Cond.laysApart hdB hdS hdnB hdnS (by rw [hnB, Y.stackName]; decide)
  have bP := Cond.laysApart hdB hdP hdnB hdnP (by rw [hnB, Y.suppName]; decide)
  have bX := Cond.laysApart hdB hdX hdnB hdnX (by rw [hnB, hnX]; decide)
  have hbk : ((npeCell N.toNpeT (preparedCellV T.toThrowableT (freshCell P1.m.cls N.kN) W.heap.size u0 sen) W.cur).withEntry W.cur).slots[fB.slot]? = some .null := by
    have := fresh_default (c := P1.m.cls) tyB
    rw [htB] at this
    simpa [npeCell, preparedCellV, Cell.setSlot, Cell.withEntry, Array.getElem?_setIfInBounds, bC, bS, bP, bX, bC.symm, bS.symm, bP.symm, bX.symm, defaultValue] using this
  have tkC := Takes.of_laid (v := .ref W.heap.size) hk hordN tyC (by rw [Y.causeType]; rfl)
  have tkS := Takes.of_laid (v := u0.v) hk hordN tyS (by rw [Y.stackType]; exact fits_refV_array _ u0)
  have tkP := Takes.of_laid (v := sen.v) hk hordN tyP (by rw [Y.suppType]; exact fits_refV_object _ sen)
  have tkX := Takes.of_laid (v := .int 1) hk hordN tyX (by rw [htX]; rfl)
  have hskip : SkipFacts T e.platform s (fun u => u) u0 ((npeCell N.toNpeT (preparedCellV T.toThrowableT (freshCell P1.m.cls N.kN) W.heap.size u0 sen) W.cur).withEntry W.cur) := ⟨{ ci198 := ci198, i198 := i198, fBack := fB }, ⟨hk198, hg198, ha198, hsB⟩, hbk, fun _ _ => rfl⟩
  obtain ⟨vm', X3, st, -⟩ := X.throwsNpeColdBareVAt hexec hg hsize T L Z LZ N LN P1 L1 [PR, PE] hLs hlink1 ⟨hlinkR, hlinkE, trivial⟩ hfound hk hinit hordN hctor hsel0 hselF hcellS hknownS hvU hvSen
    hv0 xC xS xP tkC tkS tkP tkX Y.objLocals hskip (fun _ _ hA hW _ hroom _ hrest => L.nativeOff p htr hA hW hroom hrest) (by simpa using hRframes) hRlocals (by simp) hRcells (by rw [hn]; exact hRslots)
  have hlt : W.heap.size < ((W.pushCell (freshCell P1.m.cls N.kN)).setVm vm').heap.size := by
    show W.heap.size < (W.pushCell (freshCell P1.m.cls N.kN)).heap.size
    rw [State.heap_size_pushCell]; omega
  rw [hfsz] at X3
  obtain ⟨g₁, hfrM⟩ := X3.frames_eq
  have hU : ((((W.pushCell (freshCell P1.m.cls N.kN)).setVm vm').setCell W.heap.size (npeBareV T.toThrowableT N.toNpeT (freshCell P1.m.cls N.kN) W.heap.size u0 sen)).setTop g).pushFrame (.throwing W.heap.size) = (((W.pushCell (freshCell P1.m.cls N.kN)).setVm vm').setCell W.heap.size (npeBareV T.toThrowableT N.toNpeT (freshCell P1.m.cls N.kN) W.heap.size u0 sen)).setFrames (.throwing W.heap.size :: .java g :: below) := by
    rw [State.pushFrame, State.frames_setTop _ hfrM, State.setTop_of_frames _ hfrM, State.setFrames_setFrames]
  refine ⟨_, W.heap.size, _, fun target ht => st.trans (by rw [← hU]; exact ht), X3.forget (fun y hy => ?_), heapAt_setCell_self _ hlt, hfound, rfl⟩
  simp only [List.mem_cons, List.not_mem_nil, or_false] at hy
  have hge : s.heap.size ≤ W.heap.size := X.same.2.1
  rcases hy with rfl | rfl | rfl | rfl | rfl <;> exact hge
/-- the words of a machine's NullPointerException, but the four that speak of the heap -/
def vx_atN (n : Nat) : List Cond := (Bundle.npeArmAtoms n).filter vx_no
/-- the words of a machine's throw with a message, but the four that speak of the heap -/
def vx_atM (X : String) (names : List String) : List Cond := (Bundle.messageArmAtoms X names).filter vx_no
section
variable {p : Program} {l : Launch} {e : Env} {R : Room} {s : State} {m : MethodId} {args : Array Value} {below : List Frame} {meth : Method} {c : Code} {H : Heap} {locs : List Loc} {cells slots : Nat}
/-- a frame seen from a rebased start, seen from the first start again -/
theorem vx_back9 {T S : State} {R' : Room} {k n : Nat} (X : Stand p l e R s m args below meth c T locs cells slots) (Y : Stand p l e R' ((T.setVm s.vm).setFrames (.invoking m args :: below)) m args below meth c T [] 0 0) (Z : Stand p l e R' ((T.setVm s.vm).setFrames (.invoking m args :: below)) m args below meth c S [] k n) :
    Stand p l e R s m args below meth c S locs (cells + k) (slots + n) := by
  have hW0 : s.WarmedH ((T.setVm s.vm).setFrames (.invoking m args :: below)).vm := State.WarmedH.refl s
  refine { admits := X.admits, cas := X.cas, clock := X.clock, frames := X.frames, room := X.room, hears := X.hears, method := X.method, code := X.code, here := Z.here, tail := Z.tail, warmed := State.WarmedH.trans hW0 Z.warmed, limits := Z.limits.trans (Y.limits.symm.trans X.limits), bytes := Z.bytes.trans (Y.bytes.symm.trans X.bytes), same := ?_ }
  obtain ⟨e1, e2⟩ := Z.same
  rw [State.setFrames_setFrames] at e1
  have h2 : (T.setVm s.vm).sameButNew (S.setVm s.vm) [] k n := ⟨e1, e2⟩
  have h3 := X.same.trans h2
  rw [List.append_nil] at h3
  exact h3
/-- from the machine's note that E is thrown here with this text -/
def vx_Note (p : Program) (l : Launch) (e : Env) (R : Room) (s : State) (m : MethodId) (args : Array Value) (below : List Frame) (meth : Method) (c : Code) (H : Heap) (locs : List Loc) (cells slots : Nat) (Q : State → Prop) (g : JFrame) (E text : String) : Prop :=
  ∀ T : State, T.heap = H → Stand p l e R s m args below meth c T locs cells slots → ∃ t, Steps p.tables e below ((T.setTop g).pushFrame (.throwNew E (some text) none)) t ∧ Q t
theorem vx_vm {pc : Nat} {ls : Array Slot} {rest : List Value} {Q : State → Prop} (hexec : p.tables.exec = Jvm.exec) (hl : l.stackTraces = false) {cls text : String} {names : List String} {nb : Nat} {A : Nat → Prop}
    (hcls : Bundle.fit cls = true) (hnames : ∀ n ∈ names, Bundle.fit n = true) (hsoe : (cls == "java/lang/StackOverflowError") = false) (hoom : (cls == "java/lang/OutOfMemoryError") = false)
    (hat : ∀ w ∈ vx_atM cls names, w.before args s = true) (hgood : ∀ w ∈ vx_atM cls names, vx_ot w = true)
    (hU : vx_Zq Bundle.tN "UNASSIGNED_STACK" Bundle.steD A s s.heap) (hN : vx_Zq Bundle.tN "SUPPRESSED_SENTINEL" Bundle.listD A s s.heap) (hS : va_S A s.heap H locs) (hsize : ls.size = c.maxLocals)
    (htext : (text == notModelled) = false) (hnb : (stringBytes (stringToUtf16 text)).size ≤ nb) (hnb1 : nb ≤ 1000)
    (hRframes : names.length + 4 < R.frames) (hRlocals : (rest.map fun v => v.category).sum + 10240 ≤ R.locals) (hshort : 13 * names.length + 55 ≤ 10240) (hRcells : cells + 3 ≤ R.cells) (hRslots : slots + (nb + 10) ≤ R.slots) (hlocks : meth.locks = false)
    (k : ∀ (H1 : Heap) (q9 : Addr) (ce : Cell), H.size ≤ H1.size → (∀ q : Nat, q < H.size → H1[q]? = H[q]?) → va_S A s.heap H1 locs → H1[q9]? = some ce → ce.vm = .none → s.vm.findClass cls = some ce.cls → vx_W p l e R s m args below meth c H1 locs (cells + 3) (slots + (nb + 10)) Q (F0 m pc ls rest) q9) :
    vx_Note p l e R s m args below meth c H locs cells slots Q (F0 m pc ls rest) cls text := by
  intro T hT X
  have htr : e.platform.stackTraces = false := (show e.platform.stackTraces = l.stackTraces by rw [X.admits.platform]).trans hl
  have Y := vx_rebase X (R' := { frames := R.frames, locals := R.locals, cells := 3, slots := nb + 10 }) (Nat.le_refl _) (Nat.le_refl _) hRcells hRslots
  have hhp : ((T.setVm s.vm).setFrames (.invoking m args :: below)).heap = H := hT
  have hW0 : s.WarmedH ((T.setVm s.vm).setFrames (.invoking m args :: below)).vm := State.WarmedH.refl s
  have hat' : ∀ w ∈ vx_atM cls names, w.before args ((T.setVm s.vm).setFrames (.invoking m args :: below)) = true := fun w hw => vx_ot_at hW0 rfl (hgood w hw) (hat w hw)
  have hU' : vx_Zq Bundle.tN "UNASSIGNED_STACK" Bundle.steD A ((T.setVm s.vm).setFrames (.invoking m args :: below)) ((T.setVm s.vm).setFrames (.invoking m args :: below)).heap := by rw [hhp]; exact vx_Zq.moved hW0.alike (hU.kept hS.2.1)
  have hN' : vx_Zq Bundle.tN "SUPPRESSED_SENTINEL" Bundle.listD A ((T.setVm s.vm).setFrames (.invoking m args :: below)) ((T.setVm s.vm).setFrames (.invoking m args :: below)).heap := by rw [hhp]; exact vx_Zq.moved hW0.alike (hN.kept hS.2.1)
  obtain ⟨S, q, ce, st, Z, hce, hcl', hv⟩ := vx_vmAt Y hexec htr (cls := cls) (names := names) (text := text) hcls hnames hsoe hoom (vx_own hat' (vx_isRefq hU'.1) (vx_isRefq hN'.1) hU'.2.word hN'.2.word) (fun x hx => nomatch hx) htext
    (by rw [Launch.admits_arrayLengthLimit X.admits]; omega) (by rw [Launch.admits_maxHeapBytes X.admits]; simp only [componentBytes]; omega)
    (g := F0 m pc ls rest) rfl hsize hRframes (by show 2 * 0 + (rest.map fun v => v.category).sum + 10240 ≤ R.locals; omega) hshort (by show 0 + 3 ≤ 3; omega) (by show 0 + (_ + 4 + 6) ≤ nb + 10; omega) hlocks
  obtain ⟨f1, f2⟩ := vx_frame Z.same
  have f1' : H.size ≤ S.heap.size := by rw [← hT]; exact f1
  have f2' : ∀ q : Nat, q < H.size → S.heap[q]? = H[q]? := fun q hq => by
    rw [← hT]
    exact f2 q (by rw [← hT] at hq; exact hq) (fun z hz => nomatch hz)
  have X5 := vx_back9 X Y Z
  have X6 : Stand p l e R s m args below meth c S locs (cells + 3) (slots + (nb + 10)) := { X5 with same := X5.same.mono (by omega) (by omega) }
  obtain ⟨t, a1, b1⟩ := k S.heap q ce f1' f2' ⟨Nat.le_trans hS.1 f1', fun q h1 h2 => (f2' q (Nat.lt_of_lt_of_le h1 hS.1)).trans (hS.2.1 q h1 h2), hS.2.2⟩ hce hv hcl' S rfl X6
  exact ⟨t, st t a1, b1⟩
/-- from the machine's note that NullPointerException is thrown here -/
def vx_NoteN (p : Program) (l : Launch) (e : Env) (R : Room) (s : State) (m : MethodId) (args : Array Value) (below : List Frame) (meth : Method) (c : Code) (H : Heap) (locs : List Loc) (cells slots : Nat) (Q : State → Prop) (g : JFrame) : Prop :=
  ∀ T : State, T.heap = H → Stand p l e R s m args below meth c T locs cells slots → ∃ t, Steps p.tables e below ((T.setTop g).pushFrame (.throwNew "java/lang/NullPointerException" none none)) t ∧ Q t
theorem vx_npe {pc : Nat} {ls : Array Slot} {rest : List Value} {Q : State → Prop} (hexec : p.tables.exec = Jvm.exec) (hl : l.stackTraces = false) {nb : Nat} {A : Nat → Prop}
    (hat : ∀ w ∈ vx_atN nb, w.before args s = true) (hgood : ∀ w ∈ vx_atN nb, vx_ot w = true)
    (hU : vx_Zq Bundle.tN "UNASSIGNED_STACK" Bundle.steD A s s.heap) (hN : vx_Zq Bundle.tN "SUPPRESSED_SENTINEL" Bundle.listD A s s.heap) (hS : va_S A s.heap H locs) (hsize : ls.size = c.maxLocals)
    (hRframes : 7 < R.frames) (hRlocals : (rest.map fun v => v.category).sum + 10240 ≤ R.locals) (hRcells : cells + 1 ≤ R.cells) (hRslots : slots + nb ≤ R.slots) (hlocks : meth.locks = false)
    (k : ∀ (H1 : Heap) (q9 : Addr) (ce : Cell), H.size ≤ H1.size → (∀ q : Nat, q < H.size → H1[q]? = H[q]?) → va_S A s.heap H1 locs → H1[q9]? = some ce → ce.vm = .none → s.vm.findClass "java/lang/NullPointerException" = some ce.cls → vx_W p l e R s m args below meth c H1 locs (cells + 1) (slots + nb) Q (F0 m pc ls rest) q9) :
    vx_NoteN p l e R s m args below meth c H locs cells slots Q (F0 m pc ls rest) := by
  intro T hT X
  have htr : e.platform.stackTraces = false := (show e.platform.stackTraces = l.stackTraces by rw [X.admits.platform]).trans hl
  have Y := vx_rebase X (R' := { frames := R.frames, locals := R.locals, cells := 1, slots := nb }) (Nat.le_refl _) (Nat.le_refl _) hRcells hRslots
  have hhp : ((T.setVm s.vm).setFrames (.invoking m args :: below)).heap = H := hT
  have hW0 : s.WarmedH ((T.setVm s.vm).setFrames (.invoking m args :: below)).vm := State.WarmedH.refl s
  have hat' : ∀ w ∈ vx_atN nb, w.before args ((T.setVm s.vm).setFrames (.invoking m args :: below)) = true := fun w hw => vx_ot_at hW0 rfl (hgood w hw) (hat w hw)
  have hU' : vx_Zq Bundle.tN "UNASSIGNED_STACK" Bundle.steD A ((T.setVm s.vm).setFrames (.invoking m args :: below)) ((T.setVm s.vm).setFrames (.invoking m args :: below)).heap := by rw [hhp]; exact vx_Zq.moved hW0.alike (hU.kept hS.2.1)
  have hN' : vx_Zq Bundle.tN "SUPPRESSED_SENTINEL" Bundle.listD A ((T.setVm s.vm).setFrames (.invoking m args :: below)) ((T.setVm s.vm).setFrames (.invoking m args :: below)).heap := by rw [hhp]; exact vx_Zq.moved hW0.alike (hN.kept hS.2.1)
  obtain ⟨S, q, ce, st, Z, hce, hcl', hv⟩ := vx_npeAt Y hexec htr (n := nb) (vx_own hat' (vx_isRefq hU'.1) (vx_isRefq hN'.1) hU'.2.word hN'.2.word) (fun x hx => nomatch hx)
    (g := F0 m pc ls rest) rfl hsize hRframes (by show 2 * 0 + (rest.map fun v => v.category).sum + 10240 ≤ R.locals; omega) (by show 0 + 1 ≤ 1; omega) (by show 0 + nb ≤ nb; omega) hlocks
  obtain ⟨f1, f2⟩ := vx_frame Z.same
  have f1' : H.size ≤ S.heap.size := by rw [← hT]; exact f1
  have f2' : ∀ q : Nat, q < H.size → S.heap[q]? = H[q]? := fun q hq => by
    rw [← hT]
    exact f2 q (by rw [← hT] at hq; exact hq) (fun z hz => nomatch hz)
  have X5 := vx_back9 X Y Z
  have X6 : Stand p l e R s m args below meth c S locs (cells + 1) (slots + nb) := { X5 with same := X5.same.mono (by omega) (by omega) }
  obtain ⟨t, a1, b1⟩ := k S.heap q ce f1' f2' ⟨Nat.le_trans hS.1 f1', fun q h1 h2 => (f2' q (Nat.lt_of_lt_of_le h1 hS.1)).trans (hS.2.1 q h1 h2), hS.2.2⟩ hce hv hcl' S rfl X6
  exact ⟨t, st t a1, b1⟩
variable {Q : State → Prop} {cc : ByteArray} {pc : Nat} {ls : Array Slot} {rest : List Value}
theorem vx_idivZ (hexec : p.tables.exec = Jvm.exec) (hb : c.code = cc) {a b : Int32} (h0 : b = 0) (d : decode cc pc = .ok (.idiv, 1)) (k : vx_Note p l e R s m args below meth c H locs cells slots Q (F0 m pc ls rest) "java/lang/ArithmeticException" "/ by zero") :
    W p l e R s m args below meth c H locs cells slots Q (F0 m pc ls (.int b :: .int a :: rest)) := by
  intro T hT X
  obtain ⟨t, st, q⟩ := k T hT X
  exact ⟨t, X.idivZero hexec (g := F0 m pc ls (.int b :: .int a :: rest)) rfl (a := a) (rest := rest) (by rw [h0]) (by rw [hb]; exact d) t st, q⟩
theorem vx_iremZ (hexec : p.tables.exec = Jvm.exec) (hb : c.code = cc) {a b : Int32} (h0 : b = 0) (d : decode cc pc = .ok (.irem, 1)) (k : vx_Note p l e R s m args below meth c H locs cells slots Q (F0 m pc ls rest) "java/lang/ArithmeticException" "/ by zero") :
    W p l e R s m args below meth c H locs cells slots Q (F0 m pc ls (.int b :: .int a :: rest)) := by
  intro T hT X
  obtain ⟨t, st, q⟩ := k T hT X
  exact ⟨t, X.iremZero hexec (g := F0 m pc ls (.int b :: .int a :: rest)) rfl (a := a) (rest := rest) (by rw [h0]) (by rw [hb]; exact d) t st, q⟩
theorem vx_ldivZ (hexec : p.tables.exec = Jvm.exec) (hb : c.code = cc) {a b : Int64} (h0 : b = 0) (d : decode cc pc = .ok (.ldiv, 1)) (k : vx_Note p l e R s m args below meth c H locs cells slots Q (F0 m pc ls rest) "java/lang/ArithmeticException" "/ by zero") :
    W p l e R s m args below meth c H locs cells slots Q (F0 m pc ls (.long b :: .long a :: rest)) := by
  intro T hT X
  obtain ⟨t, st, q⟩ := k T hT X
  exact ⟨t, X.ldivZero hexec (g := F0 m pc ls (.long b :: .long a :: rest)) rfl (a := a) (rest := rest) (by rw [h0]) (by rw [hb]; exact d) t st, q⟩
theorem vx_lremZ (hexec : p.tables.exec = Jvm.exec) (hb : c.code = cc) {a b : Int64} (h0 : b = 0) (d : decode cc pc = .ok (.lrem, 1)) (k : vx_Note p l e R s m args below meth c H locs cells slots Q (F0 m pc ls rest) "java/lang/ArithmeticException" "/ by zero") :
    W p l e R s m args below meth c H locs cells slots Q (F0 m pc ls (.long b :: .long a :: rest)) := by
  intro T hT X
  obtain ⟨t, st, q⟩ := k T hT X
  exact ⟨t, X.lremZero hexec (g := F0 m pc ls (.long b :: .long a :: rest)) rfl (a := a) (rest := rest) (by rw [h0]) (by rw [hb]; exact d) t st, q⟩
theorem vx_ialdZ {D : va_G} {cl : List vw_C} {ws : va_W} {tys : List (ClassId × FieldType)} {a : Nat} (hexec : p.tables.exec = Jvm.exec) (hb : c.code = cc) (hK : va_K D cl tys s) (hP : va_P D cl ws H) (q0 t0 : Nat) {cA : ClassId} {n : Nat} {f : Nat → Int32} (ha : ws[q0]? = some (a, .inl (cA, n, .inl f))) (ht : tys[t0]? = some (cA, .int)) {i : Int32} (hout : ¬ vp_in i n) (hdg : decode cc pc = .ok (.iaload, 1))
    (k : ∀ tx : String, tx = (toString "Index " ++ toString i ++ toString " out of bounds for length " ++ toString n : String) → vx_Note p l e R s m args below meth c H locs cells slots Q (F0 m pc ls rest) "java/lang/ArrayIndexOutOfBoundsException" tx) : W p l e R s m args below meth c H locs cells slots Q (F0 m pc ls (.int i :: .ref a :: rest)) := by
  intro T hT X
  obtain ⟨t, st, q⟩ := k _ rfl T hT X
  refine ⟨t, ?_, q⟩
  have h1 := X.ialoadOut hexec (by rw [hT]; exact hP q0 _ ha) ((hK.2 t0 _ ht).1 n (fun j => .int (f j))) (j := i) (by show (i < 0 ∨ (arrV _ _ _).slots.size ≤ _); rw [arrV_size]; exact Classical.byContradiction hout) (g := F0 m pc ls (.int i :: .ref a :: rest)) rfl (rest := rest) rfl (by rw [hb]; exact hdg) t
  simp only [arrV_size] at h1
  exact h1 st
theorem vx_iastZ {D : va_G} {cl : List vw_C} {ws : va_W} {tys : List (ClassId × FieldType)} {a : Nat} (hexec : p.tables.exec = Jvm.exec) (hb : c.code = cc) (hK : va_K D cl tys s) (hP : va_P D cl ws H) (q0 t0 : Nat) {cA : ClassId} {n : Nat} {f : Nat → Int32} (ha : ws[q0]? = some (a, .inl (cA, n, .inl f))) (ht : tys[t0]? = some (cA, .int)) {i : Int32} {x : Int32} (hout : ¬ vp_in i n) (hdg : decode cc pc = .ok (.iastore, 1))
    (k : ∀ tx : String, tx = (toString "Index " ++ toString i ++ toString " out of bounds for length " ++ toString n : String) → vx_Note p l e R s m args below meth c H locs cells slots Q (F0 m pc ls rest) "java/lang/ArrayIndexOutOfBoundsException" tx) : W p l e R s m args below meth c H locs cells slots Q (F0 m pc ls (.int x :: .int i :: .ref a :: rest)) := by
  intro T hT X
  obtain ⟨t, st, q⟩ := k _ rfl T hT X
  refine ⟨t, ?_, q⟩
  have h1 := X.iastoreOut hexec (by rw [hT]; exact hP q0 _ ha) ((hK.2 t0 _ ht).1 n (fun j => .int (f j))) (j := i) (by show (i < 0 ∨ (arrV _ _ _).slots.size ≤ _); rw [arrV_size]; exact Classical.byContradiction hout) (g := F0 m pc ls (.int x :: .int i :: .ref a :: rest)) rfl (rest := rest) rfl (by rw [hb]; exact hdg) t
  simp only [arrV_size] at h1
  exact h1 st
theorem vx_baldZ {D : va_G} {cl : List vw_C} {ws : va_W} {tys : List (ClassId × FieldType)} {a : Nat} (hexec : p.tables.exec = Jvm.exec) (hb : c.code = cc) (hK : va_K D cl tys s) (hP : va_P D cl ws H) (q0 t0 : Nat) {cA : ClassId} {n : Nat} {f : Nat → Int32} (ha : ws[q0]? = some (a, .inl (cA, n, .inl f))) (ht : tys[t0]? = some (cA, .byte)) {i : Int32} (hout : ¬ vp_in i n) (hdg : decode cc pc = .ok (.baload, 1))
    (k : ∀ tx : String, tx = (toString "Index " ++ toString i ++ toString " out of bounds for length " ++ toString n : String) → vx_Note p l e R s m args below meth c H locs cells slots Q (F0 m pc ls rest) "java/lang/ArrayIndexOutOfBoundsException" tx) : W p l e R s m args below meth c H locs cells slots Q (F0 m pc ls (.int i :: .ref a :: rest)) := by
  intro T hT X
  obtain ⟨t, st, q⟩ := k _ rfl T hT X
  refine ⟨t, ?_, q⟩
  have h1 := X.baloadOut hexec (by rw [hT]; exact hP q0 _ ha) ((hK.2 t0 _ ht).1 n (fun j => .int (f j))) (j := i) (by show (i < 0 ∨ (arrV _ _ _).slots.size ≤ _); rw [arrV_size]; exact Classical.byContradiction hout) (g := F0 m pc ls (.int i :: .ref a :: rest)) rfl (rest := rest) rfl (by rw [hb]; exact hdg) t
  simp only [arrV_size] at h1
  exact h1 st
theorem vx_bastZ {D : va_G} {cl : List vw_C} {ws : va_W} {tys : List (ClassId × FieldType)} {a : Nat} (hexec : p.tables.exec = Jvm.exec) (hb : c.code = cc) (hK : va_K D cl tys s) (hP : va_P D cl ws H) (q0 t0 : Nat) {cA : ClassId} {n : Nat} {f : Nat → Int32} (ha : ws[q0]? = some (a, .inl (cA, n, .inl f))) (ht : tys[t0]? = some (cA, .byte)) {i : Int32} {x : Int32} (hout : ¬ vp_in i n) (hdg : decode cc pc = .ok (.bastore, 1))
    (k : ∀ tx : String, tx = (toString "Index " ++ toString i ++ toString " out of bounds for length " ++ toString n : String) → vx_Note p l e R s m args below meth c H locs cells slots Q (F0 m pc ls rest) "java/lang/ArrayIndexOutOfBoundsException" tx) : W p l e R s m args below meth c H locs cells slots Q (F0 m pc ls (.int x :: .int i :: .ref a :: rest)) := by
  intro T hT X
  obtain ⟨t, st, q⟩ := k _ rfl T hT X
  refine ⟨t, ?_, q⟩
  have h1 := X.bastoreOut hexec (by rw [hT]; exact hP q0 _ ha) ((hK.2 t0 _ ht).1 n (fun j => .int (f j))) (j := i) (by show (i < 0 ∨ (arrV _ _ _).slots.size ≤ _); rw [arrV_size]; exact Classical.byContradiction hout) (g := F0 m pc ls (.int x :: .int i :: .ref a :: rest)) rfl (rest := rest) rfl (by rw [hb]; exact hdg) t
  simp only [arrV_size] at h1
  exact h1 st
theorem vx_zaldZ {D : va_G} {cl : List vw_C} {ws : va_W} {tys : List (ClassId × FieldType)} {a : Nat} (hexec : p.tables.exec = Jvm.exec) (hb : c.code = cc) (hK : va_K D cl tys s) (hP : va_P D cl ws H) (q0 t0 : Nat) {cA : ClassId} {n : Nat} {f : Nat → Int32} (ha : ws[q0]? = some (a, .inl (cA, n, .inl f))) (ht : tys[t0]? = some (cA, .boolean)) {i : Int32} (hout : ¬ vp_in i n) (hdg : decode cc pc = .ok (.baload, 1))
    (k : ∀ tx : String, tx = (toString "Index " ++ toString i ++ toString " out of bounds for length " ++ toString n : String) → vx_Note p l e R s m args below meth c H locs cells slots Q (F0 m pc ls rest) "java/lang/ArrayIndexOutOfBoundsException" tx) : W p l e R s m args below meth c H locs cells slots Q (F0 m pc ls (.int i :: .ref a :: rest)) := by
  intro T hT X
  obtain ⟨t, st, q⟩ := k _ rfl T hT X
  refine ⟨t, ?_, q⟩
  have h1 := X.baloadOut hexec (by rw [hT]; exact hP q0 _ ha) ((hK.2 t0 _ ht).1 n (fun j => .int (f j))) (j := i) (by show (i < 0 ∨ (arrV _ _ _).slots.size ≤ _); rw [arrV_size]; exact Classical.byContradiction hout) (g := F0 m pc ls (.int i :: .ref a :: rest)) rfl (rest := rest) rfl (by rw [hb]; exact hdg) t
  simp only [arrV_size] at h1
  exact h1 st
theorem vx_zastZ {D : va_G} {cl : List vw_C} {ws : va_W} {tys : List (ClassId × FieldType)} {a : Nat} (hexec : p.tables.exec = Jvm.exec) (hb : c.code = cc) (hK : va_K D cl tys s) (hP : va_P D cl ws H) (q0 t0 : Nat) {cA : ClassId} {n : Nat} {f : Nat → Int32} (ha : ws[q0]? = some (a, .inl (cA, n, .inl f))) (ht : tys[t0]? = some (cA, .boolean)) {i : Int32} {x : Int32} (hout : ¬ vp_in i n) (hdg : decode cc pc = .ok (.bastore, 1))
    (k : ∀ tx : String, tx = (toString "Index " ++ toString i ++ toString " out of bounds for length " ++ toString n : String) → vx_Note p l e R s m args below meth c H locs cells slots Q (F0 m pc ls rest) "java/lang/ArrayIndexOutOfBoundsException" tx) : W p l e R s m args below meth c H locs cells slots Q (F0 m pc ls (.int x :: .int i :: .ref a :: rest)) := by
  intro T hT X
  obtain ⟨t, st, q⟩ := k _ rfl T hT X
  refine ⟨t, ?_, q⟩
  have h1 := X.bastoreOut hexec (by rw [hT]; exact hP q0 _ ha) ((hK.2 t0 _ ht).1 n (fun j => .int (f j))) (j := i) (by show (i < 0 ∨ (arrV _ _ _).slots.size ≤ _); rw [arrV_size]; exact Classical.byContradiction hout) (g := F0 m pc ls (.int x :: .int i :: .ref a :: rest)) rfl (rest := rest) rfl (by rw [hb]; exact hdg) t
  simp only [arrV_size] at h1
  exact h1 st
theorem vx_caldZ {D : va_G} {cl : List vw_C} {ws : va_W} {tys : List (ClassId × FieldType)} {a : Nat} (hexec : p.tables.exec = Jvm.exec) (hb : c.code = cc) (hK : va_K D cl tys s) (hP : va_P D cl ws H) (q0 t0 : Nat) {cA : ClassId} {n : Nat} {f : Nat → Int32} (ha : ws[q0]? = some (a, .inl (cA, n, .inl f))) (ht : tys[t0]? = some (cA, .char)) {i : Int32} (hout : ¬ vp_in i n) (hdg : decode cc pc = .ok (.caload, 1))
    (k : ∀ tx : String, tx = (toString "Index " ++ toString i ++ toString " out of bounds for length " ++ toString n : String) → vx_Note p l e R s m args below meth c H locs cells slots Q (F0 m pc ls rest) "java/lang/ArrayIndexOutOfBoundsException" tx) : W p l e R s m args below meth c H locs cells slots Q (F0 m pc ls (.int i :: .ref a :: rest)) := by
  intro T hT X
  obtain ⟨t, st, q⟩ := k _ rfl T hT X
  refine ⟨t, ?_, q⟩
  have h1 := X.caloadOut hexec (by rw [hT]; exact hP q0 _ ha) ((hK.2 t0 _ ht).1 n (fun j => .int (f j))) (j := i) (by show (i < 0 ∨ (arrV _ _ _).slots.size ≤ _); rw [arrV_size]; exact Classical.byContradiction hout) (g := F0 m pc ls (.int i :: .ref a :: rest)) rfl (rest := rest) rfl (by rw [hb]; exact hdg) t
  simp only [arrV_size] at h1
  exact h1 st
theorem vx_castZ {D : va_G} {cl : List vw_C} {ws : va_W} {tys : List (ClassId × FieldType)} {a : Nat} (hexec : p.tables.exec = Jvm.exec) (hb : c.code = cc) (hK : va_K D cl tys s) (hP : va_P D cl ws H) (q0 t0 : Nat) {cA : ClassId} {n : Nat} {f : Nat → Int32} (ha : ws[q0]? = some (a, .inl (cA, n, .inl f))) (ht : tys[t0]? = some (cA, .char)) {i : Int32} {x : Int32} (hout : ¬ vp_in i n) (hdg : decode cc pc = .ok (.castore, 1))
    (k : ∀ tx : String, tx = (toString "Index " ++ toString i ++ toString " out of bounds for length " ++ toString n : String) → vx_Note p l e R s m args below meth c H locs cells slots Q (F0 m pc ls rest) "java/lang/ArrayIndexOutOfBoundsException" tx) : W p l e R s m args below meth c H locs cells slots Q (F0 m pc ls (.int x :: .int i :: .ref a :: rest)) := by
  intro T hT X
  obtain ⟨t, st, q⟩ := k _ rfl T hT X
  refine ⟨t, ?_, q⟩
  have h1 := X.castoreOut hexec (by rw [hT]; exact hP q0 _ ha) ((hK.2 t0 _ ht).1 n (fun j => .int (f j))) (j := i) (by show (i < 0 ∨ (arrV _ _ _).slots.size ≤ _); rw [arrV_size]; exact Classical.byContradiction hout) (g := F0 m pc ls (.int x :: .int i :: .ref a :: rest)) rfl (rest := rest) rfl (by rw [hb]; exact hdg) t
  simp only [arrV_size] at h1
  exact h1 st
theorem vx_saldZ {D : va_G} {cl : List vw_C} {ws : va_W} {tys : List (ClassId × FieldType)} {a : Nat} (hexec : p.tables.exec = Jvm.exec) (hb : c.code = cc) (hK : va_K D cl tys s) (hP : va_P D cl ws H) (q0 t0 : Nat) {cA : ClassId} {n : Nat} {f : Nat → Int32} (ha : ws[q0]? = some (a, .inl (cA, n, .inl f))) (ht : tys[t0]? = some (cA, .short)) {i : Int32} (hout : ¬ vp_in i n) (hdg : decode cc pc = .ok (.saload, 1))
    (k : ∀ tx : String, tx = (toString "Index " ++ toString i ++ toString " out of bounds for length " ++ toString n : String) → vx_Note p l e R s m args below meth c H locs cells slots Q (F0 m pc ls rest) "java/lang/ArrayIndexOutOfBoundsException" tx) : W p l e R s m args below meth c H locs cells slots Q (F0 m pc ls (.int i :: .ref a :: rest)) := by
  intro T hT X
  obtain ⟨t, st, q⟩ := k _ rfl T hT X
  refine ⟨t, ?_, q⟩
  have h1 := X.saloadOut hexec (by rw [hT]; exact hP q0 _ ha) ((hK.2 t0 _ ht).1 n (fun j => .int (f j))) (j := i) (by show (i < 0 ∨ (arrV _ _ _).slots.size ≤ _); rw [arrV_size]; exact Classical.byContradiction hout) (g := F0 m pc ls (.int i :: .ref a :: rest)) rfl (rest := rest) rfl (by rw [hb]; exact hdg) t
  simp only [arrV_size] at h1
  exact h1 st
theorem vx_sastZ {D : va_G} {cl : List vw_C} {ws : va_W} {tys : List (ClassId × FieldType)} {a : Nat} (hexec : p.tables.exec = Jvm.exec) (hb : c.code = cc) (hK : va_K D cl tys s) (hP : va_P D cl ws H) (q0 t0 : Nat) {cA : ClassId} {n : Nat} {f : Nat → Int32} (ha : ws[q0]? = some (a, .inl (cA, n, .inl f))) (ht : tys[t0]? = some (cA, .short)) {i : Int32} {x : Int32} (hout : ¬ vp_in i n) (hdg : decode cc pc = .ok (.sastore, 1))
    (k : ∀ tx : String, tx = (toString "Index " ++ toString i ++ toString " out of bounds for length " ++ toString n : String) → vx_Note p l e R s m args below meth c H locs cells slots Q (F0 m pc ls rest) "java/lang/ArrayIndexOutOfBoundsException" tx) : W p l e R s m args below meth c H locs cells slots Q (F0 m pc ls (.int x :: .int i :: .ref a :: rest)) := by
  intro T hT X
  obtain ⟨t, st, q⟩ := k _ rfl T hT X
  refine ⟨t, ?_, q⟩
  have h1 := X.sastoreOut hexec (by rw [hT]; exact hP q0 _ ha) ((hK.2 t0 _ ht).1 n (fun j => .int (f j))) (j := i) (by show (i < 0 ∨ (arrV _ _ _).slots.size ≤ _); rw [arrV_size]; exact Classical.byContradiction hout) (g := F0 m pc ls (.int x :: .int i :: .ref a :: rest)) rfl (rest := rest) rfl (by rw [hb]; exact hdg) t
  simp only [arrV_size] at h1
  exact h1 st
theorem vx_laldZ {D : va_G} {cl : List vw_C} {ws : va_W} {tys : List (ClassId × FieldType)} {a : Nat} (hexec : p.tables.exec = Jvm.exec) (hb : c.code = cc) (hK : va_K D cl tys s) (hP : va_P D cl ws H) (q0 t0 : Nat) {cA : ClassId} {n : Nat} {f : Nat → Int64} (ha : ws[q0]? = some (a, .inl (cA, n, .inr (.inl f)))) (ht : tys[t0]? = some (cA, .long)) {i : Int32} (hout : ¬ vp_in i n) (hdg : decode cc pc = .ok (.laload, 1))
    (k : ∀ tx : String, tx = (toString "Index " ++ toString i ++ toString " out of bounds for length " ++ toString n : String) → vx_Note p l e R s m args below meth c H locs cells slots Q (F0 m pc ls rest) "java/lang/ArrayIndexOutOfBoundsException" tx) : W p l e R s m args below meth c H locs cells slots Q (F0 m pc ls (.int i :: .ref a :: rest)) := by
  intro T hT X
  obtain ⟨t, st, q⟩ := k _ rfl T hT X
  refine ⟨t, ?_, q⟩
  have h1 := X.laloadOut hexec (by rw [hT]; exact hP q0 _ ha) ((hK.2 t0 _ ht).1 n (fun j => .long (f j))) (j := i) (by show (i < 0 ∨ (arrV _ _ _).slots.size ≤ _); rw [arrV_size]; exact Classical.byContradiction hout) (g := F0 m pc ls (.int i :: .ref a :: rest)) rfl (rest := rest) rfl (by rw [hb]; exact hdg) t
  simp only [arrV_size] at h1
  exact h1 st
theorem vx_lastZ {D : va_G} {cl : List vw_C} {ws : va_W} {tys : List (ClassId × FieldType)} {a : Nat} (hexec : p.tables.exec = Jvm.exec) (hb : c.code = cc) (hK : va_K D cl tys s) (hP : va_P D cl ws H) (q0 t0 : Nat) {cA : ClassId} {n : Nat} {f : Nat → Int64} (ha : ws[q0]? = some (a, .inl (cA, n, .inr (.inl f)))) (ht : tys[t0]? = some (cA, .long)) {i : Int32} {x : Int64} (hout : ¬ vp_in i n) (hdg : decode cc pc = .ok (.lastore, 1))
    (k : ∀ tx : String, tx = (toString "Index " ++ toString i ++ toString " out of bounds for length " ++ toString n : String) → vx_Note p l e R s m args below meth c H locs cells slots Q (F0 m pc ls rest) "java/lang/ArrayIndexOutOfBoundsException" tx) : W p l e R s m args below meth c H locs cells slots Q (F0 m pc ls (.long x :: .int i :: .ref a :: rest)) := by
  intro T hT X
  obtain ⟨t, st, q⟩ := k _ rfl T hT X
  refine ⟨t, ?_, q⟩
  have h1 := X.lastoreOut hexec (by rw [hT]; exact hP q0 _ ha) ((hK.2 t0 _ ht).1 n (fun j => .long (f j))) (j := i) (by show (i < 0 ∨ (arrV _ _ _).slots.size ≤ _); rw [arrV_size]; exact Classical.byContradiction hout) (g := F0 m pc ls (.long x :: .int i :: .ref a :: rest)) rfl (rest := rest) rfl (by rw [hb]; exact hdg) t
  simp only [arrV_size] at h1
  exact h1 st
theorem vx_faldZ {D : va_G} {cl : List vw_C} {ws : va_W} {tys : List (ClassId × FieldType)} {a : Nat} (hexec : p.tables.exec = Jvm.exec) (hb : c.code = cc) (hK : va_K D cl tys s) (hP : va_P D cl ws H) (q0 t0 : Nat) {cA : ClassId} {n : Nat} {f : Nat → UInt32} (ha : ws[q0]? = some (a, .inl (cA, n, .inr (.inr (.inl f))))) (ht : tys[t0]? = some (cA, .float)) {i : Int32} (hout : ¬ vp_in i n) (hdg : decode cc pc = .ok (.faload, 1))
    (k : ∀ tx : String, tx = (toString "Index " ++ toString i ++ toString " out of bounds for length " ++ toString n : String) → vx_Note p l e R s m args below meth c H locs cells slots Q (F0 m pc ls rest) "java/lang/ArrayIndexOutOfBoundsException" tx) : W p l e R s m args below meth c H locs cells slots Q (F0 m pc ls (.int i :: .ref a :: rest)) := by
  intro T hT X
  obtain ⟨t, st, q⟩ := k _ rfl T hT X
  refine ⟨t, ?_, q⟩
  have h1 := X.faloadOut hexec (by rw [hT]; exact hP q0 _ ha) ((hK.2 t0 _ ht).1 n (fun j => .float (f j))) (j := i) (by show (i < 0 ∨ (arrV _ _ _).slots.size ≤ _); rw [arrV_size]; exact Classical.byContradiction hout) (g := F0 m pc ls (.int i :: .ref a :: rest)) rfl (rest := rest) rfl (by rw [hb]; exact hdg) t
  simp only [arrV_size] at h1
  exact h1 st
theorem vx_fastZ {D : va_G} {cl : List vw_C} {ws : va_W} {tys : List (ClassId × FieldType)} {a : Nat} (hexec : p.tables.exec = Jvm.exec) (hb : c.code = cc) (hK : va_K D cl tys s) (hP : va_P D cl ws H) (q0 t0 : Nat) {cA : ClassId} {n : Nat} {f : Nat → UInt32} (ha : ws[q0]? = some (a, .inl (cA, n, .inr (.inr (.inl f))))) (ht : tys[t0]? = some (cA, .float)) {i : Int32} {x : UInt32} (hout : ¬ vp_in i n) (hdg : decode cc pc = .ok (.fastore, 1))
    (k : ∀ tx : String, tx = (toString "Index " ++ toString i ++ toString " out of bounds for length " ++ toString n : String) → vx_Note p l e R s m args below meth c H locs cells slots Q (F0 m pc ls rest) "java/lang/ArrayIndexOutOfBoundsException" tx) : W p l e R s m args below meth c H locs cells slots Q (F0 m pc ls (.float x :: .int i :: .ref a :: rest)) := by
  intro T hT X
  obtain ⟨t, st, q⟩ := k _ rfl T hT X
  refine ⟨t, ?_, q⟩
  have h1 := X.fastoreOut hexec (by rw [hT]; exact hP q0 _ ha) ((hK.2 t0 _ ht).1 n (fun j => .float (f j))) (j := i) (by show (i < 0 ∨ (arrV _ _ _).slots.size ≤ _); rw [arrV_size]; exact Classical.byContradiction hout) (g := F0 m pc ls (.float x :: .int i :: .ref a :: rest)) rfl (rest := rest) rfl (by rw [hb]; exact hdg) t
  simp only [arrV_size] at h1
  exact h1 st
theorem vx_daldZ {D : va_G} {cl : List vw_C} {ws : va_W} {tys : List (ClassId × FieldType)} {a : Nat} (hexec : p.tables.exec = Jvm.exec) (hb : c.code = cc) (hK : va_K D cl tys s) (hP : va_P D cl ws H) (q0 t0 : Nat) {cA : ClassId} {n : Nat} {f : Nat → UInt64} (ha : ws[q0]? = some (a, .inl (cA, n, .inr (.inr (.inr (.inl f)))))) (ht : tys[t0]? = some (cA, .double)) {i : Int32} (hout : ¬ vp_in i n) (hdg : decode cc pc = .ok (.daload, 1))
    (k : ∀ tx : String, tx = (toString "Index " ++ toString i ++ toString " out of bounds for length " ++ toString n : String) → vx_Note p l e R s m args below meth c H locs cells slots Q (F0 m pc ls rest) "java/lang/ArrayIndexOutOfBoundsException" tx) : W p l e R s m args below meth c H locs cells slots Q (F0 m pc ls (.int i :: .ref a :: rest)) := by
  intro T hT X
  obtain ⟨t, st, q⟩ := k _ rfl T hT X
  refine ⟨t, ?_, q⟩
  have h1 := X.daloadOut hexec (by rw [hT]; exact hP q0 _ ha) ((hK.2 t0 _ ht).1 n (fun j => .double (f j))) (j := i) (by show (i < 0 ∨ (arrV _ _ _).slots.size ≤ _); rw [arrV_size]; exact Classical.byContradiction hout) (g := F0 m pc ls (.int i :: .ref a :: rest)) rfl (rest := rest) rfl (by rw [hb]; exact hdg) t
  simp only [arrV_size] at h1
  exact h1 st
theorem vx_dastZ {D : va_G} {cl : List vw_C} {ws : va_W} {tys : List (ClassId × FieldType)} {a : Nat} (hexec : p.tables.exec = Jvm.exec) (hb : c.code = cc) (hK : va_K D cl tys s) (hP : va_P D cl ws H) (q0 t0 : Nat) {cA : ClassId} {n : Nat} {f : Nat → UInt64} (ha : ws[q0]? = some (a, .inl (cA, n, .inr (.inr (.inr (.inl f)))))) (ht : tys[t0]? = some (cA, .double)) {i : Int32} {x : UInt64} (hout : ¬ vp_in i n) (hdg : decode cc pc = .ok (.dastore, 1))
    (k : ∀ tx : String, tx = (toString "Index " ++ toString i ++ toString " out of bounds for length " ++ toString n : String) → vx_Note p l e R s m args below meth c H locs cells slots Q (F0 m pc ls rest) "java/lang/ArrayIndexOutOfBoundsException" tx) : W p l e R s m args below meth c H locs cells slots Q (F0 m pc ls (.double x :: .int i :: .ref a :: rest)) := by
  intro T hT X
  obtain ⟨t, st, q⟩ := k _ rfl T hT X
  refine ⟨t, ?_, q⟩
  have h1 := X.dastoreOut hexec (by rw [hT]; exact hP q0 _ ha) ((hK.2 t0 _ ht).1 n (fun j => .double (f j))) (j := i) (by show (i < 0 ∨ (arrV _ _ _).slots.size ≤ _); rw [arrV_size]; exact Classical.byContradiction hout) (g := F0 m pc ls (.double x :: .int i :: .ref a :: rest)) rfl (rest := rest) rfl (by rw [hb]; exact hdg) t
  simp only [arrV_size] at h1
  exact h1 st
theorem vx_arraylengthN (hexec : p.tables.exec = Jvm.exec) (hb : c.code = cc) (hdg : decode cc pc = .ok (.arraylength, 1)) (k : vx_NoteN p l e R s m args below meth c H locs cells slots Q (F0 m pc ls rest)) : W p l e R s m args below meth c H locs cells slots Q (F0 m pc ls (.null :: rest)) := by
  intro T hT X
  obtain ⟨t, st, q⟩ := k T hT X
  exact ⟨t, X.arraylengthNull hexec (g := F0 m pc ls (.null :: rest)) rfl (rest := rest) rfl (by rw [hb]; exact hdg) t st, q⟩
theorem vx_ialoadN (hexec : p.tables.exec = Jvm.exec) (hb : c.code = cc) {i : Int32} (hdg : decode cc pc = .ok (.iaload, 1)) (k : vx_NoteN p l e R s m args below meth c H locs cells slots Q (F0 m pc ls rest)) : W p l e R s m args below meth c H locs cells slots Q (F0 m pc ls (.int i :: .null :: rest)) := by
  intro T hT X
  obtain ⟨t, st, q⟩ := k T hT X
  exact ⟨t, X.ialoadNull hexec (g := F0 m pc ls (.int i :: .null :: rest)) rfl (rest := rest) rfl (by rw [hb]; exact hdg) t st, q⟩
theorem vx_laloadN (hexec : p.tables.exec = Jvm.exec) (hb : c.code = cc) {i : Int32} (hdg : decode cc pc = .ok (.laload, 1)) (k : vx_NoteN p l e R s m args below meth c H locs cells slots Q (F0 m pc ls rest)) : W p l e R s m args below meth c H locs cells slots Q (F0 m pc ls (.int i :: .null :: rest)) := by
  intro T hT X
  obtain ⟨t, st, q⟩ := k T hT X
  exact ⟨t, X.laloadNull hexec (g := F0 m pc ls (.int i :: .null :: rest)) rfl (rest := rest) rfl (by rw [hb]; exact hdg) t st, q⟩
theorem vx_faloadN (hexec : p.tables.exec = Jvm.exec) (hb : c.code = cc) {i : Int32} (hdg : decode cc pc = .ok (.faload, 1)) (k : vx_NoteN p l e R s m args below meth c H locs cells slots Q (F0 m pc ls rest)) : W p l e R s m args below meth c H locs cells slots Q (F0 m pc ls (.int i :: .null :: rest)) := by
  intro T hT X
  obtain ⟨t, st, q⟩ := k T hT X
  exact ⟨t, X.faloadNull hexec (g := F0 m pc ls (.int i :: .null :: rest)) rfl (rest := rest) rfl (by rw [hb]; exact hdg) t st, q⟩
theorem vx_daloadN (hexec : p.tables.exec = Jvm.exec) (hb : c.code = cc) {i : Int32} (hdg : decode cc pc = .ok (.daload, 1)) (k : vx_NoteN p l e R s m args below meth c H locs cells slots Q (F0 m pc ls rest)) : W p l e R s m args below meth c H locs cells slots Q (F0 m pc ls (.int i :: .null :: rest)) := by
  intro T hT X
  obtain ⟨t, st, q⟩ := k T hT X
  exact ⟨t, X.daloadNull hexec (g := F0 m pc ls (.int i :: .null :: rest)) rfl (rest := rest) rfl (by rw [hb]; exact hdg) t st, q⟩
theorem vx_aaloadN (hexec : p.tables.exec = Jvm.exec) (hb : c.code = cc) {i : Int32} (hdg : decode cc pc = .ok (.aaload, 1)) (k : vx_NoteN p l e R s m args below meth c H locs cells slots Q (F0 m pc ls rest)) : W p l e R s m args below meth c H locs cells slots Q (F0 m pc ls (.int i :: .null :: rest)) := by
  intro T hT X
  obtain ⟨t, st, q⟩ := k T hT X
  exact ⟨t, X.aaloadNull hexec (g := F0 m pc ls (.int i :: .null :: rest)) rfl (rest := rest) rfl (by rw [hb]; exact hdg) t st, q⟩
theorem vx_baloadN (hexec : p.tables.exec = Jvm.exec) (hb : c.code = cc) {i : Int32} (hdg : decode cc pc = .ok (.baload, 1)) (k : vx_NoteN p l e R s m args below meth c H locs cells slots Q (F0 m pc ls rest)) : W p l e R s m args below meth c H locs cells slots Q (F0 m pc ls (.int i :: .null :: rest)) := by
  intro T hT X
  obtain ⟨t, st, q⟩ := k T hT X
  exact ⟨t, X.baloadNull hexec (g := F0 m pc ls (.int i :: .null :: rest)) rfl (rest := rest) rfl (by rw [hb]; exact hdg) t st, q⟩
theorem vx_caloadN (hexec : p.tables.exec = Jvm.exec) (hb : c.code = cc) {i : Int32} (hdg : decode cc pc = .ok (.caload, 1)) (k : vx_NoteN p l e R s m args below meth c H locs cells slots Q (F0 m pc ls rest)) : W p l e R s m args below meth c H locs cells slots Q (F0 m pc ls (.int i :: .null :: rest)) := by
  intro T hT X
  obtain ⟨t, st, q⟩ := k T hT X
  exact ⟨t, X.caloadNull hexec (g := F0 m pc ls (.int i :: .null :: rest)) rfl (rest := rest) rfl (by rw [hb]; exact hdg) t st, q⟩
theorem vx_saloadN (hexec : p.tables.exec = Jvm.exec) (hb : c.code = cc) {i : Int32} (hdg : decode cc pc = .ok (.saload, 1)) (k : vx_NoteN p l e R s m args below meth c H locs cells slots Q (F0 m pc ls rest)) : W p l e R s m args below meth c H locs cells slots Q (F0 m pc ls (.int i :: .null :: rest)) := by
  intro T hT X
  obtain ⟨t, st, q⟩ := k T hT X
  exact ⟨t, X.saloadNull hexec (g := F0 m pc ls (.int i :: .null :: rest)) rfl (rest := rest) rfl (by rw [hb]; exact hdg) t st, q⟩
theorem vx_iastoreN (hexec : p.tables.exec = Jvm.exec) (hb : c.code = cc) {x : Int32} {i : Int32} (hdg : decode cc pc = .ok (.iastore, 1)) (k : vx_NoteN p l e R s m args below meth c H locs cells slots Q (F0 m pc ls rest)) : W p l e R s m args below meth c H locs cells slots Q (F0 m pc ls (.int x :: .int i :: .null :: rest)) := by
  intro T hT X
  obtain ⟨t, st, q⟩ := k T hT X
  exact ⟨t, X.iastoreNull hexec (g := F0 m pc ls (.int x :: .int i :: .null :: rest)) rfl (rest := rest) rfl (by rw [hb]; exact hdg) t st, q⟩
theorem vx_lastoreN (hexec : p.tables.exec = Jvm.exec) (hb : c.code = cc) {x : Int64} {i : Int32} (hdg : decode cc pc = .ok (.lastore, 1)) (k : vx_NoteN p l e R s m args below meth c H locs cells slots Q (F0 m pc ls rest)) : W p l e R s m args below meth c H locs cells slots Q (F0 m pc ls (.long x :: .int i :: .null :: rest)) := by
  intro T hT X
  obtain ⟨t, st, q⟩ := k T hT X
  exact ⟨t, X.lastoreNull hexec (g := F0 m pc ls (.long x :: .int i :: .null :: rest)) rfl (rest := rest) rfl (by rw [hb]; exact hdg) t st, q⟩
theorem vx_fastoreN (hexec : p.tables.exec = Jvm.exec) (hb : c.code = cc) {x : UInt32} {i : Int32} (hdg : decode cc pc = .ok (.fastore, 1)) (k : vx_NoteN p l e R s m args below meth c H locs cells slots Q (F0 m pc ls rest)) : W p l e R s m args below meth c H locs cells slots Q (F0 m pc ls (.float x :: .int i :: .null :: rest)) := by
  intro T hT X
  obtain ⟨t, st, q⟩ := k T hT X
  exact ⟨t, X.fastoreNull hexec (g := F0 m pc ls (.float x :: .int i :: .null :: rest)) rfl (rest := rest) rfl (by rw [hb]; exact hdg) t st, q⟩
theorem vx_dastoreN (hexec : p.tables.exec = Jvm.exec) (hb : c.code = cc) {x : UInt64} {i : Int32} (hdg : decode cc pc = .ok (.dastore, 1)) (k : vx_NoteN p l e R s m args below meth c H locs cells slots Q (F0 m pc ls rest)) : W p l e R s m args below meth c H locs cells slots Q (F0 m pc ls (.double x :: .int i :: .null :: rest)) := by
  intro T hT X
  obtain ⟨t, st, q⟩ := k T hT X
  exact ⟨t, X.dastoreNull hexec (g := F0 m pc ls (.double x :: .int i :: .null :: rest)) rfl (rest := rest) rfl (by rw [hb]; exact hdg) t st, q⟩
theorem vx_bastoreN (hexec : p.tables.exec = Jvm.exec) (hb : c.code = cc) {x : Int32} {i : Int32} (hdg : decode cc pc = .ok (.bastore, 1)) (k : vx_NoteN p l e R s m args below meth c H locs cells slots Q (F0 m pc ls rest)) : W p l e R s m args below meth c H locs cells slots Q (F0 m pc ls (.int x :: .int i :: .null :: rest)) := by
  intro T hT X
  obtain ⟨t, st, q⟩ := k T hT X
  exact ⟨t, X.bastoreNull hexec (g := F0 m pc ls (.int x :: .int i :: .null :: rest)) rfl (rest := rest) rfl (by rw [hb]; exact hdg) t st, q⟩
theorem vx_castoreN (hexec : p.tables.exec = Jvm.exec) (hb : c.code = cc) {x : Int32} {i : Int32} (hdg : decode cc pc = .ok (.castore, 1)) (k : vx_NoteN p l e R s m args below meth c H locs cells slots Q (F0 m pc ls rest)) : W p l e R s m args below meth c H locs cells slots Q (F0 m pc ls (.int x :: .int i :: .null :: rest)) := by
  intro T hT X
  obtain ⟨t, st, q⟩ := k T hT X
  exact ⟨t, X.castoreNull hexec (g := F0 m pc ls (.int x :: .int i :: .null :: rest)) rfl (rest := rest) rfl (by rw [hb]; exact hdg) t st, q⟩
theorem vx_sastoreN (hexec : p.tables.exec = Jvm.exec) (hb : c.code = cc) {x : Int32} {i : Int32} (hdg : decode cc pc = .ok (.sastore, 1)) (k : vx_NoteN p l e R s m args below meth c H locs cells slots Q (F0 m pc ls rest)) : W p l e R s m args below meth c H locs cells slots Q (F0 m pc ls (.int x :: .int i :: .null :: rest)) := by
  intro T hT X
  obtain ⟨t, st, q⟩ := k T hT X
  exact ⟨t, X.sastoreNull hexec (g := F0 m pc ls (.int x :: .int i :: .null :: rest)) rfl (rest := rest) rfl (by rw [hb]; exact hdg) t st, q⟩
theorem vx_invokeN {own C : String} {index maxL : Nat} {y : MethodName} {bytes : ByteArray} {ret : Option FieldType} (hexec : p.tables.exec = Jvm.exec) (hb : c.code = cc) (hown : s.vm.findClass own = some m.cls) (hlink : (Cond.methodLink own index y).before args s = true) (hinst : (Cond.instanceMethod y).before args s = true) (hcode : (Cond.code y bytes maxL ret).before args s = true) (hsel : (Cond.selects C y y).before args s = true)
    (hx : y.cls ≠ "java/lang/invoke/MethodHandle" ∧ y.cls ≠ "java/lang/invoke/VarHandle") {As : List Value} (hlen : (parseMethodDescriptor y.desc).map (fun d => d.parameters.length) = some As.length) (hdg : decode cc pc = .ok (.invokevirtual index, 3))
    (k : vx_NoteN p l e R s m args below meth c H locs cells slots Q (F0 m pc ls rest)) {st0 : List Value} (hst : st0 = As.reverse ++ .null :: rest) : W p l e R s m args below meth c H locs cells slots Q (F0 m pc ls st0) := by
  intro T hT X
  obtain ⟨r0, r, hn, hrm, hstR, hsigR⟩ := va_Decl.of hinst hcode
  obtain ⟨c2, r2, m2, q1, q2, q3, q4, kP, hkP, hkPi⟩ := Cond.selects_spec hsel
  cases hn.symm.trans q3
  have hl9 : As.length = r.sig.parameters.length := by
    rw [hsigR] at hlen
    exact (Option.some.inj hlen).symm
  obtain ⟨vm', X1, st1⟩ := X.invokevirtualNull hexec hown hlink hn hrm hstR hkP hkPi hx (g := F0 m pc ls st0) rfl (argsL := As) (rest := rest) hl9 hst (by rw [hb]; exact hdg)
  obtain ⟨t, st, q⟩ := k (T.setVm vm') hT X1
  exact ⟨t, st1 t st, q⟩
theorem vx_newarrayZ {atype : ArrayType} (hexec : p.tables.exec = Jvm.exec) (hb : c.code = cc) {n : Int32} (h0 : n < 0) (hdg : decode cc pc = .ok (.newarray atype, 2)) (k : ∀ tx : String, tx = toString n → vx_Note p l e R s m args below meth c H locs cells slots Q (F0 m pc ls rest) "java/lang/NegativeArraySizeException" tx) : W p l e R s m args below meth c H locs cells slots Q (F0 m pc ls (.int n :: rest)) := by
  intro T hT X
  obtain ⟨t, st, q⟩ := k _ rfl T hT X
  exact ⟨t, X.newarrayNegative hexec (g := F0 m pc ls (.int n :: rest)) rfl h0 (rest := rest) rfl (by rw [hb]; exact hdg) t st, q⟩
end
end VXM
/-! ===== END ===== -/

def RX0 : String := "Rowtricks$Part"
def TX0 : u_T := fun k => match k with
  | 0 => ("Rowtricks$Part", "row", "LRowtricks$Row;", false)
  | 1 => ("Rowtricks$Part", "whole", "LRowtricks$Part;", false)
  | 2 => ("Rowtricks$Part", "from", "I", false)
  | _ => ("Rowtricks$Part", "to", "I", false)
def tyX0 : Nat → FieldType := fun k => match k with
  | 0 => .object "Rowtricks$Row"
  | 1 => .object "Rowtricks$Part"
  | 2 => .int
  | _ => .int
abbrev wsX00 : List Cond := u_ws RX0 TX0 4
theorem nmX0 : ∀ a, a < 4 → ∀ b, b < 4 → a ≠ b → (TX0 a).2.1 ≠ (TX0 b).2.1 := by decide +kernel
theorem tyX0_ok : ∀ k, k < 4 → parseFieldDescriptor (TX0 k).2.2.1 = some (tyX0 k) := by decide +kernel
abbrev cX0_init : ByteArray := prog_2_method_1_code
def yX0_init : MethodName := ⟨RX0, "<init>", "()V"⟩
abbrev cX0_lay : ByteArray := prog_2_method_2_code
def yX0_lay : MethodName := ⟨RX0, "lay", "(LRowtricks$Row;LRowtricks$Part;II)V"⟩
abbrev cX0_isThere : ByteArray := prog_2_method_3_code
def yX0_isThere : MethodName := ⟨RX0, "isThere", "()Z"⟩
abbrev cX0_many : ByteArray := prog_2_method_4_code
def yX0_many : MethodName := ⟨RX0, "many", "()I"⟩
abbrev cX0_hasPlace : ByteArray := prog_2_method_5_code
def yX0_hasPlace : MethodName := ⟨RX0, "hasPlace", "(I)Z"⟩
abbrev cX0_isWithin : ByteArray := prog_2_method_6_code
def yX0_isWithin : MethodName := ⟨RX0, "isWithin", "(LRowtricks$Part;)Z"⟩
def RX1 : String := "Rowtricks$Row"
def TX1 : u_T := fun k => match k with
  | 0 => ("Rowtricks$Row", "cards", "[I", true)
  | 1 => ("Rowtricks$Row", "count", "I", false)
  | 2 => ("Rowtricks$Row", "state", "I", false)
  | _ => ("Rowtricks$Row", "next", "I", false)
def tyX1 : Nat → FieldType := fun k => match k with
  | 0 => .array .int
  | 1 => .int
  | 2 => .int
  | _ => .int
abbrev wsX10 : List Cond := u_ws RX1 TX1 4
theorem nmX1 : ∀ a, a < 4 → ∀ b, b < 4 → a ≠ b → (TX1 a).2.1 ≠ (TX1 b).2.1 := by decide +kernel
theorem tyX1_ok : ∀ k, k < 4 → parseFieldDescriptor (TX1 k).2.2.1 = some (tyX1 k) := by decide +kernel
abbrev cX1_init : ByteArray := prog_3_method_1_code
def yX1_init : MethodName := ⟨RX1, "<init>", "()V"⟩
abbrev cX1_hasPlace : ByteArray := prog_3_method_2_code
def yX1_hasPlace : MethodName := ⟨RX1, "hasPlace", "(I)Z"⟩
abbrev cX1_cardAt : ByteArray := prog_3_method_3_code
def yX1_cardAt : MethodName := ⟨RX1, "cardAt", "(I)I"⟩
abbrev cX1_valueAt : ByteArray := prog_3_method_4_code
def yX1_valueAt : MethodName := ⟨RX1, "valueAt", "(I)I"⟩
abbrev cX1_markAt : ByteArray := prog_3_method_5_code
def yX1_markAt : MethodName := ⟨RX1, "markAt", "(I)I"⟩
abbrev cX1_firstValue : ByteArray := prog_3_method_6_code
def yX1_firstValue : MethodName := ⟨RX1, "firstValue", "(II)I"⟩
abbrev cX1_put : ByteArray := prog_3_method_7_code
def yX1_put : MethodName := ⟨RX1, "put", "(II)V"⟩
abbrev cX1_putBehind : ByteArray := prog_3_method_8_code
def yX1_putBehind : MethodName := ⟨RX1, "putBehind", "(I)V"⟩
abbrev cX1_putBetween : ByteArray := prog_3_method_9_code
def yX1_putBetween : MethodName := ⟨RX1, "putBetween", "(II)V"⟩
abbrev cX1_putCopiesBehind : ByteArray := prog_3_method_10_code
def yX1_putCopiesBehind : MethodName := ⟨RX1, "putCopiesBehind", "(II)V"⟩
abbrev cX1_putAllBehind : ByteArray := prog_3_method_11_code
def yX1_putAllBehind : MethodName := ⟨RX1, "putAllBehind", "(LRowtricks$Row;)V"⟩
abbrev cX1_becomeLike : ByteArray := prog_3_method_12_code
def yX1_becomeLike : MethodName := ⟨RX1, "becomeLike", "(LRowtricks$Row;)V"⟩
abbrev cX1_takeOut : ByteArray := prog_3_method_13_code
def yX1_takeOut : MethodName := ⟨RX1, "takeOut", "(II)V"⟩
abbrev cX1_exchange : ByteArray := prog_3_method_14_code
def yX1_exchange : MethodName := ⟨RX1, "exchange", "(II)V"⟩
abbrev cX1_turn : ByteArray := prog_3_method_15_code
def yX1_turn : MethodName := ⟨RX1, "turn", "(II)V"⟩
abbrev cX1_push : ByteArray := prog_3_method_16_code
def yX1_push : MethodName := ⟨RX1, "push", "(III)V"⟩
abbrev cX1_arrange : ByteArray := prog_3_method_17_code
def yX1_arrange : MethodName := ⟨RX1, "arrange", "(IIZ)V"⟩
abbrev cX1_settle : ByteArray := prog_3_method_18_code
def yX1_settle : MethodName := ⟨RX1, "settle", "(IIZ)V"⟩
abbrev cX1_howOften : ByteArray := prog_3_method_19_code
def yX1_howOften : MethodName := ⟨RX1, "howOften", "(I)I"⟩
abbrev cX1_firstPlaceOf : ByteArray := prog_3_method_20_code
def yX1_firstPlaceOf : MethodName := ⟨RX1, "firstPlaceOf", "(I)I"⟩
abbrev cX1_lastPlaceOf : ByteArray := prog_3_method_21_code
def yX1_lastPlaceOf : MethodName := ⟨RX1, "lastPlaceOf", "(I)I"⟩
abbrev cX1_isLike : ByteArray := prog_3_method_22_code
def yX1_isLike : MethodName := ⟨RX1, "isLike", "(LRowtricks$Row;)Z"⟩
abbrev cX1_hasFrom : ByteArray := prog_3_method_23_code
def yX1_hasFrom : MethodName := ⟨RX1, "hasFrom", "(ILRowtricks$Row;II)Z"⟩
abbrev cX1_placeOf : ByteArray := prog_3_method_24_code
def yX1_placeOf : MethodName := ⟨RX1, "placeOf", "(IILRowtricks$Row;II)I"⟩
def RX2 : String := "Rowtricks"
def TX2 : u_T := fun k => match k with
  | 0 => ("Rowtricks", "rows", "[LRowtricks$Row;", true)
  | 1 => ("Rowtricks", "parts", "[LRowtricks$Part;", true)
  | 2 => ("Rowtricks", "spare", "LRowtricks$Row;", true)
  | _ => ("Rowtricks", "knocks", "I", false)
def tyX2 : Nat → FieldType := fun k => match k with
  | 0 => .array (.object "Rowtricks$Row")
  | 1 => .array (.object "Rowtricks$Part")
  | 2 => .object "Rowtricks$Row"
  | _ => .int
abbrev wsX20 : List Cond := u_ws RX2 TX2 4
theorem nmX2 : ∀ a, a < 4 → ∀ b, b < 4 → a ≠ b → (TX2 a).2.1 ≠ (TX2 b).2.1 := by decide +kernel
theorem tyX2_ok : ∀ k, k < 4 → parseFieldDescriptor (TX2 k).2.2.1 = some (tyX2 k) := by decide +kernel
abbrev cX2_init : ByteArray := prog_1_method_1_code
def yX2_init : MethodName := ⟨RX2, "<init>", "()V"⟩
abbrev cX2_add : ByteArray := prog_1_method_2_code
def yX2_add : MethodName := ⟨RX2, "add", "(III)I"⟩
abbrev cX2_insert : ByteArray := prog_1_method_3_code
def yX2_insert : MethodName := ⟨RX2, "insert", "(IIII)I"⟩
abbrev cX2_remove : ByteArray := prog_1_method_4_code
def yX2_remove : MethodName := ⟨RX2, "remove", "(II)I"⟩
abbrev cX2_set : ByteArray := prog_1_method_5_code
def yX2_set : MethodName := ⟨RX2, "set", "(IIII)I"⟩
abbrev cX2_clear : ByteArray := prog_1_method_6_code
def yX2_clear : MethodName := ⟨RX2, "clear", "(I)I"⟩
abbrev cX2_addTwo : ByteArray := prog_1_method_7_code
def yX2_addTwo : MethodName := ⟨RX2, "addTwo", "(IIIII)I"⟩
abbrev cX2_addCopies : ByteArray := prog_1_method_8_code
def yX2_addCopies : MethodName := ⟨RX2, "addCopies", "(IIII)I"⟩
abbrev cX2_append : ByteArray := prog_1_method_9_code
def yX2_append : MethodName := ⟨RX2, "append", "(II)I"⟩
abbrev cX2_copy : ByteArray := prog_1_method_10_code
def yX2_copy : MethodName := ⟨RX2, "copy", "(II)I"⟩
abbrev cX2_fill : ByteArray := prog_1_method_11_code
def yX2_fill : MethodName := ⟨RX2, "fill", "(III)I"⟩
abbrev cX2_replace : ByteArray := prog_1_method_12_code
def yX2_replace : MethodName := ⟨RX2, "replace", "(IIIII)Z"⟩
abbrev cX2_reverse : ByteArray := prog_1_method_13_code
def yX2_reverse : MethodName := ⟨RX2, "reverse", "(I)I"⟩
abbrev cX2_rotate : ByteArray := prog_1_method_14_code
def yX2_rotate : MethodName := ⟨RX2, "rotate", "(II)I"⟩
abbrev cX2_swap : ByteArray := prog_1_method_15_code
def yX2_swap : MethodName := ⟨RX2, "swap", "(III)I"⟩
abbrev cX2_sort : ByteArray := prog_1_method_16_code
def yX2_sort : MethodName := ⟨RX2, "sort", "(IZ)I"⟩
abbrev cX2_size : ByteArray := prog_1_method_17_code
def yX2_size : MethodName := ⟨RX2, "size", "(I)I"⟩
abbrev cX2_text : ByteArray := prog_1_method_18_code
def yX2_text : MethodName := ⟨RX2, "text", "(I)Ljava/lang/String;"⟩
abbrev cX2_at : ByteArray := prog_1_method_19_code
def yX2_at : MethodName := ⟨RX2, "at", "(IIZ)I"⟩
abbrev cX2_frequency : ByteArray := prog_1_method_20_code
def yX2_frequency : MethodName := ⟨RX2, "frequency", "(III)I"⟩
abbrev cX2_indexOf : ByteArray := prog_1_method_21_code
def yX2_indexOf : MethodName := ⟨RX2, "indexOf", "(IIIZ)I"⟩
abbrev cX2_disjoint : ByteArray := prog_1_method_22_code
def yX2_disjoint : MethodName := ⟨RX2, "disjoint", "(II)Z"⟩
abbrev cX2_isSame : ByteArray := prog_1_method_23_code
def yX2_isSame : MethodName := ⟨RX2, "isSame", "(II)Z"⟩
abbrev cX2_indexOfRow : ByteArray := prog_1_method_24_code
def yX2_indexOfRow : MethodName := ⟨RX2, "indexOfRow", "(II)I"⟩
abbrev cX2_most : ByteArray := prog_1_method_25_code
def yX2_most : MethodName := ⟨RX2, "most", "(IZ)I"⟩
abbrev cX2_mostTurned : ByteArray := prog_1_method_26_code
def yX2_mostTurned : MethodName := ⟨RX2, "mostTurned", "(IZ)I"⟩
abbrev cX2_search : ByteArray := prog_1_method_27_code
def yX2_search : MethodName := ⟨RX2, "search", "(II)I"⟩
abbrev cX2_state : ByteArray := prog_1_method_28_code
def yX2_state : MethodName := ⟨RX2, "state", "(I)I"⟩
abbrev cX2_compare : ByteArray := prog_1_method_29_code
def yX2_compare : MethodName := ⟨RX2, "compare", "(II)I"⟩
abbrev cX2_copiesIn : ByteArray := prog_1_method_30_code
def yX2_copiesIn : MethodName := ⟨RX2, "copiesIn", "(IIII)I"⟩
abbrev cX2_part : ByteArray := prog_1_method_31_code
def yX2_part : MethodName := ⟨RX2, "part", "(IIII)I"⟩
abbrev cX2_inner : ByteArray := prog_1_method_32_code
def yX2_inner : MethodName := ⟨RX2, "inner", "(IIII)I"⟩
abbrev cX2_drop : ByteArray := prog_1_method_33_code
def yX2_drop : MethodName := ⟨RX2, "drop", "(I)I"⟩
abbrev cX2_cut : ByteArray := prog_1_method_34_code
def yX2_cut : MethodName := ⟨RX2, "cut", "(I)I"⟩
abbrev cX2_setIn : ByteArray := prog_1_method_35_code
def yX2_setIn : MethodName := ⟨RX2, "setIn", "(IIII)I"⟩
abbrev cX2_reverseIn : ByteArray := prog_1_method_36_code
def yX2_reverseIn : MethodName := ⟨RX2, "reverseIn", "(I)I"⟩
abbrev cX2_rotateIn : ByteArray := prog_1_method_37_code
def yX2_rotateIn : MethodName := ⟨RX2, "rotateIn", "(II)I"⟩
abbrev cX2_swapIn : ByteArray := prog_1_method_38_code
def yX2_swapIn : MethodName := ⟨RX2, "swapIn", "(III)I"⟩
abbrev cX2_sortIn : ByteArray := prog_1_method_39_code
def yX2_sortIn : MethodName := ⟨RX2, "sortIn", "(I)I"⟩
abbrev cX2_textIn : ByteArray := prog_1_method_40_code
def yX2_textIn : MethodName := ⟨RX2, "textIn", "(I)Ljava/lang/String;"⟩
abbrev cX2_sizeIn : ByteArray := prog_1_method_41_code
def yX2_sizeIn : MethodName := ⟨RX2, "sizeIn", "(I)I"⟩
abbrev cX2_indexOfIn : ByteArray := prog_1_method_42_code
def yX2_indexOfIn : MethodName := ⟨RX2, "indexOfIn", "(IIZ)I"⟩
abbrev cX2_refuse : ByteArray := prog_1_method_43_code
def yX2_refuse : MethodName := ⟨RX2, "refuse", "(III)I"⟩
abbrev cX2_viewText : ByteArray := prog_1_method_44_code
def yX2_viewText : MethodName := ⟨RX2, "viewText", "(I)Ljava/lang/String;"⟩
abbrev cX2_viewFrequency : ByteArray := prog_1_method_45_code
def yX2_viewFrequency : MethodName := ⟨RX2, "viewFrequency", "(III)I"⟩
abbrev cX2_walk : ByteArray := prog_1_method_46_code
def yX2_walk : MethodName := ⟨RX2, "walk", "(I)I"⟩
abbrev cX2_step : ByteArray := prog_1_method_47_code
def yX2_step : MethodName := ⟨RX2, "step", "(I)I"⟩
abbrev cX2_hasStep : ByteArray := prog_1_method_48_code
def yX2_hasStep : MethodName := ⟨RX2, "hasStep", "(I)I"⟩
abbrev cX2_house : ByteArray := prog_1_method_49_code
def yX2_house : MethodName := ⟨RX2, "house", "(I)I"⟩
abbrev cX2_knock : ByteArray := prog_1_method_50_code
def yX2_knock : MethodName := ⟨RX2, "knock", "()I"⟩
abbrev cX2_isSound : ByteArray := prog_1_method_51_code
def yX2_isSound : MethodName := ⟨RX2, "isSound", "()Z"⟩
abbrev cX2_digest : ByteArray := prog_1_method_52_code
def yX2_digest : MethodName := ⟨RX2, "digest", "()J"⟩
abbrev cX2_rowOf : ByteArray := prog_1_method_53_code
def yX2_rowOf : MethodName := ⟨RX2, "rowOf", "(I)LRowtricks$Row;"⟩
abbrev cX2_partOf : ByteArray := prog_1_method_54_code
def yX2_partOf : MethodName := ⟨RX2, "partOf", "(I)LRowtricks$Part;"⟩
abbrev cX2_needThere : ByteArray := prog_1_method_55_code
def yX2_needThere : MethodName := ⟨RX2, "needThere", "(LRowtricks$Part;)LRowtricks$Row;"⟩
abbrev cX2_needPlace : ByteArray := prog_1_method_56_code
def yX2_needPlace : MethodName := ⟨RX2, "needPlace", "(LRowtricks$Row;I)V"⟩
abbrev cX2_needRoom : ByteArray := prog_1_method_57_code
def yX2_needRoom : MethodName := ⟨RX2, "needRoom", "(LRowtricks$Row;I)V"⟩
abbrev cX2_needDifferent : ByteArray := prog_1_method_58_code
def yX2_needDifferent : MethodName := ⟨RX2, "needDifferent", "(II)V"⟩
abbrev cX2_needCopies : ByteArray := prog_1_method_59_code
def yX2_needCopies : MethodName := ⟨RX2, "needCopies", "(I)V"⟩
abbrev cX2_needValue : ByteArray := prog_1_method_60_code
def yX2_needValue : MethodName := ⟨RX2, "needValue", "(I)V"⟩
abbrev cX2_cardOf : ByteArray := prog_1_method_61_code
def yX2_cardOf : MethodName := ⟨RX2, "cardOf", "(II)I"⟩
abbrev cX2_isSpan : ByteArray := prog_1_method_62_code
def yX2_isSpan : MethodName := ⟨RX2, "isSpan", "(III)Z"⟩
abbrev cX2_reshape : ByteArray := prog_1_method_63_code
def yX2_reshape : MethodName := ⟨RX2, "reshape", "(LRowtricks$Row;)V"⟩
abbrev cX2_changeBy : ByteArray := prog_1_method_64_code
def yX2_changeBy : MethodName := ⟨RX2, "changeBy", "(LRowtricks$Row;I)V"⟩
abbrev cX2_lose : ByteArray := prog_1_method_65_code
def yX2_lose : MethodName := ⟨RX2, "lose", "(LRowtricks$Part;)V"⟩
abbrev cX2_shrinkAround : ByteArray := prog_1_method_66_code
def yX2_shrinkAround : MethodName := ⟨RX2, "shrinkAround", "(LRowtricks$Part;LRowtricks$Row;I)V"⟩
abbrev cX2_exchangeCard : ByteArray := prog_1_method_67_code
def yX2_exchangeCard : MethodName := ⟨RX2, "exchangeCard", "(LRowtricks$Row;II)I"⟩
abbrev cX2_changePlaces : ByteArray := prog_1_method_68_code
def yX2_changePlaces : MethodName := ⟨RX2, "changePlaces", "(LRowtricks$Row;II)I"⟩
abbrev cX2_turnSpan : ByteArray := prog_1_method_69_code
def yX2_turnSpan : MethodName := ⟨RX2, "turnSpan", "(LRowtricks$Row;II)I"⟩
abbrev cX2_pushSpan : ByteArray := prog_1_method_70_code
def yX2_pushSpan : MethodName := ⟨RX2, "pushSpan", "(LRowtricks$Row;III)I"⟩
abbrev cX2_comesBefore : ByteArray := prog_1_method_71_code
def yX2_comesBefore : MethodName := ⟨RX2, "comesBefore", "(IIZ)Z"⟩
abbrev cX2_extremeOf : ByteArray := prog_1_method_72_code
def yX2_extremeOf : MethodName := ⟨RX2, "extremeOf", "(LRowtricks$Row;Z)I"⟩
abbrev cX2_haveNoneInCommon : ByteArray := prog_1_method_73_code
def yX2_haveNoneInCommon : MethodName := ⟨RX2, "haveNoneInCommon", "(LRowtricks$Row;LRowtricks$Row;)Z"⟩
abbrev cX2_placeOfRow : ByteArray := prog_1_method_74_code
def yX2_placeOfRow : MethodName := ⟨RX2, "placeOfRow", "(LRowtricks$Row;LRowtricks$Row;)I"⟩
abbrev cX2_stepsLeft : ByteArray := prog_1_method_75_code
def yX2_stepsLeft : MethodName := ⟨RX2, "stepsLeft", "(LRowtricks$Row;)I"⟩
abbrev cX2_allCards : ByteArray := prog_1_method_76_code
def yX2_allCards : MethodName := ⟨RX2, "allCards", "()I"⟩
abbrev cX2_allParts : ByteArray := prog_1_method_77_code
def yX2_allParts : MethodName := ⟨RX2, "allParts", "()I"⟩
abbrev cX2_allWalks : ByteArray := prog_1_method_78_code
def yX2_allWalks : MethodName := ⟨RX2, "allWalks", "()I"⟩
abbrev cX2_isRowSound : ByteArray := prog_1_method_79_code
def yX2_isRowSound : MethodName := ⟨RX2, "isRowSound", "(LRowtricks$Row;)Z"⟩
abbrev cX2_isPartSound : ByteArray := prog_1_method_80_code
def yX2_isPartSound : MethodName := ⟨RX2, "isPartSound", "(LRowtricks$Part;)Z"⟩
abbrev cX2_textOf : ByteArray := prog_1_method_81_code
def yX2_textOf : MethodName := ⟨RX2, "textOf", "(LRowtricks$Row;)Ljava/lang/String;"⟩
abbrev cX2_writePart : ByteArray := prog_1_method_82_code
def yX2_writePart : MethodName := ⟨RX2, "writePart", "(Ljava/lang/StringBuilder;LRowtricks$Part;)V"⟩
abbrev cX2_writeSpan : ByteArray := prog_1_method_83_code
def yX2_writeSpan : MethodName := ⟨RX2, "writeSpan", "(Ljava/lang/StringBuilder;LRowtricks$Row;II)V"⟩
abbrev cX2_mix : ByteArray := prog_1_method_84_code
def yX2_mix : MethodName := ⟨RX2, "mix", "(JJ)J"⟩
abbrev cX2_mixText : ByteArray := prog_1_method_85_code
def yX2_mixText : MethodName := ⟨RX2, "mixText", "(JLjava/lang/StringBuilder;)J"⟩
abbrev cX2_mixHouse : ByteArray := prog_1_method_86_code
def yX2_mixHouse : MethodName := ⟨RX2, "mixHouse", "(J)J"⟩
abbrev cX2_mixRow : ByteArray := prog_1_method_87_code
def yX2_mixRow : MethodName := ⟨RX2, "mixRow", "(JLRowtricks$Row;Ljava/lang/StringBuilder;)J"⟩
def RX3 : String := "RowtricksLaw$Out"
def TX3 : u_T := fun k => match k with
  | 0 => ("RowtricksLaw$Out", "n", "J", false)
  | _ => ("RowtricksLaw$Out", "s", "Ljava/lang/String;", false)
def tyX3 : Nat → FieldType := fun k => match k with
  | 0 => .long
  | _ => .object "java/lang/String"
abbrev wsX30 : List Cond := u_ws RX3 TX3 2
theorem nmX3 : ∀ a, a < 2 → ∀ b, b < 2 → a ≠ b → (TX3 a).2.1 ≠ (TX3 b).2.1 := by decide +kernel
theorem tyX3_ok : ∀ k, k < 2 → parseFieldDescriptor (TX3 k).2.2.1 = some (tyX3 k) := by decide +kernel
abbrev cX3_init : ByteArray := prog_5_method_1_code
def yX3_init : MethodName := ⟨RX3, "<init>", "()V"⟩
def RX4 : String := "RowtricksModel"
def TX4 : u_T := fun k => match k with
  | 0 => ("RowtricksModel", "thrown", "I", false)
  | 1 => ("RowtricksModel", "rows", "[[I", true)
  | 2 => ("RowtricksModel", "sizes", "[I", true)
  | 3 => ("RowtricksModel", "states", "[I", true)
  | 4 => ("RowtricksModel", "walks", "[I", true)
  | 5 => ("RowtricksModel", "partRows", "[I", true)
  | 6 => ("RowtricksModel", "froms", "[I", true)
  | 7 => ("RowtricksModel", "tos", "[I", true)
  | 8 => ("RowtricksModel", "wholes", "[I", true)
  | _ => ("RowtricksModel", "knocks", "I", false)
def tyX4 : Nat → FieldType := fun k => match k with
  | 0 => .int
  | 1 => .array (.array .int)
  | 2 => .array .int
  | 3 => .array .int
  | 4 => .array .int
  | 5 => .array .int
  | 6 => .array .int
  | 7 => .array .int
  | 8 => .array .int
  | _ => .int
abbrev wsX40 : List Cond := u_ws RX4 TX4 10
theorem nmX4 : ∀ a, a < 10 → ∀ b, b < 10 → a ≠ b → (TX4 a).2.1 ≠ (TX4 b).2.1 := by decide +kernel
theorem tyX4_ok : ∀ k, k < 10 → parseFieldDescriptor (TX4 k).2.2.1 = some (tyX4 k) := by decide +kernel
abbrev cX4_init : ByteArray := prog_6_method_1_code
def yX4_init : MethodName := ⟨RX4, "<init>", "()V"⟩
abbrev cX4_thrown : ByteArray := prog_6_method_2_code
def yX4_thrown : MethodName := ⟨RX4, "thrown", "()I"⟩
abbrev cX4_isIn : ByteArray := prog_6_method_3_code
def yX4_isIn : MethodName := ⟨RX4, "isIn", "(III)Z"⟩
abbrev cX4_one : ByteArray := prog_6_method_4_code
def yX4_one : MethodName := ⟨RX4, "one", "(Z)I"⟩
abbrev cX4_isNoRow : ByteArray := prog_6_method_5_code
def yX4_isNoRow : MethodName := ⟨RX4, "isNoRow", "(I)Z"⟩
abbrev cX4_isNoPart : ByteArray := prog_6_method_6_code
def yX4_isNoPart : MethodName := ⟨RX4, "isNoPart", "(I)Z"⟩
abbrev cX4_isNoCard : ByteArray := prog_6_method_7_code
def yX4_isNoCard : MethodName := ⟨RX4, "isNoCard", "(II)Z"⟩
abbrev cX4_isNoPlace : ByteArray := prog_6_method_8_code
def yX4_isNoPlace : MethodName := ⟨RX4, "isNoPlace", "(II)Z"⟩
abbrev cX4_start : ByteArray := prog_6_method_9_code
def yX4_start : MethodName := ⟨RX4, "start", "(ZZZ)Z"⟩
abbrev cX4_lose : ByteArray := prog_6_method_10_code
def yX4_lose : MethodName := ⟨RX4, "lose", "(I)V"⟩
abbrev cX4_reshape : ByteArray := prog_6_method_11_code
def yX4_reshape : MethodName := ⟨RX4, "reshape", "(I)V"⟩
abbrev cX4_isInside : ByteArray := prog_6_method_12_code
def yX4_isInside : MethodName := ⟨RX4, "isInside", "(II)Z"⟩
abbrev cX4_put : ByteArray := prog_6_method_13_code
def yX4_put : MethodName := ⟨RX4, "put", "(III)V"⟩
abbrev cX4_take : ByteArray := prog_6_method_14_code
def yX4_take : MethodName := ⟨RX4, "take", "(II)I"⟩
abbrev cX4_addMany : ByteArray := prog_6_method_15_code
def yX4_addMany : MethodName := ⟨RX4, "addMany", "(III)I"⟩
abbrev cX4_add : ByteArray := prog_6_method_16_code
def yX4_add : MethodName := ⟨RX4, "add", "(III)I"⟩
abbrev cX4_insert : ByteArray := prog_6_method_17_code
def yX4_insert : MethodName := ⟨RX4, "insert", "(IIII)I"⟩
abbrev cX4_lost : ByteArray := prog_6_method_18_code
def yX4_lost : MethodName := ⟨RX4, "lost", "(I)I"⟩
abbrev cX4_remove : ByteArray := prog_6_method_19_code
def yX4_remove : MethodName := ⟨RX4, "remove", "(II)I"⟩
abbrev cX4_set : ByteArray := prog_6_method_20_code
def yX4_set : MethodName := ⟨RX4, "set", "(IIII)I"⟩
abbrev cX4_clear : ByteArray := prog_6_method_21_code
def yX4_clear : MethodName := ⟨RX4, "clear", "(I)I"⟩
abbrev cX4_addTwo : ByteArray := prog_6_method_22_code
def yX4_addTwo : MethodName := ⟨RX4, "addTwo", "(IIIII)I"⟩
abbrev cX4_addCopies : ByteArray := prog_6_method_23_code
def yX4_addCopies : MethodName := ⟨RX4, "addCopies", "(IIII)I"⟩
abbrev cX4_append : ByteArray := prog_6_method_24_code
def yX4_append : MethodName := ⟨RX4, "append", "(II)I"⟩
abbrev cX4_copy : ByteArray := prog_6_method_25_code
def yX4_copy : MethodName := ⟨RX4, "copy", "(II)I"⟩
abbrev cX4_fill : ByteArray := prog_6_method_26_code
def yX4_fill : MethodName := ⟨RX4, "fill", "(III)I"⟩
abbrev cX4_replace : ByteArray := prog_6_method_27_code
def yX4_replace : MethodName := ⟨RX4, "replace", "(IIIII)Z"⟩
abbrev cX4_firstOf : ByteArray := prog_6_method_28_code
def yX4_firstOf : MethodName := ⟨RX4, "firstOf", "(III)I"⟩
abbrev cX4_push : ByteArray := prog_6_method_29_code
def yX4_push : MethodName := ⟨RX4, "push", "([IIII)V"⟩
abbrev cX4_turn : ByteArray := prog_6_method_30_code
def yX4_turn : MethodName := ⟨RX4, "turn", "([III)V"⟩
abbrev cX4_sort : ByteArray := prog_6_method_31_code
def yX4_sort : MethodName := ⟨RX4, "sort", "([IIIZ)V"⟩
abbrev cX4_reverse : ByteArray := prog_6_method_32_code
def yX4_reverse : MethodName := ⟨RX4, "reverse", "(I)I"⟩
abbrev cX4_rotate : ByteArray := prog_6_method_33_code
def yX4_rotate : MethodName := ⟨RX4, "rotate", "(II)I"⟩
abbrev cX4_swapped : ByteArray := prog_6_method_34_code
def yX4_swapped : MethodName := ⟨RX4, "swapped", "(III)I"⟩
abbrev cX4_swap : ByteArray := prog_6_method_35_code
def yX4_swap : MethodName := ⟨RX4, "swap", "(III)I"⟩
abbrev cX4_sort_ : ByteArray := prog_6_method_36_code
def yX4_sort_ : MethodName := ⟨RX4, "sort", "(IZ)I"⟩
abbrev cX4_textOf : ByteArray := prog_6_method_37_code
def yX4_textOf : MethodName := ⟨RX4, "textOf", "(III)Ljava/lang/String;"⟩
abbrev cX4_size : ByteArray := prog_6_method_38_code
def yX4_size : MethodName := ⟨RX4, "size", "(I)I"⟩
abbrev cX4_text : ByteArray := prog_6_method_39_code
def yX4_text : MethodName := ⟨RX4, "text", "(I)Ljava/lang/String;"⟩
abbrev cX4_at : ByteArray := prog_6_method_40_code
def yX4_at : MethodName := ⟨RX4, "at", "(IIZ)I"⟩
abbrev cX4_count : ByteArray := prog_6_method_41_code
def yX4_count : MethodName := ⟨RX4, "count", "(II)I"⟩
abbrev cX4_frequency : ByteArray := prog_6_method_42_code
def yX4_frequency : MethodName := ⟨RX4, "frequency", "(III)I"⟩
abbrev cX4_indexOf : ByteArray := prog_6_method_43_code
def yX4_indexOf : MethodName := ⟨RX4, "indexOf", "(IIIZ)I"⟩
abbrev cX4_areApart : ByteArray := prog_6_method_44_code
def yX4_areApart : MethodName := ⟨RX4, "areApart", "(II)Z"⟩
abbrev cX4_disjoint : ByteArray := prog_6_method_45_code
def yX4_disjoint : MethodName := ⟨RX4, "disjoint", "(II)Z"⟩
abbrev cX4_isLike : ByteArray := prog_6_method_46_code
def yX4_isLike : MethodName := ⟨RX4, "isLike", "(II)Z"⟩
abbrev cX4_isSame : ByteArray := prog_6_method_47_code
def yX4_isSame : MethodName := ⟨RX4, "isSame", "(II)Z"⟩
abbrev cX4_placeOf : ByteArray := prog_6_method_48_code
def yX4_placeOf : MethodName := ⟨RX4, "placeOf", "([III[III)I"⟩
abbrev cX4_rowIn : ByteArray := prog_6_method_49_code
def yX4_rowIn : MethodName := ⟨RX4, "rowIn", "(II)I"⟩
abbrev cX4_indexOfRow : ByteArray := prog_6_method_50_code
def yX4_indexOfRow : MethodName := ⟨RX4, "indexOfRow", "(II)I"⟩
abbrev cX4_mostOf : ByteArray := prog_6_method_51_code
def yX4_mostOf : MethodName := ⟨RX4, "mostOf", "(IZ)I"⟩
abbrev cX4_most : ByteArray := prog_6_method_52_code
def yX4_most : MethodName := ⟨RX4, "most", "(IZ)I"⟩
abbrev cX4_mostTurned : ByteArray := prog_6_method_53_code
def yX4_mostTurned : MethodName := ⟨RX4, "mostTurned", "(IZ)I"⟩
abbrev cX4_search : ByteArray := prog_6_method_54_code
def yX4_search : MethodName := ⟨RX4, "search", "(II)I"⟩
abbrev cX4_state : ByteArray := prog_6_method_55_code
def yX4_state : MethodName := ⟨RX4, "state", "(I)I"⟩
abbrev cX4_compare : ByteArray := prog_6_method_56_code
def yX4_compare : MethodName := ⟨RX4, "compare", "(II)I"⟩
abbrev cX4_copiesIn : ByteArray := prog_6_method_57_code
def yX4_copiesIn : MethodName := ⟨RX4, "copiesIn", "(IIII)I"⟩
abbrev cX4_lay : ByteArray := prog_6_method_58_code
def yX4_lay : MethodName := ⟨RX4, "lay", "(IIIII)I"⟩
abbrev cX4_part : ByteArray := prog_6_method_59_code
def yX4_part : MethodName := ⟨RX4, "part", "(IIII)I"⟩
abbrev cX4_inner : ByteArray := prog_6_method_60_code
def yX4_inner : MethodName := ⟨RX4, "inner", "(IIII)I"⟩
abbrev cX4_drop : ByteArray := prog_6_method_61_code
def yX4_drop : MethodName := ⟨RX4, "drop", "(I)I"⟩
abbrev cX4_isThere : ByteArray := prog_6_method_62_code
def yX4_isThere : MethodName := ⟨RX4, "isThere", "(I)Z"⟩
abbrev cX4_cut : ByteArray := prog_6_method_63_code
def yX4_cut : MethodName := ⟨RX4, "cut", "(I)I"⟩
abbrev cX4_isNoPlaceIn : ByteArray := prog_6_method_64_code
def yX4_isNoPlaceIn : MethodName := ⟨RX4, "isNoPlaceIn", "(II)Z"⟩
abbrev cX4_setIn : ByteArray := prog_6_method_65_code
def yX4_setIn : MethodName := ⟨RX4, "setIn", "(IIII)I"⟩
abbrev cX4_loosened : ByteArray := prog_6_method_66_code
def yX4_loosened : MethodName := ⟨RX4, "loosened", "(I)I"⟩
abbrev cX4_reverseIn : ByteArray := prog_6_method_67_code
def yX4_reverseIn : MethodName := ⟨RX4, "reverseIn", "(I)I"⟩
abbrev cX4_rotateIn : ByteArray := prog_6_method_68_code
def yX4_rotateIn : MethodName := ⟨RX4, "rotateIn", "(II)I"⟩
abbrev cX4_swapIn : ByteArray := prog_6_method_69_code
def yX4_swapIn : MethodName := ⟨RX4, "swapIn", "(III)I"⟩
abbrev cX4_sortIn : ByteArray := prog_6_method_70_code
def yX4_sortIn : MethodName := ⟨RX4, "sortIn", "(I)I"⟩
abbrev cX4_partText : ByteArray := prog_6_method_71_code
def yX4_partText : MethodName := ⟨RX4, "partText", "(I)Ljava/lang/String;"⟩
abbrev cX4_textIn : ByteArray := prog_6_method_72_code
def yX4_textIn : MethodName := ⟨RX4, "textIn", "(I)Ljava/lang/String;"⟩
abbrev cX4_sizeIn : ByteArray := prog_6_method_73_code
def yX4_sizeIn : MethodName := ⟨RX4, "sizeIn", "(I)I"⟩
abbrev cX4_indexOfIn : ByteArray := prog_6_method_74_code
def yX4_indexOfIn : MethodName := ⟨RX4, "indexOfIn", "(IIZ)I"⟩
abbrev cX4_refuse : ByteArray := prog_6_method_75_code
def yX4_refuse : MethodName := ⟨RX4, "refuse", "(III)I"⟩
abbrev cX4_viewText : ByteArray := prog_6_method_76_code
def yX4_viewText : MethodName := ⟨RX4, "viewText", "(I)Ljava/lang/String;"⟩
abbrev cX4_viewFrequency : ByteArray := prog_6_method_77_code
def yX4_viewFrequency : MethodName := ⟨RX4, "viewFrequency", "(III)I"⟩
abbrev cX4_walk : ByteArray := prog_6_method_78_code
def yX4_walk : MethodName := ⟨RX4, "walk", "(I)I"⟩
abbrev cX4_step : ByteArray := prog_6_method_79_code
def yX4_step : MethodName := ⟨RX4, "step", "(I)I"⟩
abbrev cX4_walkOf : ByteArray := prog_6_method_80_code
def yX4_walkOf : MethodName := ⟨RX4, "walkOf", "(I)I"⟩
abbrev cX4_hasStep : ByteArray := prog_6_method_81_code
def yX4_hasStep : MethodName := ⟨RX4, "hasStep", "(I)I"⟩
abbrev cX4_houseOf : ByteArray := prog_6_method_82_code
def yX4_houseOf : MethodName := ⟨RX4, "houseOf", "(I)I"⟩
abbrev cX4_house : ByteArray := prog_6_method_83_code
def yX4_house : MethodName := ⟨RX4, "house", "(I)I"⟩
abbrev cX4_knock : ByteArray := prog_6_method_84_code
def yX4_knock : MethodName := ⟨RX4, "knock", "()I"⟩
abbrev cX4_areSound : ByteArray := prog_6_method_85_code
def yX4_areSound : MethodName := ⟨RX4, "areSound", "()Z"⟩
abbrev cX4_isSound : ByteArray := prog_6_method_86_code
def yX4_isSound : MethodName := ⟨RX4, "isSound", "()Z"⟩
abbrev cX4_add_ : ByteArray := prog_6_method_87_code
def yX4_add_ : MethodName := ⟨RX4, "add", "(JJ)J"⟩
abbrev cX4_codes : ByteArray := prog_6_method_88_code
def yX4_codes : MethodName := ⟨RX4, "codes", "(JLjava/lang/String;)J"⟩
abbrev cX4_digest : ByteArray := prog_6_method_89_code
def yX4_digest : MethodName := ⟨RX4, "digest", "()J"⟩
def RJ5 : String := "java/lang/AbstractStringBuilder"
def TJ5 : u_T := fun k => match k with
  | _ => ("", "", "", false)
def tyJ5 : Nat → FieldType := fun k => match k with
  | _ => .int
abbrev wsJ50 : List Cond := u_ws RJ5 TJ5 0
theorem nmJ5 : ∀ a, a < 0 → ∀ b, b < 0 → a ≠ b → (TJ5 a).2.1 ≠ (TJ5 b).2.1 := by decide +kernel
theorem tyJ5_ok : ∀ k, k < 0 → parseFieldDescriptor (TJ5 k).2.2.1 = some (tyJ5 k) := by decide +kernel
abbrev cJ5_init_d00df : ByteArray := prog_7_method_2_code
def yJ5_init_d00df : MethodName := ⟨RJ5, "<init>", "(I)V"⟩
abbrev cJ5_length_8abf5 : ByteArray := prog_7_method_6_code
def yJ5_length_8abf5 : MethodName := ⟨RJ5, "length", "()I"⟩
abbrev cJ5_ensureCapacityInternal_d00df : ByteArray := prog_7_method_9_code
def yJ5_ensureCapacityInternal_d00df : MethodName := ⟨RJ5, "ensureCapacityInternal", "(I)V"⟩
abbrev cJ5_newCapacity_0f7a4 : ByteArray := prog_7_method_10_code
def yJ5_newCapacity_0f7a4 : MethodName := ⟨RJ5, "newCapacity", "(I)I"⟩
abbrev cJ5_inflate_da8c8 : ByteArray := prog_7_method_11_code
def yJ5_inflate_da8c8 : MethodName := ⟨RJ5, "inflate", "()V"⟩
abbrev cJ5_setLength_d00df : ByteArray := prog_7_method_13_code
def yJ5_setLength_d00df : MethodName := ⟨RJ5, "setLength", "(I)V"⟩
abbrev cJ5_charAt_5068e : ByteArray := prog_7_method_14_code
def yJ5_charAt_5068e : MethodName := ⟨RJ5, "charAt", "(I)C"⟩
abbrev cJ5_append_cf1ce : ByteArray := prog_7_method_22_code
def yJ5_append_cf1ce : MethodName := ⟨RJ5, "append", "(Ljava/lang/String;)Ljava/lang/AbstractStringBuilder;"⟩
abbrev cJ5_appendNull_278bc : ByteArray := prog_7_method_26_code
def yJ5_appendNull_278bc : MethodName := ⟨RJ5, "appendNull", "()Ljava/lang/AbstractStringBuilder;"⟩
abbrev cJ5_append_3fe6f : ByteArray := prog_7_method_31_code
def yJ5_append_3fe6f : MethodName := ⟨RJ5, "append", "(C)Ljava/lang/AbstractStringBuilder;"⟩
abbrev cJ5_append_c97b9 : ByteArray := prog_7_method_32_code
def yJ5_append_c97b9 : MethodName := ⟨RJ5, "append", "(I)Ljava/lang/AbstractStringBuilder;"⟩
abbrev cJ5_getValue_6d5f1 : ByteArray := prog_7_method_64_code
def yJ5_getValue_6d5f1 : MethodName := ⟨RJ5, "getValue", "()[B"⟩
abbrev cJ5_isLatin1_aae02 : ByteArray := prog_7_method_68_code
def yJ5_isLatin1_aae02 : MethodName := ⟨RJ5, "isLatin1", "()Z"⟩
abbrev cJ5_inflateIfNeededFor_a7421 : ByteArray := prog_7_method_71_code
def yJ5_inflateIfNeededFor_a7421 : MethodName := ⟨RJ5, "inflateIfNeededFor", "(Ljava/lang/String;)V"⟩
abbrev cJ5_putStringAt_47b60 : ByteArray := prog_7_method_73_code
def yJ5_putStringAt_47b60 : MethodName := ⟨RJ5, "putStringAt", "(ILjava/lang/String;)V"⟩
def RJx00060 : String := "java/lang/ArrayIndexOutOfBoundsException"
def TJx00060 : u_T := fun k => match k with
  | 0 => ("java/lang/Throwable", "cause", "Ljava/lang/Throwable;", false)
  | 1 => ("java/lang/Throwable", "stackTrace", "[Ljava/lang/StackTraceElement;", false)
  | 2 => ("java/lang/Throwable", "suppressedExceptions", "Ljava/util/List;", false)
  | 3 => ("java/lang/Throwable", "detailMessage", "Ljava/lang/String;", false)
  | 4 => ("java/lang/Throwable", "backtrace", "Ljava/lang/Object;", false)
  | _ => ("java/lang/Throwable", "depth", "I", false)
def tyJx00060 : Nat → FieldType := fun k => match k with
  | 0 => .object "java/lang/Throwable"
  | 1 => .array (.object "java/lang/StackTraceElement")
  | 2 => .object "java/util/List"
  | 3 => .object "java/lang/String"
  | 4 => .object "java/lang/Object"
  | _ => .int
abbrev wsJx000600 : List Cond := u_ws RJx00060 TJx00060 6
theorem nmJx00060 : ∀ a, a < 6 → ∀ b, b < 6 → a ≠ b → (TJx00060 a).2.1 ≠ (TJx00060 b).2.1 := by decide +kernel
theorem tyJx00060_ok : ∀ k, k < 6 → parseFieldDescriptor (TJx00060 k).2.2.1 = some (tyJx00060 k) := by decide +kernel
abbrev cJx00060_init_d00df : ByteArray := prog_8_method_3_code
def yJx00060_init_d00df : MethodName := ⟨RJx00060, "<init>", "(I)V"⟩
def RJx8e188 : String := "java/lang/Cloneable"
def TJx8e188 : u_T := fun k => match k with
  | _ => ("", "", "", false)
def tyJx8e188 : Nat → FieldType := fun k => match k with
  | _ => .int
abbrev wsJx8e1880 : List Cond := u_ws RJx8e188 TJx8e188 0
theorem nmJx8e188 : ∀ a, a < 0 → ∀ b, b < 0 → a ≠ b → (TJx8e188 a).2.1 ≠ (TJx8e188 b).2.1 := by decide +kernel
theorem tyJx8e188_ok : ∀ k, k < 0 → parseFieldDescriptor (TJx8e188 k).2.2.1 = some (tyJx8e188 k) := by decide +kernel
def RJ6 : String := "java/lang/Integer"
def TJ6 : u_T := fun k => match k with
  | _ => ("", "", "", false)
def tyJ6 : Nat → FieldType := fun k => match k with
  | _ => .int
abbrev wsJ60 : List Cond := u_ws RJ6 TJ6 0
theorem nmJ6 : ∀ a, a < 0 → ∀ b, b < 0 → a ≠ b → (TJ6 a).2.1 ≠ (TJ6 b).2.1 := by decide +kernel
theorem tyJ6_ok : ∀ k, k < 0 → parseFieldDescriptor (TJ6 k).2.2.1 = some (tyJ6 k) := by decide +kernel
abbrev cJ6_getChars_ba4f3 : ByteArray := prog_14_method_12_code
def yJ6_getChars_ba4f3 : MethodName := ⟨RJ6, "getChars", "(II[B)I"⟩
abbrev cJ6_stringSize_0f7a4 : ByteArray := prog_14_method_13_code
def yJ6_stringSize_0f7a4 : MethodName := ⟨RJ6, "stringSize", "(I)I"⟩
def RJ9 : String := "java/lang/Math"
def TJ9 : u_T := fun k => match k with
  | _ => ("", "", "", false)
def tyJ9 : Nat → FieldType := fun k => match k with
  | _ => .int
abbrev wsJ90 : List Cond := u_ws RJ9 TJ9 0
theorem nmJ9 : ∀ a, a < 0 → ∀ b, b < 0 → a ≠ b → (TJ9 a).2.1 ≠ (TJ9 b).2.1 := by decide +kernel
theorem tyJ9_ok : ∀ k, k < 0 → parseFieldDescriptor (TJ9 k).2.2.1 = some (tyJ9 k) := by decide +kernel
abbrev cJ9_floorMod_7cf53 : ByteArray := prog_15_method_50_code
def yJ9_floorMod_7cf53 : MethodName := ⟨RJ9, "floorMod", "(II)I"⟩
abbrev cJ9_max_7cf53 : ByteArray := prog_15_method_65_code
def yJ9_max_7cf53 : MethodName := ⟨RJ9, "max", "(II)I"⟩
abbrev cJ9_min_7cf53 : ByteArray := prog_15_method_69_code
def yJ9_min_7cf53 : MethodName := ⟨RJ9, "min", "(II)I"⟩
def RJ0 : String := "java/lang/String"
def TJ0 : u_T := fun k => match k with
  | 0 => ("java/lang/String", "value", "[B", true)
  | 1 => ("java/lang/String", "coder", "B", true)
  | 2 => ("java/lang/String", "hash", "I", false)
  | _ => ("java/lang/String", "hashIsZero", "Z", false)
def tyJ0 : Nat → FieldType := fun k => match k with
  | 0 => .array .byte
  | 1 => .byte
  | 2 => .int
  | _ => .boolean
abbrev wsJ00 : List Cond := u_ws RJ0 TJ0 4
theorem nmJ0 : ∀ a, a < 4 → ∀ b, b < 4 → a ≠ b → (TJ0 a).2.1 ≠ (TJ0 b).2.1 := by decide +kernel
theorem tyJ0_ok : ∀ k, k < 4 → parseFieldDescriptor (TJ0 k).2.2.1 = some (tyJ0 k) := by decide +kernel
abbrev cJ0_init_81219 : ByteArray := prog_17_method_53_code
def yJ0_init_81219 : MethodName := ⟨RJ0, "<init>", "(Ljava/lang/StringBuilder;)V"⟩
abbrev cJ0_length_8abf5 : ByteArray := prog_17_method_54_code
def yJ0_length_8abf5 : MethodName := ⟨RJ0, "length", "()I"⟩
abbrev cJ0_charAt_5068e : ByteArray := prog_17_method_56_code
def yJ0_charAt_5068e : MethodName := ⟨RJ0, "charAt", "(I)C"⟩
abbrev cJ0_getBytes_840e7 : ByteArray := prog_17_method_147_code
def yJ0_getBytes_840e7 : MethodName := ⟨RJ0, "getBytes", "([BIB)V"⟩
abbrev cJ0_init_db425 : ByteArray := prog_17_method_150_code
def yJ0_init_db425 : MethodName := ⟨RJ0, "<init>", "(Ljava/lang/AbstractStringBuilder;Ljava/lang/Void;)V"⟩
abbrev cJ0_coder_7d493 : ByteArray := prog_17_method_152_code
def yJ0_coder_7d493 : MethodName := ⟨RJ0, "coder", "()B"⟩
abbrev cJ0_isLatin1_aae02 : ByteArray := prog_17_method_154_code
def yJ0_isLatin1_aae02 : MethodName := ⟨RJ0, "isLatin1", "()Z"⟩
abbrev cJ0_checkIndex_df160 : ByteArray := prog_17_method_155_code
def yJ0_checkIndex_df160 : MethodName := ⟨RJ0, "checkIndex", "(II)V"⟩
abbrev cJ0_checkBoundsOffCount_cabcc : ByteArray := prog_17_method_157_code
def yJ0_checkBoundsOffCount_cabcc : MethodName := ⟨RJ0, "checkBoundsOffCount", "(III)I"⟩
abbrev cJ0_checkBoundsBeginEnd_23922 : ByteArray := prog_17_method_158_code
def yJ0_checkBoundsBeginEnd_23922 : MethodName := ⟨RJ0, "checkBoundsBeginEnd", "(III)V"⟩
def RJ4 : String := "java/lang/StringBuilder"
def TJ4 : u_T := fun k => match k with
  | 0 => ("java/lang/AbstractStringBuilder", "value", "[B", false)
  | 1 => ("java/lang/AbstractStringBuilder", "coder", "B", false)
  | 2 => ("java/lang/AbstractStringBuilder", "maybeLatin1", "Z", false)
  | _ => ("java/lang/AbstractStringBuilder", "count", "I", false)
def tyJ4 : Nat → FieldType := fun k => match k with
  | 0 => .array .byte
  | 1 => .byte
  | 2 => .boolean
  | _ => .int
abbrev wsJ40 : List Cond := u_ws RJ4 TJ4 4
theorem nmJ4 : ∀ a, a < 4 → ∀ b, b < 4 → a ≠ b → (TJ4 a).2.1 ≠ (TJ4 b).2.1 := by decide +kernel
theorem tyJ4_ok : ∀ k, k < 4 → parseFieldDescriptor (TJ4 k).2.2.1 = some (tyJ4 k) := by decide +kernel
abbrev cJ4_init_da8c8 : ByteArray := prog_18_method_1_code
def yJ4_init_da8c8 : MethodName := ⟨RJ4, "<init>", "()V"⟩
abbrev cJ4_append_15ec4 : ByteArray := prog_18_method_7_code
def yJ4_append_15ec4 : MethodName := ⟨RJ4, "append", "(Ljava/lang/String;)Ljava/lang/StringBuilder;"⟩
abbrev cJ4_append_cf468 : ByteArray := prog_18_method_14_code
def yJ4_append_cf468 : MethodName := ⟨RJ4, "append", "(C)Ljava/lang/StringBuilder;"⟩
abbrev cJ4_append_bf812 : ByteArray := prog_18_method_15_code
def yJ4_append_bf812 : MethodName := ⟨RJ4, "append", "(I)Ljava/lang/StringBuilder;"⟩
abbrev cJ4_toString_0e30d : ByteArray := prog_18_method_42_code
def yJ4_toString_0e30d : MethodName := ⟨RJ4, "toString", "()Ljava/lang/String;"⟩
abbrev cJ4_charAt_5068e : ByteArray := prog_18_method_88_code
def yJ4_charAt_5068e : MethodName := ⟨RJ4, "charAt", "(I)C"⟩
abbrev cJ4_setLength_d00df : ByteArray := prog_18_method_89_code
def yJ4_setLength_d00df : MethodName := ⟨RJ4, "setLength", "(I)V"⟩
abbrev cJ4_length_8abf5 : ByteArray := prog_18_method_93_code
def yJ4_length_8abf5 : MethodName := ⟨RJ4, "length", "()I"⟩
def RJx7c733 : String := "java/lang/StringIndexOutOfBoundsException"
def TJx7c733 : u_T := fun k => match k with
  | 0 => ("java/lang/Throwable", "backtrace", "Ljava/lang/Object;", false)
  | 1 => ("java/lang/Throwable", "detailMessage", "Ljava/lang/String;", false)
  | 2 => ("java/lang/Throwable", "cause", "Ljava/lang/Throwable;", false)
  | 3 => ("java/lang/Throwable", "stackTrace", "[Ljava/lang/StackTraceElement;", false)
  | 4 => ("java/lang/Throwable", "depth", "I", false)
  | _ => ("java/lang/Throwable", "suppressedExceptions", "Ljava/util/List;", false)
def tyJx7c733 : Nat → FieldType := fun k => match k with
  | 0 => .object "java/lang/Object"
  | 1 => .object "java/lang/String"
  | 2 => .object "java/lang/Throwable"
  | 3 => .array (.object "java/lang/StackTraceElement")
  | 4 => .int
  | _ => .object "java/util/List"
abbrev wsJx7c7330 : List Cond := u_ws RJx7c733 TJx7c733 6
theorem nmJx7c733 : ∀ a, a < 6 → ∀ b, b < 6 → a ≠ b → (TJx7c733 a).2.1 ≠ (TJx7c733 b).2.1 := by decide +kernel
theorem tyJx7c733_ok : ∀ k, k < 6 → parseFieldDescriptor (TJx7c733 k).2.2.1 = some (tyJx7c733 k) := by decide +kernel
abbrev cJx7c733_init_d00df : ByteArray := prog_19_method_3_code
def yJx7c733_init_d00df : MethodName := ⟨RJx7c733, "<init>", "(I)V"⟩
def RJ1 : String := "java/lang/StringLatin1"
def TJ1 : u_T := fun k => match k with
  | _ => ("", "", "", false)
def tyJ1 : Nat → FieldType := fun k => match k with
  | _ => .int
abbrev wsJ10 : List Cond := u_ws RJ1 TJ1 0
theorem nmJ1 : ∀ a, a < 0 → ∀ b, b < 0 → a ≠ b → (TJ1 a).2.1 ≠ (TJ1 b).2.1 := by decide +kernel
theorem tyJ1_ok : ∀ k, k < 0 → parseFieldDescriptor (TJ1 k).2.2.1 = some (tyJ1 k) := by decide +kernel
abbrev cJ1_charAt_3b067 : ByteArray := prog_20_method_2_code
def yJ1_charAt_3b067 : MethodName := ⟨RJ1, "charAt", "([BI)C"⟩
abbrev cJ1_canEncode_fc78d : ByteArray := prog_20_method_3_code
def yJ1_canEncode_fc78d : MethodName := ⟨RJ1, "canEncode", "(C)Z"⟩
abbrev cJ1_fillNull_b72d1 : ByteArray := prog_20_method_48_code
def yJ1_fillNull_b72d1 : MethodName := ⟨RJ1, "fillNull", "([BII)V"⟩
abbrev cJ1_inflate_0e8fd : ByteArray := prog_20_method_50_code
def yJ1_inflate_0e8fd : MethodName := ⟨RJ1, "inflate", "([BI[BII)V"⟩
def RJ2 : String := "java/lang/StringUTF16"
def TJ2 : u_T := fun k => match k with
  | _ => ("", "", "", false)
def tyJ2 : Nat → FieldType := fun k => match k with
  | _ => .int
abbrev wsJ20 : List Cond := u_ws RJ2 TJ2 0
theorem nmJ2 : ∀ a, a < 0 → ∀ b, b < 0 → a ≠ b → (TJ2 a).2.1 ≠ (TJ2 b).2.1 := by decide +kernel
theorem tyJ2_ok : ∀ k, k < 0 → parseFieldDescriptor (TJ2 k).2.2.1 = some (tyJ2 k) := by decide +kernel
abbrev cJ2_newBytesFor_77867 : ByteArray := prog_21_method_2_code
def yJ2_newBytesFor_77867 : MethodName := ⟨RJ2, "newBytesFor", "(I)[B"⟩
abbrev cJ2_newBytesLength_0f7a4 : ByteArray := prog_21_method_3_code
def yJ2_newBytesLength_0f7a4 : MethodName := ⟨RJ2, "newBytesLength", "(I)I"⟩
abbrev cJ2_putChar_b72d1 : ByteArray := prog_21_method_4_code
def yJ2_putChar_b72d1 : MethodName := ⟨RJ2, "putChar", "([BII)V"⟩
abbrev cJ2_getChar_3b067 : ByteArray := prog_21_method_5_code
def yJ2_getChar_3b067 : MethodName := ⟨RJ2, "getChar", "([BI)C"⟩
abbrev cJ2_length_9d52b : ByteArray := prog_21_method_6_code
def yJ2_length_9d52b : MethodName := ⟨RJ2, "length", "([B)I"⟩
abbrev cJ2_coderFromArrayLen_85cad : ByteArray := prog_21_method_15_code
def yJ2_coderFromArrayLen_85cad : MethodName := ⟨RJ2, "coderFromArrayLen", "([BI)B"⟩
abbrev cJ2_compress_39247 : ByteArray := prog_21_method_17_code
def yJ2_compress_39247 : MethodName := ⟨RJ2, "compress", "([BII)[B"⟩
abbrev cJ2_compress_5af95 : ByteArray := prog_21_method_22_code
def yJ2_compress_5af95 : MethodName := ⟨RJ2, "compress", "([BI[BII)I"⟩
abbrev cJ2_fillNull_b72d1 : ByteArray := prog_21_method_70_code
def yJ2_fillNull_b72d1 : MethodName := ⟨RJ2, "fillNull", "([BII)V"⟩
abbrev cJ2_putCharSB_b72d1 : ByteArray := prog_21_method_71_code
def yJ2_putCharSB_b72d1 : MethodName := ⟨RJ2, "putCharSB", "([BII)V"⟩
abbrev cJ2_getChars_46870 : ByteArray := prog_21_method_77_code
def yJ2_getChars_46870 : MethodName := ⟨RJ2, "getChars", "(III[B)I"⟩
abbrev cJ2_putCharsAt_cd4e5 : ByteArray := prog_21_method_81_code
def yJ2_putCharsAt_cd4e5 : MethodName := ⟨RJ2, "putCharsAt", "([BICCCC)I"⟩
abbrev cJ2_charAt_3b067 : ByteArray := prog_21_method_83_code
def yJ2_charAt_3b067 : MethodName := ⟨RJ2, "charAt", "([BI)C"⟩
abbrev cJ2_inflate_0e8fd : ByteArray := prog_21_method_86_code
def yJ2_inflate_0e8fd : MethodName := ⟨RJ2, "inflate", "([BI[BII)V"⟩
abbrev cJ2_getChars_ba4f3 : ByteArray := prog_21_method_89_code
def yJ2_getChars_ba4f3 : MethodName := ⟨RJ2, "getChars", "(II[B)I"⟩
abbrev cJ2_checkIndex_2214a : ByteArray := prog_21_method_91_code
def yJ2_checkIndex_2214a : MethodName := ⟨RJ2, "checkIndex", "(I[B)V"⟩
abbrev cJ2_checkBoundsBeginEnd_d044e : ByteArray := prog_21_method_93_code
def yJ2_checkBoundsBeginEnd_d044e : MethodName := ⟨RJ2, "checkBoundsBeginEnd", "(II[B)V"⟩
abbrev cJ2_checkBoundsOffCount_d044e : ByteArray := prog_21_method_94_code
def yJ2_checkBoundsOffCount_d044e : MethodName := ⟨RJ2, "checkBoundsOffCount", "(II[B)V"⟩
def RJ10 : String := "java/lang/System"
def TJ10 : u_T := fun k => match k with
  | _ => ("", "", "", false)
def tyJ10 : Nat → FieldType := fun k => match k with
  | _ => .int
abbrev wsJ100 : List Cond := u_ws RJ10 TJ10 0
theorem nmJ10 : ∀ a, a < 0 → ∀ b, b < 0 → a ≠ b → (TJ10 a).2.1 ≠ (TJ10 b).2.1 := by decide +kernel
theorem tyJ10_ok : ∀ k, k < 0 → parseFieldDescriptor (TJ10 k).2.2.1 = some (tyJ10 k) := by decide +kernel
def RJ7 : String := "java/util/Arrays"
def TJ7 : u_T := fun k => match k with
  | _ => ("", "", "", false)
def tyJ7 : Nat → FieldType := fun k => match k with
  | _ => .int
abbrev wsJ70 : List Cond := u_ws RJ7 TJ7 0
theorem nmJ7 : ∀ a, a < 0 → ∀ b, b < 0 → a ≠ b → (TJ7 a).2.1 ≠ (TJ7 b).2.1 := by decide +kernel
theorem tyJ7_ok : ∀ k, k < 0 → parseFieldDescriptor (TJ7 k).2.2.1 = some (tyJ7 k) := by decide +kernel
abbrev cJ7_rangeCheck_23922 : ByteArray := prog_24_method_30_code
def yJ7_rangeCheck_23922 : MethodName := ⟨RJ7, "rangeCheck", "(III)V"⟩
abbrev cJ7_fill_eb02e : ByteArray := prog_24_method_110_code
def yJ7_fill_eb02e : MethodName := ⟨RJ7, "fill", "([BIIB)V"⟩
abbrev cJ7_copyOf_9075b : ByteArray := prog_24_method_121_code
def yJ7_copyOf_9075b : MethodName := ⟨RJ7, "copyOf", "([BI)[B"⟩
abbrev cJ7_checkLength_df160 : ByteArray := prog_24_method_131_code
def yJ7_checkLength_df160 : MethodName := ⟨RJ7, "checkLength", "(II)V"⟩
abbrev cJ7_copyOfRange_39247 : ByteArray := prog_24_method_132_code
def yJ7_copyOfRange_39247 : MethodName := ⟨RJ7, "copyOfRange", "([BII)[B"⟩
abbrev cJ7_copyOfRangeByte_39247 : ByteArray := prog_24_method_133_code
def yJ7_copyOfRangeByte_39247 : MethodName := ⟨RJ7, "copyOfRangeByte", "([BII)[B"⟩
def RJ8 : String := "jdk/internal/util/ArraysSupport"
def TJ8 : u_T := fun k => match k with
  | _ => ("", "", "", false)
def tyJ8 : Nat → FieldType := fun k => match k with
  | _ => .int
abbrev wsJ80 : List Cond := u_ws RJ8 TJ8 0
theorem nmJ8 : ∀ a, a < 0 → ∀ b, b < 0 → a ≠ b → (TJ8 a).2.1 ≠ (TJ8 b).2.1 := by decide +kernel
theorem tyJ8_ok : ∀ k, k < 0 → parseFieldDescriptor (TJ8 k).2.2.1 = some (tyJ8 k) := by decide +kernel
abbrev cJ8_newLength_cabcc : ByteArray := prog_25_method_27_code
def yJ8_newLength_cabcc : MethodName := ⟨RJ8, "newLength", "(III)I"⟩
abbrev cJ8_hugeLength_7cf53 : ByteArray := prog_25_method_28_code
def yJ8_hugeLength_7cf53 : MethodName := ⟨RJ8, "hugeLength", "(II)I"⟩
def RJ3 : String := "jdk/internal/util/Preconditions"
def TJ3 : u_T := fun k => match k with
  | _ => ("", "", "", false)
def tyJ3 : Nat → FieldType := fun k => match k with
  | _ => .int
abbrev wsJ30 : List Cond := u_ws RJ3 TJ3 0
theorem nmJ3 : ∀ a, a < 0 → ∀ b, b < 0 → a ≠ b → (TJ3 a).2.1 ≠ (TJ3 b).2.1 := by decide +kernel
theorem tyJ3_ok : ∀ k, k < 0 → parseFieldDescriptor (TJ3 k).2.2.1 = some (tyJ3 k) := by decide +kernel
abbrev cJ3_checkIndex_8e157 : ByteArray := prog_26_method_11_code
def yJ3_checkIndex_8e157 : MethodName := ⟨RJ3, "checkIndex", "(IILjava/util/function/BiFunction;)I"⟩
abbrev cJ3_checkFromToIndex_8c36e : ByteArray := prog_26_method_12_code
def yJ3_checkFromToIndex_8c36e : MethodName := ⟨RJ3, "checkFromToIndex", "(IIILjava/util/function/BiFunction;)I"⟩
abbrev cJ3_checkFromIndexSize_8c36e : ByteArray := prog_26_method_13_code
def yJ3_checkFromIndexSize_8c36e : MethodName := ⟨RJ3, "checkFromIndexSize", "(IIILjava/util/function/BiFunction;)I"⟩
def RL : String := "RowtricksLaw"
abbrev cL_add : ByteArray := method_2_code
def yL_add : MethodName := ⟨RL, "add", "(LRowtricks;IIILRowtricksLaw$Out;)I"⟩
abbrev cL_insert : ByteArray := method_3_code
def yL_insert : MethodName := ⟨RL, "insert", "(LRowtricks;IIIILRowtricksLaw$Out;)I"⟩
abbrev cL_remove : ByteArray := method_4_code
def yL_remove : MethodName := ⟨RL, "remove", "(LRowtricks;IILRowtricksLaw$Out;)I"⟩
abbrev cL_set : ByteArray := method_5_code
def yL_set : MethodName := ⟨RL, "set", "(LRowtricks;IIIILRowtricksLaw$Out;)I"⟩
abbrev cL_clear : ByteArray := method_6_code
def yL_clear : MethodName := ⟨RL, "clear", "(LRowtricks;ILRowtricksLaw$Out;)I"⟩
abbrev cL_addTwo : ByteArray := method_7_code
def yL_addTwo : MethodName := ⟨RL, "addTwo", "(LRowtricks;IIIIILRowtricksLaw$Out;)I"⟩
abbrev cL_addCopies : ByteArray := method_8_code
def yL_addCopies : MethodName := ⟨RL, "addCopies", "(LRowtricks;IIIILRowtricksLaw$Out;)I"⟩
abbrev cL_append : ByteArray := method_9_code
def yL_append : MethodName := ⟨RL, "append", "(LRowtricks;IILRowtricksLaw$Out;)I"⟩
abbrev cL_copy : ByteArray := method_10_code
def yL_copy : MethodName := ⟨RL, "copy", "(LRowtricks;IILRowtricksLaw$Out;)I"⟩
abbrev cL_fill : ByteArray := method_11_code
def yL_fill : MethodName := ⟨RL, "fill", "(LRowtricks;IIILRowtricksLaw$Out;)I"⟩
abbrev cL_replace : ByteArray := method_12_code
def yL_replace : MethodName := ⟨RL, "replace", "(LRowtricks;IIIIILRowtricksLaw$Out;)I"⟩
abbrev cL_reverse : ByteArray := method_13_code
def yL_reverse : MethodName := ⟨RL, "reverse", "(LRowtricks;ILRowtricksLaw$Out;)I"⟩
abbrev cL_rotate : ByteArray := method_14_code
def yL_rotate : MethodName := ⟨RL, "rotate", "(LRowtricks;IILRowtricksLaw$Out;)I"⟩
abbrev cL_swap : ByteArray := method_15_code
def yL_swap : MethodName := ⟨RL, "swap", "(LRowtricks;IIILRowtricksLaw$Out;)I"⟩
abbrev cL_sort : ByteArray := method_16_code
def yL_sort : MethodName := ⟨RL, "sort", "(LRowtricks;IZLRowtricksLaw$Out;)I"⟩
abbrev cL_size : ByteArray := method_17_code
def yL_size : MethodName := ⟨RL, "size", "(LRowtricks;ILRowtricksLaw$Out;)I"⟩
abbrev cL_text : ByteArray := method_18_code
def yL_text : MethodName := ⟨RL, "text", "(LRowtricks;ILRowtricksLaw$Out;)I"⟩
abbrev cL_at : ByteArray := method_19_code
def yL_at : MethodName := ⟨RL, "at", "(LRowtricks;IIZLRowtricksLaw$Out;)I"⟩
abbrev cL_frequency : ByteArray := method_20_code
def yL_frequency : MethodName := ⟨RL, "frequency", "(LRowtricks;IIILRowtricksLaw$Out;)I"⟩
abbrev cL_indexOf : ByteArray := method_21_code
def yL_indexOf : MethodName := ⟨RL, "indexOf", "(LRowtricks;IIIZLRowtricksLaw$Out;)I"⟩
abbrev cL_disjoint : ByteArray := method_22_code
def yL_disjoint : MethodName := ⟨RL, "disjoint", "(LRowtricks;IILRowtricksLaw$Out;)I"⟩
abbrev cL_isSame : ByteArray := method_23_code
def yL_isSame : MethodName := ⟨RL, "isSame", "(LRowtricks;IILRowtricksLaw$Out;)I"⟩
abbrev cL_indexOfRow : ByteArray := method_24_code
def yL_indexOfRow : MethodName := ⟨RL, "indexOfRow", "(LRowtricks;IILRowtricksLaw$Out;)I"⟩
abbrev cL_most : ByteArray := method_25_code
def yL_most : MethodName := ⟨RL, "most", "(LRowtricks;IZLRowtricksLaw$Out;)I"⟩
abbrev cL_mostTurned : ByteArray := method_26_code
def yL_mostTurned : MethodName := ⟨RL, "mostTurned", "(LRowtricks;IZLRowtricksLaw$Out;)I"⟩
abbrev cL_search : ByteArray := method_27_code
def yL_search : MethodName := ⟨RL, "search", "(LRowtricks;IILRowtricksLaw$Out;)I"⟩
abbrev cL_state : ByteArray := method_28_code
def yL_state : MethodName := ⟨RL, "state", "(LRowtricks;ILRowtricksLaw$Out;)I"⟩
abbrev cL_compare : ByteArray := method_29_code
def yL_compare : MethodName := ⟨RL, "compare", "(LRowtricks;IILRowtricksLaw$Out;)I"⟩
abbrev cL_copiesIn : ByteArray := method_30_code
def yL_copiesIn : MethodName := ⟨RL, "copiesIn", "(LRowtricks;IIIILRowtricksLaw$Out;)I"⟩
abbrev cL_part : ByteArray := method_31_code
def yL_part : MethodName := ⟨RL, "part", "(LRowtricks;IIIILRowtricksLaw$Out;)I"⟩
abbrev cL_inner : ByteArray := method_32_code
def yL_inner : MethodName := ⟨RL, "inner", "(LRowtricks;IIIILRowtricksLaw$Out;)I"⟩
abbrev cL_drop : ByteArray := method_33_code
def yL_drop : MethodName := ⟨RL, "drop", "(LRowtricks;ILRowtricksLaw$Out;)I"⟩
abbrev cL_cut : ByteArray := method_34_code
def yL_cut : MethodName := ⟨RL, "cut", "(LRowtricks;ILRowtricksLaw$Out;)I"⟩
abbrev cL_setIn : ByteArray := method_35_code
def yL_setIn : MethodName := ⟨RL, "setIn", "(LRowtricks;IIIILRowtricksLaw$Out;)I"⟩
abbrev cL_reverseIn : ByteArray := method_36_code
def yL_reverseIn : MethodName := ⟨RL, "reverseIn", "(LRowtricks;ILRowtricksLaw$Out;)I"⟩
abbrev cL_rotateIn : ByteArray := method_37_code
def yL_rotateIn : MethodName := ⟨RL, "rotateIn", "(LRowtricks;IILRowtricksLaw$Out;)I"⟩
abbrev cL_swapIn : ByteArray := method_38_code
def yL_swapIn : MethodName := ⟨RL, "swapIn", "(LRowtricks;IIILRowtricksLaw$Out;)I"⟩
abbrev cL_sortIn : ByteArray := method_39_code
def yL_sortIn : MethodName := ⟨RL, "sortIn", "(LRowtricks;ILRowtricksLaw$Out;)I"⟩
abbrev cL_textIn : ByteArray := method_40_code
def yL_textIn : MethodName := ⟨RL, "textIn", "(LRowtricks;ILRowtricksLaw$Out;)I"⟩
abbrev cL_sizeIn : ByteArray := method_41_code
def yL_sizeIn : MethodName := ⟨RL, "sizeIn", "(LRowtricks;ILRowtricksLaw$Out;)I"⟩
abbrev cL_indexOfIn : ByteArray := method_42_code
def yL_indexOfIn : MethodName := ⟨RL, "indexOfIn", "(LRowtricks;IIZLRowtricksLaw$Out;)I"⟩
abbrev cL_refuse : ByteArray := method_43_code
def yL_refuse : MethodName := ⟨RL, "refuse", "(LRowtricks;IIILRowtricksLaw$Out;)I"⟩
abbrev cL_viewText : ByteArray := method_44_code
def yL_viewText : MethodName := ⟨RL, "viewText", "(LRowtricks;ILRowtricksLaw$Out;)I"⟩
abbrev cL_viewFrequency : ByteArray := method_45_code
def yL_viewFrequency : MethodName := ⟨RL, "viewFrequency", "(LRowtricks;IIILRowtricksLaw$Out;)I"⟩
abbrev cL_walk : ByteArray := method_46_code
def yL_walk : MethodName := ⟨RL, "walk", "(LRowtricks;ILRowtricksLaw$Out;)I"⟩
abbrev cL_step : ByteArray := method_47_code
def yL_step : MethodName := ⟨RL, "step", "(LRowtricks;ILRowtricksLaw$Out;)I"⟩
abbrev cL_hasStep : ByteArray := method_48_code
def yL_hasStep : MethodName := ⟨RL, "hasStep", "(LRowtricks;ILRowtricksLaw$Out;)I"⟩
abbrev cL_house : ByteArray := method_49_code
def yL_house : MethodName := ⟨RL, "house", "(LRowtricks;ILRowtricksLaw$Out;)I"⟩
abbrev cL_law : ByteArray := code
def yL_law : MethodName := ⟨RL, "law", "([I)Z"⟩
theorem dX0_init_0 : decode cX0_init 0 = .ok (.aload_n 0, 1) := by decide +kernel
theorem dX0_init_1 : decode cX0_init 1 = .ok (.invokespecial 1, 3) := by decide +kernel
theorem dX0_init_4 : decode cX0_init 4 = .ok (.aload_n 0, 1) := by decide +kernel
theorem dX0_init_5 : decode cX0_init 5 = .ok (.aconst_null, 1) := by decide +kernel
theorem dX0_init_6 : decode cX0_init 6 = .ok (.putfield 7, 3) := by decide +kernel
theorem dX0_init_9 : decode cX0_init 9 = .ok (.aload_n 0, 1) := by decide +kernel
theorem dX0_init_10 : decode cX0_init 10 = .ok (.aconst_null, 1) := by decide +kernel
theorem dX0_init_11 : decode cX0_init 11 = .ok (.putfield 13, 3) := by decide +kernel
theorem dX0_init_14 : decode cX0_init 14 = .ok (.aload_n 0, 1) := by decide +kernel
theorem dX0_init_15 : decode cX0_init 15 = .ok (.iconst 0, 1) := by decide +kernel
theorem dX0_init_16 : decode cX0_init 16 = .ok (.putfield 17, 3) := by decide +kernel
theorem dX0_init_19 : decode cX0_init 19 = .ok (.aload_n 0, 1) := by decide +kernel
theorem dX0_init_20 : decode cX0_init 20 = .ok (.iconst 0, 1) := by decide +kernel
theorem dX0_init_21 : decode cX0_init 21 = .ok (.putfield 21, 3) := by decide +kernel
theorem dX0_init_24 : decode cX0_init 24 = .ok (.return_, 1) := by decide +kernel
theorem dX0_lay_0 : decode cX0_lay 0 = .ok (.aload_n 0, 1) := by decide +kernel
theorem dX0_lay_1 : decode cX0_lay 1 = .ok (.aload_n 1, 1) := by decide +kernel
theorem dX0_lay_2 : decode cX0_lay 2 = .ok (.putfield 7, 3) := by decide +kernel
theorem dX0_lay_5 : decode cX0_lay 5 = .ok (.aload_n 0, 1) := by decide +kernel
theorem dX0_lay_6 : decode cX0_lay 6 = .ok (.aload_n 2, 1) := by decide +kernel
theorem dX0_lay_7 : decode cX0_lay 7 = .ok (.putfield 13, 3) := by decide +kernel
theorem dX0_lay_10 : decode cX0_lay 10 = .ok (.aload_n 0, 1) := by decide +kernel
theorem dX0_lay_11 : decode cX0_lay 11 = .ok (.iload_n 3, 1) := by decide +kernel
theorem dX0_lay_12 : decode cX0_lay 12 = .ok (.putfield 17, 3) := by decide +kernel
theorem dX0_lay_15 : decode cX0_lay 15 = .ok (.aload_n 0, 1) := by decide +kernel
theorem dX0_lay_16 : decode cX0_lay 16 = .ok (.iload 4, 2) := by decide +kernel
theorem dX0_lay_18 : decode cX0_lay 18 = .ok (.putfield 21, 3) := by decide +kernel
theorem dX0_lay_21 : decode cX0_lay 21 = .ok (.return_, 1) := by decide +kernel
theorem dX0_isThere_0 : decode cX0_isThere 0 = .ok (.aload_n 0, 1) := by decide +kernel
theorem dX0_isThere_1 : decode cX0_isThere 1 = .ok (.getfield 7, 3) := by decide +kernel
theorem dX0_isThere_4 : decode cX0_isThere 4 = .ok (.ifnull 7, 3) := by decide +kernel
theorem dX0_isThere_7 : decode cX0_isThere 7 = .ok (.iconst 1, 1) := by decide +kernel
theorem dX0_isThere_8 : decode cX0_isThere 8 = .ok (.goto 4, 3) := by decide +kernel
theorem dX0_isThere_12 : decode cX0_isThere 12 = .ok (.ireturn, 1) := by decide +kernel
theorem dX0_many_0 : decode cX0_many 0 = .ok (.aload_n 0, 1) := by decide +kernel
theorem dX0_many_1 : decode cX0_many 1 = .ok (.getfield 21, 3) := by decide +kernel
theorem dX0_many_4 : decode cX0_many 4 = .ok (.aload_n 0, 1) := by decide +kernel
theorem dX0_many_5 : decode cX0_many 5 = .ok (.getfield 17, 3) := by decide +kernel
theorem dX0_many_8 : decode cX0_many 8 = .ok (.isub, 1) := by decide +kernel
theorem dX0_many_9 : decode cX0_many 9 = .ok (.ireturn, 1) := by decide +kernel
theorem dX0_isWithin_0 : decode cX0_isWithin 0 = .ok (.aload_n 0, 1) := by decide +kernel
theorem dX0_isWithin_1 : decode cX0_isWithin 1 = .ok (.astore_n 2, 1) := by decide +kernel
theorem dX0_isWithin_2 : decode cX0_isWithin 2 = .ok (.aload_n 2, 1) := by decide +kernel
theorem dX0_isWithin_3 : decode cX0_isWithin 3 = .ok (.ifnull 18, 3) := by decide +kernel
theorem dX0_isWithin_6 : decode cX0_isWithin 6 = .ok (.aload_n 2, 1) := by decide +kernel
theorem dX0_isWithin_7 : decode cX0_isWithin 7 = .ok (.aload_n 1, 1) := by decide +kernel
theorem dX0_isWithin_8 : decode cX0_isWithin 8 = .ok (.if_acmp .ne 5, 3) := by decide +kernel
theorem dX0_isWithin_11 : decode cX0_isWithin 11 = .ok (.iconst 1, 1) := by decide +kernel
theorem dX0_isWithin_12 : decode cX0_isWithin 12 = .ok (.ireturn, 1) := by decide +kernel
theorem dX0_isWithin_13 : decode cX0_isWithin 13 = .ok (.aload_n 2, 1) := by decide +kernel
theorem dX0_isWithin_14 : decode cX0_isWithin 14 = .ok (.getfield 13, 3) := by decide +kernel
theorem dX0_isWithin_17 : decode cX0_isWithin 17 = .ok (.astore_n 2, 1) := by decide +kernel
theorem dX0_isWithin_18 : decode cX0_isWithin 18 = .ok (.goto (-16), 3) := by decide +kernel
theorem dX0_isWithin_21 : decode cX0_isWithin 21 = .ok (.iconst 0, 1) := by decide +kernel
theorem dX0_isWithin_22 : decode cX0_isWithin 22 = .ok (.ireturn, 1) := by decide +kernel
theorem dX1_init_0 : decode cX1_init 0 = .ok (.aload_n 0, 1) := by decide +kernel
theorem dX1_init_1 : decode cX1_init 1 = .ok (.invokespecial 3, 3) := by decide +kernel
theorem dX1_init_4 : decode cX1_init 4 = .ok (.aload_n 0, 1) := by decide +kernel
theorem dX1_init_5 : decode cX1_init 5 = .ok (.bipush 31, 2) := by decide +kernel
theorem dX1_init_7 : decode cX1_init 7 = .ok (.newarray .int, 2) := by decide +kernel
theorem dX1_init_9 : decode cX1_init 9 = .ok (.putfield 9, 3) := by decide +kernel
theorem dX1_init_12 : decode cX1_init 12 = .ok (.aload_n 0, 1) := by decide +kernel
theorem dX1_init_13 : decode cX1_init 13 = .ok (.iconst 0, 1) := by decide +kernel
theorem dX1_init_14 : decode cX1_init 14 = .ok (.putfield 15, 3) := by decide +kernel
theorem dX1_init_17 : decode cX1_init 17 = .ok (.aload_n 0, 1) := by decide +kernel
theorem dX1_init_18 : decode cX1_init 18 = .ok (.iconst 0, 1) := by decide +kernel
theorem dX1_init_19 : decode cX1_init 19 = .ok (.putfield 19, 3) := by decide +kernel
theorem dX1_init_22 : decode cX1_init 22 = .ok (.aload_n 0, 1) := by decide +kernel
theorem dX1_init_23 : decode cX1_init 23 = .ok (.iconst (-1), 1) := by decide +kernel
theorem dX1_init_24 : decode cX1_init 24 = .ok (.putfield 22, 3) := by decide +kernel
theorem dX1_init_27 : decode cX1_init 27 = .ok (.return_, 1) := by decide +kernel
theorem dX1_cardAt_0 : decode cX1_cardAt 0 = .ok (.iload_n 1, 1) := by decide +kernel
theorem dX1_cardAt_1 : decode cX1_cardAt 1 = .ok (.ifCond .lt 21, 3) := by decide +kernel
theorem dX1_cardAt_4 : decode cX1_cardAt 4 = .ok (.iload_n 1, 1) := by decide +kernel
theorem dX1_cardAt_5 : decode cX1_cardAt 5 = .ok (.aload_n 0, 1) := by decide +kernel
theorem dX1_cardAt_6 : decode cX1_cardAt 6 = .ok (.getfield 9, 3) := by decide +kernel
theorem dX1_cardAt_9 : decode cX1_cardAt 9 = .ok (.arraylength, 1) := by decide +kernel
theorem dX1_cardAt_10 : decode cX1_cardAt 10 = .ok (.if_icmp .ge 12, 3) := by decide +kernel
theorem dX1_cardAt_13 : decode cX1_cardAt 13 = .ok (.aload_n 0, 1) := by decide +kernel
theorem dX1_cardAt_14 : decode cX1_cardAt 14 = .ok (.getfield 9, 3) := by decide +kernel
theorem dX1_cardAt_17 : decode cX1_cardAt 17 = .ok (.iload_n 1, 1) := by decide +kernel
theorem dX1_cardAt_18 : decode cX1_cardAt 18 = .ok (.iaload, 1) := by decide +kernel
theorem dX1_cardAt_19 : decode cX1_cardAt 19 = .ok (.goto 4, 3) := by decide +kernel
theorem dX1_cardAt_23 : decode cX1_cardAt 23 = .ok (.ireturn, 1) := by decide +kernel
theorem dX1_valueAt_0 : decode cX1_valueAt 0 = .ok (.aload_n 0, 1) := by decide +kernel
theorem dX1_valueAt_1 : decode cX1_valueAt 1 = .ok (.iload_n 1, 1) := by decide +kernel
theorem dX1_valueAt_2 : decode cX1_valueAt 2 = .ok (.invokevirtual 25, 3) := by decide +kernel
theorem dX1_valueAt_5 : decode cX1_valueAt 5 = .ok (.bipush 10, 2) := by decide +kernel
theorem dX1_valueAt_7 : decode cX1_valueAt 7 = .ok (.idiv, 1) := by decide +kernel
theorem dX1_valueAt_8 : decode cX1_valueAt 8 = .ok (.ireturn, 1) := by decide +kernel
theorem dX1_markAt_0 : decode cX1_markAt 0 = .ok (.aload_n 0, 1) := by decide +kernel
theorem dX1_markAt_1 : decode cX1_markAt 1 = .ok (.iload_n 1, 1) := by decide +kernel
theorem dX1_markAt_2 : decode cX1_markAt 2 = .ok (.invokevirtual 25, 3) := by decide +kernel
theorem dX1_markAt_5 : decode cX1_markAt 5 = .ok (.bipush 10, 2) := by decide +kernel
theorem dX1_markAt_7 : decode cX1_markAt 7 = .ok (.irem, 1) := by decide +kernel
theorem dX1_markAt_8 : decode cX1_markAt 8 = .ok (.ireturn, 1) := by decide +kernel
theorem dX1_put_0 : decode cX1_put 0 = .ok (.iload_n 1, 1) := by decide +kernel
theorem dX1_put_1 : decode cX1_put 1 = .ok (.ifCond .lt 19, 3) := by decide +kernel
theorem dX1_put_4 : decode cX1_put 4 = .ok (.iload_n 1, 1) := by decide +kernel
theorem dX1_put_5 : decode cX1_put 5 = .ok (.aload_n 0, 1) := by decide +kernel
theorem dX1_put_6 : decode cX1_put 6 = .ok (.getfield 9, 3) := by decide +kernel
theorem dX1_put_9 : decode cX1_put 9 = .ok (.arraylength, 1) := by decide +kernel
theorem dX1_put_10 : decode cX1_put 10 = .ok (.if_icmp .ge 10, 3) := by decide +kernel
theorem dX1_put_13 : decode cX1_put 13 = .ok (.aload_n 0, 1) := by decide +kernel
theorem dX1_put_14 : decode cX1_put 14 = .ok (.getfield 9, 3) := by decide +kernel
theorem dX1_put_17 : decode cX1_put 17 = .ok (.iload_n 1, 1) := by decide +kernel
theorem dX1_put_18 : decode cX1_put 18 = .ok (.iload_n 2, 1) := by decide +kernel
theorem dX1_put_19 : decode cX1_put 19 = .ok (.iastore, 1) := by decide +kernel
theorem dX1_put_20 : decode cX1_put 20 = .ok (.return_, 1) := by decide +kernel
theorem dX1_putBehind_0 : decode cX1_putBehind 0 = .ok (.aload_n 0, 1) := by decide +kernel
theorem dX1_putBehind_1 : decode cX1_putBehind 1 = .ok (.aload_n 0, 1) := by decide +kernel
theorem dX1_putBehind_2 : decode cX1_putBehind 2 = .ok (.getfield 15, 3) := by decide +kernel
theorem dX1_putBehind_5 : decode cX1_putBehind 5 = .ok (.iload_n 1, 1) := by decide +kernel
theorem dX1_putBehind_6 : decode cX1_putBehind 6 = .ok (.invokevirtual 32, 3) := by decide +kernel
theorem dX1_putBehind_9 : decode cX1_putBehind 9 = .ok (.aload_n 0, 1) := by decide +kernel
theorem dX1_putBehind_10 : decode cX1_putBehind 10 = .ok (.dup, 1) := by decide +kernel
theorem dX1_putBehind_11 : decode cX1_putBehind 11 = .ok (.getfield 15, 3) := by decide +kernel
theorem dX1_putBehind_14 : decode cX1_putBehind 14 = .ok (.iconst 1, 1) := by decide +kernel
theorem dX1_putBehind_15 : decode cX1_putBehind 15 = .ok (.iadd, 1) := by decide +kernel
theorem dX1_putBehind_16 : decode cX1_putBehind 16 = .ok (.putfield 15, 3) := by decide +kernel
theorem dX1_putBehind_19 : decode cX1_putBehind 19 = .ok (.return_, 1) := by decide +kernel
theorem dX1_putCopiesBehind_0 : decode cX1_putCopiesBehind 0 = .ok (.iconst 0, 1) := by decide +kernel
theorem dX1_putCopiesBehind_1 : decode cX1_putCopiesBehind 1 = .ok (.istore_n 3, 1) := by decide +kernel
theorem dX1_putCopiesBehind_2 : decode cX1_putCopiesBehind 2 = .ok (.iload_n 3, 1) := by decide +kernel
theorem dX1_putCopiesBehind_3 : decode cX1_putCopiesBehind 3 = .ok (.iload_n 1, 1) := by decide +kernel
theorem dX1_putCopiesBehind_4 : decode cX1_putCopiesBehind 4 = .ok (.if_icmp .ge 14, 3) := by decide +kernel
theorem dX1_putCopiesBehind_7 : decode cX1_putCopiesBehind 7 = .ok (.aload_n 0, 1) := by decide +kernel
theorem dX1_putCopiesBehind_8 : decode cX1_putCopiesBehind 8 = .ok (.iload_n 2, 1) := by decide +kernel
theorem dX1_putCopiesBehind_9 : decode cX1_putCopiesBehind 9 = .ok (.invokevirtual 36, 3) := by decide +kernel
theorem dX1_putCopiesBehind_12 : decode cX1_putCopiesBehind 12 = .ok (.iinc 3 1, 3) := by decide +kernel
theorem dX1_putCopiesBehind_15 : decode cX1_putCopiesBehind 15 = .ok (.goto (-13), 3) := by decide +kernel
theorem dX1_putCopiesBehind_18 : decode cX1_putCopiesBehind 18 = .ok (.return_, 1) := by decide +kernel
theorem dX1_putAllBehind_0 : decode cX1_putAllBehind 0 = .ok (.aload_n 1, 1) := by decide +kernel
theorem dX1_putAllBehind_1 : decode cX1_putAllBehind 1 = .ok (.getfield 15, 3) := by decide +kernel
theorem dX1_putAllBehind_4 : decode cX1_putAllBehind 4 = .ok (.istore_n 2, 1) := by decide +kernel
theorem dX1_putAllBehind_5 : decode cX1_putAllBehind 5 = .ok (.iconst 0, 1) := by decide +kernel
theorem dX1_putAllBehind_6 : decode cX1_putAllBehind 6 = .ok (.istore_n 3, 1) := by decide +kernel
theorem dX1_putAllBehind_7 : decode cX1_putAllBehind 7 = .ok (.iload_n 3, 1) := by decide +kernel
theorem dX1_putAllBehind_8 : decode cX1_putAllBehind 8 = .ok (.iload_n 2, 1) := by decide +kernel
theorem dX1_putAllBehind_9 : decode cX1_putAllBehind 9 = .ok (.if_icmp .ge 18, 3) := by decide +kernel
theorem dX1_putAllBehind_12 : decode cX1_putAllBehind 12 = .ok (.aload_n 0, 1) := by decide +kernel
theorem dX1_putAllBehind_13 : decode cX1_putAllBehind 13 = .ok (.aload_n 1, 1) := by decide +kernel
theorem dX1_putAllBehind_14 : decode cX1_putAllBehind 14 = .ok (.iload_n 3, 1) := by decide +kernel
theorem dX1_putAllBehind_15 : decode cX1_putAllBehind 15 = .ok (.invokevirtual 25, 3) := by decide +kernel
theorem dX1_putAllBehind_18 : decode cX1_putAllBehind 18 = .ok (.invokevirtual 36, 3) := by decide +kernel
theorem dX1_putAllBehind_21 : decode cX1_putAllBehind 21 = .ok (.iinc 3 1, 3) := by decide +kernel
theorem dX1_putAllBehind_24 : decode cX1_putAllBehind 24 = .ok (.goto (-17), 3) := by decide +kernel
theorem dX1_putAllBehind_27 : decode cX1_putAllBehind 27 = .ok (.return_, 1) := by decide +kernel
theorem dX1_becomeLike_0 : decode cX1_becomeLike 0 = .ok (.aload_n 0, 1) := by decide +kernel
theorem dX1_becomeLike_1 : decode cX1_becomeLike 1 = .ok (.iconst 0, 1) := by decide +kernel
theorem dX1_becomeLike_2 : decode cX1_becomeLike 2 = .ok (.putfield 15, 3) := by decide +kernel
theorem dX1_becomeLike_5 : decode cX1_becomeLike 5 = .ok (.aload_n 0, 1) := by decide +kernel
theorem dX1_becomeLike_6 : decode cX1_becomeLike 6 = .ok (.aload_n 1, 1) := by decide +kernel
theorem dX1_becomeLike_7 : decode cX1_becomeLike 7 = .ok (.invokevirtual 40, 3) := by decide +kernel
theorem dX1_becomeLike_10 : decode cX1_becomeLike 10 = .ok (.return_, 1) := by decide +kernel
theorem dX1_exchange_0 : decode cX1_exchange 0 = .ok (.aload_n 0, 1) := by decide +kernel
theorem dX1_exchange_1 : decode cX1_exchange 1 = .ok (.iload_n 1, 1) := by decide +kernel
theorem dX1_exchange_2 : decode cX1_exchange 2 = .ok (.invokevirtual 25, 3) := by decide +kernel
theorem dX1_exchange_5 : decode cX1_exchange 5 = .ok (.istore_n 3, 1) := by decide +kernel
theorem dX1_exchange_6 : decode cX1_exchange 6 = .ok (.aload_n 0, 1) := by decide +kernel
theorem dX1_exchange_7 : decode cX1_exchange 7 = .ok (.iload_n 1, 1) := by decide +kernel
theorem dX1_exchange_8 : decode cX1_exchange 8 = .ok (.aload_n 0, 1) := by decide +kernel
theorem dX1_exchange_9 : decode cX1_exchange 9 = .ok (.iload_n 2, 1) := by decide +kernel
theorem dX1_exchange_10 : decode cX1_exchange 10 = .ok (.invokevirtual 25, 3) := by decide +kernel
theorem dX1_exchange_13 : decode cX1_exchange 13 = .ok (.invokevirtual 32, 3) := by decide +kernel
theorem dX1_exchange_16 : decode cX1_exchange 16 = .ok (.aload_n 0, 1) := by decide +kernel
theorem dX1_exchange_17 : decode cX1_exchange 17 = .ok (.iload_n 2, 1) := by decide +kernel
theorem dX1_exchange_18 : decode cX1_exchange 18 = .ok (.iload_n 3, 1) := by decide +kernel
theorem dX1_exchange_19 : decode cX1_exchange 19 = .ok (.invokevirtual 32, 3) := by decide +kernel
theorem dX1_exchange_22 : decode cX1_exchange 22 = .ok (.return_, 1) := by decide +kernel
theorem dX1_turn_0 : decode cX1_turn 0 = .ok (.iload_n 2, 1) := by decide +kernel
theorem dX1_turn_1 : decode cX1_turn 1 = .ok (.iconst 1, 1) := by decide +kernel
theorem dX1_turn_2 : decode cX1_turn 2 = .ok (.isub, 1) := by decide +kernel
theorem dX1_turn_3 : decode cX1_turn 3 = .ok (.istore_n 3, 1) := by decide +kernel
theorem dX1_turn_4 : decode cX1_turn 4 = .ok (.iload_n 1, 1) := by decide +kernel
theorem dX1_turn_5 : decode cX1_turn 5 = .ok (.istore 4, 2) := by decide +kernel
theorem dX1_turn_7 : decode cX1_turn 7 = .ok (.iload 4, 2) := by decide +kernel
theorem dX1_turn_9 : decode cX1_turn 9 = .ok (.iload_n 3, 1) := by decide +kernel
theorem dX1_turn_10 : decode cX1_turn 10 = .ok (.if_icmp .ge 19, 3) := by decide +kernel
theorem dX1_turn_13 : decode cX1_turn 13 = .ok (.aload_n 0, 1) := by decide +kernel
theorem dX1_turn_14 : decode cX1_turn 14 = .ok (.iload 4, 2) := by decide +kernel
theorem dX1_turn_16 : decode cX1_turn 16 = .ok (.iload_n 3, 1) := by decide +kernel
theorem dX1_turn_17 : decode cX1_turn 17 = .ok (.invokevirtual 44, 3) := by decide +kernel
theorem dX1_turn_20 : decode cX1_turn 20 = .ok (.iinc 3 (-1), 3) := by decide +kernel
theorem dX1_turn_23 : decode cX1_turn 23 = .ok (.iinc 4 1, 3) := by decide +kernel
theorem dX1_turn_26 : decode cX1_turn 26 = .ok (.goto (-19), 3) := by decide +kernel
theorem dX1_turn_29 : decode cX1_turn 29 = .ok (.return_, 1) := by decide +kernel
theorem dX1_push_0 : decode cX1_push 0 = .ok (.iload_n 2, 1) := by decide +kernel
theorem dX1_push_1 : decode cX1_push 1 = .ok (.iload_n 1, 1) := by decide +kernel
theorem dX1_push_2 : decode cX1_push 2 = .ok (.isub, 1) := by decide +kernel
theorem dX1_push_3 : decode cX1_push 3 = .ok (.istore 4, 2) := by decide +kernel
theorem dX1_push_5 : decode cX1_push 5 = .ok (.iload 4, 2) := by decide +kernel
theorem dX1_push_7 : decode cX1_push 7 = .ok (.ifCond .gt 4, 3) := by decide +kernel
theorem dX1_push_10 : decode cX1_push 10 = .ok (.return_, 1) := by decide +kernel
theorem dX1_push_11 : decode cX1_push 11 = .ok (.iload_n 1, 1) := by decide +kernel
theorem dX1_push_12 : decode cX1_push 12 = .ok (.iload_n 3, 1) := by decide +kernel
theorem dX1_push_13 : decode cX1_push 13 = .ok (.iload 4, 2) := by decide +kernel
theorem dX1_push_15 : decode cX1_push 15 = .ok (.invokestatic 47, 3) := by decide +kernel
theorem dX1_push_18 : decode cX1_push 18 = .ok (.iadd, 1) := by decide +kernel
theorem dX1_push_19 : decode cX1_push 19 = .ok (.istore 5, 2) := by decide +kernel
theorem dX1_push_21 : decode cX1_push 21 = .ok (.aload_n 0, 1) := by decide +kernel
theorem dX1_push_22 : decode cX1_push 22 = .ok (.iload_n 1, 1) := by decide +kernel
theorem dX1_push_23 : decode cX1_push 23 = .ok (.iload_n 2, 1) := by decide +kernel
theorem dX1_push_24 : decode cX1_push 24 = .ok (.invokevirtual 53, 3) := by decide +kernel
theorem dX1_push_27 : decode cX1_push 27 = .ok (.aload_n 0, 1) := by decide +kernel
theorem dX1_push_28 : decode cX1_push 28 = .ok (.iload_n 1, 1) := by decide +kernel
theorem dX1_push_29 : decode cX1_push 29 = .ok (.iload 5, 2) := by decide +kernel
theorem dX1_push_31 : decode cX1_push 31 = .ok (.invokevirtual 53, 3) := by decide +kernel
theorem dX1_push_34 : decode cX1_push 34 = .ok (.aload_n 0, 1) := by decide +kernel
theorem dX1_push_35 : decode cX1_push 35 = .ok (.iload 5, 2) := by decide +kernel
theorem dX1_push_37 : decode cX1_push 37 = .ok (.iload_n 2, 1) := by decide +kernel
theorem dX1_push_38 : decode cX1_push 38 = .ok (.invokevirtual 53, 3) := by decide +kernel
theorem dX1_push_41 : decode cX1_push 41 = .ok (.return_, 1) := by decide +kernel
theorem dX1_arrange_0 : decode cX1_arrange 0 = .ok (.iload_n 1, 1) := by decide +kernel
theorem dX1_arrange_1 : decode cX1_arrange 1 = .ok (.iconst 1, 1) := by decide +kernel
theorem dX1_arrange_2 : decode cX1_arrange 2 = .ok (.iadd, 1) := by decide +kernel
theorem dX1_arrange_3 : decode cX1_arrange 3 = .ok (.istore 4, 2) := by decide +kernel
theorem dX1_arrange_5 : decode cX1_arrange 5 = .ok (.iload 4, 2) := by decide +kernel
theorem dX1_arrange_7 : decode cX1_arrange 7 = .ok (.iload_n 2, 1) := by decide +kernel
theorem dX1_arrange_8 : decode cX1_arrange 8 = .ok (.if_icmp .ge 17, 3) := by decide +kernel
theorem dX1_arrange_11 : decode cX1_arrange 11 = .ok (.aload_n 0, 1) := by decide +kernel
theorem dX1_arrange_12 : decode cX1_arrange 12 = .ok (.iload_n 1, 1) := by decide +kernel
theorem dX1_arrange_13 : decode cX1_arrange 13 = .ok (.iload 4, 2) := by decide +kernel
theorem dX1_arrange_15 : decode cX1_arrange 15 = .ok (.iload_n 3, 1) := by decide +kernel
theorem dX1_arrange_16 : decode cX1_arrange 16 = .ok (.invokevirtual 56, 3) := by decide +kernel
theorem dX1_arrange_19 : decode cX1_arrange 19 = .ok (.iinc 4 1, 3) := by decide +kernel
theorem dX1_arrange_22 : decode cX1_arrange 22 = .ok (.goto (-17), 3) := by decide +kernel
theorem dX1_arrange_25 : decode cX1_arrange 25 = .ok (.return_, 1) := by decide +kernel
theorem dX1_settle_0 : decode cX1_settle 0 = .ok (.aload_n 0, 1) := by decide +kernel
theorem dX1_settle_1 : decode cX1_settle 1 = .ok (.iload_n 2, 1) := by decide +kernel
theorem dX1_settle_2 : decode cX1_settle 2 = .ok (.invokevirtual 29, 3) := by decide +kernel
theorem dX1_settle_5 : decode cX1_settle 5 = .ok (.istore 4, 2) := by decide +kernel
theorem dX1_settle_7 : decode cX1_settle 7 = .ok (.iload_n 2, 1) := by decide +kernel
theorem dX1_settle_8 : decode cX1_settle 8 = .ok (.istore 5, 2) := by decide +kernel
theorem dX1_settle_10 : decode cX1_settle 10 = .ok (.iload 5, 2) := by decide +kernel
theorem dX1_settle_12 : decode cX1_settle 12 = .ok (.iload_n 1, 1) := by decide +kernel
theorem dX1_settle_13 : decode cX1_settle 13 = .ok (.if_icmp .le 37, 3) := by decide +kernel
theorem dX1_settle_16 : decode cX1_settle 16 = .ok (.iload 4, 2) := by decide +kernel
theorem dX1_settle_18 : decode cX1_settle 18 = .ok (.aload_n 0, 1) := by decide +kernel
theorem dX1_settle_19 : decode cX1_settle 19 = .ok (.iload 5, 2) := by decide +kernel
theorem dX1_settle_21 : decode cX1_settle 21 = .ok (.iconst 1, 1) := by decide +kernel
theorem dX1_settle_22 : decode cX1_settle 22 = .ok (.isub, 1) := by decide +kernel
theorem dX1_settle_23 : decode cX1_settle 23 = .ok (.invokevirtual 29, 3) := by decide +kernel
theorem dX1_settle_26 : decode cX1_settle 26 = .ok (.iload_n 3, 1) := by decide +kernel
theorem dX1_settle_27 : decode cX1_settle 27 = .ok (.invokestatic 60, 3) := by decide +kernel
theorem dX1_settle_30 : decode cX1_settle 30 = .ok (.ifCond .ne 4, 3) := by decide +kernel
theorem dX1_settle_33 : decode cX1_settle 33 = .ok (.return_, 1) := by decide +kernel
theorem dX1_howOften_0 : decode cX1_howOften 0 = .ok (.iconst 0, 1) := by decide +kernel
theorem dX1_howOften_1 : decode cX1_howOften 1 = .ok (.istore_n 2, 1) := by decide +kernel
theorem dX1_howOften_2 : decode cX1_howOften 2 = .ok (.iconst 0, 1) := by decide +kernel
theorem dX1_howOften_3 : decode cX1_howOften 3 = .ok (.istore_n 3, 1) := by decide +kernel
theorem dX1_howOften_4 : decode cX1_howOften 4 = .ok (.iload_n 3, 1) := by decide +kernel
theorem dX1_howOften_5 : decode cX1_howOften 5 = .ok (.aload_n 0, 1) := by decide +kernel
theorem dX1_howOften_6 : decode cX1_howOften 6 = .ok (.getfield 15, 3) := by decide +kernel
theorem dX1_howOften_9 : decode cX1_howOften 9 = .ok (.if_icmp .ge 21, 3) := by decide +kernel
theorem dX1_howOften_12 : decode cX1_howOften 12 = .ok (.aload_n 0, 1) := by decide +kernel
theorem dX1_howOften_13 : decode cX1_howOften 13 = .ok (.iload_n 3, 1) := by decide +kernel
theorem dX1_howOften_14 : decode cX1_howOften 14 = .ok (.invokevirtual 25, 3) := by decide +kernel
theorem dX1_howOften_17 : decode cX1_howOften 17 = .ok (.iload_n 1, 1) := by decide +kernel
theorem dX1_howOften_18 : decode cX1_howOften 18 = .ok (.if_icmp .ne 6, 3) := by decide +kernel
theorem dX1_howOften_21 : decode cX1_howOften 21 = .ok (.iinc 2 1, 3) := by decide +kernel
theorem dX1_howOften_24 : decode cX1_howOften 24 = .ok (.iinc 3 1, 3) := by decide +kernel
theorem dX1_howOften_27 : decode cX1_howOften 27 = .ok (.goto (-23), 3) := by decide +kernel
theorem dX1_howOften_30 : decode cX1_howOften 30 = .ok (.iload_n 2, 1) := by decide +kernel
theorem dX1_howOften_31 : decode cX1_howOften 31 = .ok (.ireturn, 1) := by decide +kernel
theorem dX1_firstPlaceOf_0 : decode cX1_firstPlaceOf 0 = .ok (.iconst 0, 1) := by decide +kernel
theorem dX1_firstPlaceOf_1 : decode cX1_firstPlaceOf 1 = .ok (.istore_n 2, 1) := by decide +kernel
theorem dX1_firstPlaceOf_2 : decode cX1_firstPlaceOf 2 = .ok (.iload_n 2, 1) := by decide +kernel
theorem dX1_firstPlaceOf_3 : decode cX1_firstPlaceOf 3 = .ok (.aload_n 0, 1) := by decide +kernel
theorem dX1_firstPlaceOf_4 : decode cX1_firstPlaceOf 4 = .ok (.getfield 15, 3) := by decide +kernel
theorem dX1_firstPlaceOf_7 : decode cX1_firstPlaceOf 7 = .ok (.if_icmp .ge 20, 3) := by decide +kernel
theorem dX1_firstPlaceOf_10 : decode cX1_firstPlaceOf 10 = .ok (.aload_n 0, 1) := by decide +kernel
theorem dX1_firstPlaceOf_11 : decode cX1_firstPlaceOf 11 = .ok (.iload_n 2, 1) := by decide +kernel
theorem dX1_firstPlaceOf_12 : decode cX1_firstPlaceOf 12 = .ok (.invokevirtual 25, 3) := by decide +kernel
theorem dX1_firstPlaceOf_15 : decode cX1_firstPlaceOf 15 = .ok (.iload_n 1, 1) := by decide +kernel
theorem dX1_firstPlaceOf_16 : decode cX1_firstPlaceOf 16 = .ok (.if_icmp .ne 5, 3) := by decide +kernel
theorem dX1_firstPlaceOf_19 : decode cX1_firstPlaceOf 19 = .ok (.iload_n 2, 1) := by decide +kernel
theorem dX1_firstPlaceOf_20 : decode cX1_firstPlaceOf 20 = .ok (.ireturn, 1) := by decide +kernel
theorem dX1_firstPlaceOf_27 : decode cX1_firstPlaceOf 27 = .ok (.iconst (-1), 1) := by decide +kernel
theorem dX1_firstPlaceOf_28 : decode cX1_firstPlaceOf 28 = .ok (.ireturn, 1) := by decide +kernel
theorem dX1_isLike_0 : decode cX1_isLike 0 = .ok (.aload_n 0, 1) := by decide +kernel
theorem dX1_isLike_1 : decode cX1_isLike 1 = .ok (.getfield 15, 3) := by decide +kernel
theorem dX1_isLike_4 : decode cX1_isLike 4 = .ok (.aload_n 1, 1) := by decide +kernel
theorem dX1_isLike_5 : decode cX1_isLike 5 = .ok (.getfield 15, 3) := by decide +kernel
theorem dX1_isLike_8 : decode cX1_isLike 8 = .ok (.if_icmp .ne 21, 3) := by decide +kernel
theorem dX1_isLike_11 : decode cX1_isLike 11 = .ok (.aload_n 0, 1) := by decide +kernel
theorem dX1_isLike_12 : decode cX1_isLike 12 = .ok (.iconst 0, 1) := by decide +kernel
theorem dX1_isLike_13 : decode cX1_isLike 13 = .ok (.aload_n 1, 1) := by decide +kernel
theorem dX1_isLike_14 : decode cX1_isLike 14 = .ok (.iconst 0, 1) := by decide +kernel
theorem dX1_isLike_15 : decode cX1_isLike 15 = .ok (.aload_n 1, 1) := by decide +kernel
theorem dX1_isLike_16 : decode cX1_isLike 16 = .ok (.getfield 15, 3) := by decide +kernel
theorem dX1_isLike_19 : decode cX1_isLike 19 = .ok (.invokevirtual 64, 3) := by decide +kernel
theorem dX1_isLike_22 : decode cX1_isLike 22 = .ok (.ifCond .eq 7, 3) := by decide +kernel
theorem dX1_isLike_25 : decode cX1_isLike 25 = .ok (.iconst 1, 1) := by decide +kernel
theorem dX1_isLike_26 : decode cX1_isLike 26 = .ok (.goto 4, 3) := by decide +kernel
theorem dX1_isLike_30 : decode cX1_isLike 30 = .ok (.ireturn, 1) := by decide +kernel
theorem dX1_hasFrom_0 : decode cX1_hasFrom 0 = .ok (.iconst 0, 1) := by decide +kernel
theorem dX1_hasFrom_1 : decode cX1_hasFrom 1 = .ok (.istore 5, 2) := by decide +kernel
theorem dX1_hasFrom_3 : decode cX1_hasFrom 3 = .ok (.iload 5, 2) := by decide +kernel
theorem dX1_hasFrom_5 : decode cX1_hasFrom 5 = .ok (.iload 4, 2) := by decide +kernel
theorem dX1_hasFrom_7 : decode cX1_hasFrom 7 = .ok (.if_icmp .ge 30, 3) := by decide +kernel
theorem dX1_hasFrom_10 : decode cX1_hasFrom 10 = .ok (.aload_n 0, 1) := by decide +kernel
theorem dX1_hasFrom_11 : decode cX1_hasFrom 11 = .ok (.iload_n 1, 1) := by decide +kernel
theorem dX1_hasFrom_12 : decode cX1_hasFrom 12 = .ok (.iload 5, 2) := by decide +kernel
theorem dX1_hasFrom_14 : decode cX1_hasFrom 14 = .ok (.iadd, 1) := by decide +kernel
theorem dX1_hasFrom_15 : decode cX1_hasFrom 15 = .ok (.invokevirtual 25, 3) := by decide +kernel
theorem dX1_hasFrom_18 : decode cX1_hasFrom 18 = .ok (.aload_n 2, 1) := by decide +kernel
theorem dX1_hasFrom_19 : decode cX1_hasFrom 19 = .ok (.iload_n 3, 1) := by decide +kernel
theorem dX1_hasFrom_20 : decode cX1_hasFrom 20 = .ok (.iload 5, 2) := by decide +kernel
theorem dX1_hasFrom_22 : decode cX1_hasFrom 22 = .ok (.iadd, 1) := by decide +kernel
theorem dX1_hasFrom_23 : decode cX1_hasFrom 23 = .ok (.invokevirtual 25, 3) := by decide +kernel
theorem dX1_hasFrom_26 : decode cX1_hasFrom 26 = .ok (.if_icmp .eq 5, 3) := by decide +kernel
theorem dX1_hasFrom_31 : decode cX1_hasFrom 31 = .ok (.iinc 5 1, 3) := by decide +kernel
theorem dX1_hasFrom_34 : decode cX1_hasFrom 34 = .ok (.goto (-31), 3) := by decide +kernel
theorem dX1_hasFrom_37 : decode cX1_hasFrom 37 = .ok (.iconst 1, 1) := by decide +kernel
theorem dX1_hasFrom_38 : decode cX1_hasFrom 38 = .ok (.ireturn, 1) := by decide +kernel
theorem dX1_placeOf_0 : decode cX1_placeOf 0 = .ok (.iload 5, 2) := by decide +kernel
theorem dX1_placeOf_2 : decode cX1_placeOf 2 = .ok (.iload 4, 2) := by decide +kernel
theorem dX1_placeOf_4 : decode cX1_placeOf 4 = .ok (.isub, 1) := by decide +kernel
theorem dX1_placeOf_5 : decode cX1_placeOf 5 = .ok (.istore 6, 2) := by decide +kernel
theorem dX1_placeOf_7 : decode cX1_placeOf 7 = .ok (.iload_n 1, 1) := by decide +kernel
theorem dX1_placeOf_8 : decode cX1_placeOf 8 = .ok (.istore 7, 2) := by decide +kernel
theorem dX1_placeOf_10 : decode cX1_placeOf 10 = .ok (.iload 7, 2) := by decide +kernel
theorem dX1_placeOf_12 : decode cX1_placeOf 12 = .ok (.iload 6, 2) := by decide +kernel
theorem dX1_placeOf_14 : decode cX1_placeOf 14 = .ok (.iadd, 1) := by decide +kernel
theorem dX1_placeOf_15 : decode cX1_placeOf 15 = .ok (.iload_n 2, 1) := by decide +kernel
theorem dX1_placeOf_16 : decode cX1_placeOf 16 = .ok (.if_icmp .gt 28, 3) := by decide +kernel
theorem dX1_placeOf_19 : decode cX1_placeOf 19 = .ok (.aload_n 0, 1) := by decide +kernel
theorem dX1_placeOf_20 : decode cX1_placeOf 20 = .ok (.iload 7, 2) := by decide +kernel
theorem dX1_placeOf_22 : decode cX1_placeOf 22 = .ok (.aload_n 3, 1) := by decide +kernel
theorem dX1_placeOf_23 : decode cX1_placeOf 23 = .ok (.iload 4, 2) := by decide +kernel
theorem dX1_placeOf_25 : decode cX1_placeOf 25 = .ok (.iload 6, 2) := by decide +kernel
theorem dX1_placeOf_27 : decode cX1_placeOf 27 = .ok (.invokevirtual 64, 3) := by decide +kernel
theorem dX1_placeOf_30 : decode cX1_placeOf 30 = .ok (.ifCond .eq 8, 3) := by decide +kernel
theorem dX1_placeOf_33 : decode cX1_placeOf 33 = .ok (.iload 7, 2) := by decide +kernel
theorem dX1_placeOf_35 : decode cX1_placeOf 35 = .ok (.iload_n 1, 1) := by decide +kernel
theorem dX1_placeOf_36 : decode cX1_placeOf 36 = .ok (.isub, 1) := by decide +kernel
theorem dX1_placeOf_37 : decode cX1_placeOf 37 = .ok (.ireturn, 1) := by decide +kernel
theorem dX1_placeOf_44 : decode cX1_placeOf 44 = .ok (.iconst (-1), 1) := by decide +kernel
theorem dX1_placeOf_45 : decode cX1_placeOf 45 = .ok (.ireturn, 1) := by decide +kernel
theorem dX2_init_0 : decode cX2_init 0 = .ok (.aload_n 0, 1) := by decide +kernel
theorem dX2_init_1 : decode cX2_init 1 = .ok (.invokespecial 1, 3) := by decide +kernel
theorem dX2_init_4 : decode cX2_init 4 = .ok (.aload_n 0, 1) := by decide +kernel
theorem dX2_init_5 : decode cX2_init 5 = .ok (.iconst 4, 1) := by decide +kernel
theorem dX2_init_6 : decode cX2_init 6 = .ok (.anewarray 9, 3) := by decide +kernel
theorem dX2_init_9 : decode cX2_init 9 = .ok (.putfield 11, 3) := by decide +kernel
theorem dX2_init_12 : decode cX2_init 12 = .ok (.iconst 0, 1) := by decide +kernel
theorem dX2_init_13 : decode cX2_init 13 = .ok (.istore_n 1, 1) := by decide +kernel
theorem dX2_init_14 : decode cX2_init 14 = .ok (.iload_n 1, 1) := by decide +kernel
theorem dX2_init_15 : decode cX2_init 15 = .ok (.aload_n 0, 1) := by decide +kernel
theorem dX2_init_16 : decode cX2_init 16 = .ok (.getfield 11, 3) := by decide +kernel
theorem dX2_init_19 : decode cX2_init 19 = .ok (.arraylength, 1) := by decide +kernel
theorem dX2_init_20 : decode cX2_init 20 = .ok (.if_icmp .ge 22, 3) := by decide +kernel
theorem dX2_init_23 : decode cX2_init 23 = .ok (.aload_n 0, 1) := by decide +kernel
theorem dX2_init_24 : decode cX2_init 24 = .ok (.getfield 11, 3) := by decide +kernel
theorem dX2_init_27 : decode cX2_init 27 = .ok (.iload_n 1, 1) := by decide +kernel
theorem dX2_init_28 : decode cX2_init 28 = .ok (.new 9, 3) := by decide +kernel
theorem dX2_init_31 : decode cX2_init 31 = .ok (.dup, 1) := by decide +kernel
theorem dX2_init_32 : decode cX2_init 32 = .ok (.invokespecial 15, 3) := by decide +kernel
theorem dX2_init_35 : decode cX2_init 35 = .ok (.aastore, 1) := by decide +kernel
theorem dX2_init_36 : decode cX2_init 36 = .ok (.iinc 1 1, 3) := by decide +kernel
theorem dX2_init_39 : decode cX2_init 39 = .ok (.goto (-25), 3) := by decide +kernel
theorem dX2_init_42 : decode cX2_init 42 = .ok (.aload_n 0, 1) := by decide +kernel
theorem dX2_init_43 : decode cX2_init 43 = .ok (.iconst 3, 1) := by decide +kernel
theorem dX2_init_44 : decode cX2_init 44 = .ok (.anewarray 16, 3) := by decide +kernel
theorem dX2_init_47 : decode cX2_init 47 = .ok (.putfield 18, 3) := by decide +kernel
theorem dX2_init_50 : decode cX2_init 50 = .ok (.iconst 0, 1) := by decide +kernel
theorem dX2_init_51 : decode cX2_init 51 = .ok (.istore_n 1, 1) := by decide +kernel
theorem dX2_init_52 : decode cX2_init 52 = .ok (.iload_n 1, 1) := by decide +kernel
theorem dX2_init_53 : decode cX2_init 53 = .ok (.aload_n 0, 1) := by decide +kernel
theorem dX2_init_54 : decode cX2_init 54 = .ok (.getfield 18, 3) := by decide +kernel
theorem dX2_init_57 : decode cX2_init 57 = .ok (.arraylength, 1) := by decide +kernel
theorem dX2_init_58 : decode cX2_init 58 = .ok (.if_icmp .ge 22, 3) := by decide +kernel
theorem dX2_init_61 : decode cX2_init 61 = .ok (.aload_n 0, 1) := by decide +kernel
theorem dX2_init_62 : decode cX2_init 62 = .ok (.getfield 18, 3) := by decide +kernel
theorem dX2_init_65 : decode cX2_init 65 = .ok (.iload_n 1, 1) := by decide +kernel
theorem dX2_init_66 : decode cX2_init 66 = .ok (.new 16, 3) := by decide +kernel
theorem dX2_init_69 : decode cX2_init 69 = .ok (.dup, 1) := by decide +kernel
theorem dX2_init_70 : decode cX2_init 70 = .ok (.invokespecial 22, 3) := by decide +kernel
theorem dX2_init_73 : decode cX2_init 73 = .ok (.aastore, 1) := by decide +kernel
theorem dX2_init_74 : decode cX2_init 74 = .ok (.iinc 1 1, 3) := by decide +kernel
theorem dX2_init_77 : decode cX2_init 77 = .ok (.goto (-25), 3) := by decide +kernel
theorem dX2_init_80 : decode cX2_init 80 = .ok (.aload_n 0, 1) := by decide +kernel
theorem dX2_init_81 : decode cX2_init 81 = .ok (.new 9, 3) := by decide +kernel
theorem dX2_init_84 : decode cX2_init 84 = .ok (.dup, 1) := by decide +kernel
theorem dX2_init_85 : decode cX2_init 85 = .ok (.invokespecial 15, 3) := by decide +kernel
theorem dX2_init_88 : decode cX2_init 88 = .ok (.putfield 23, 3) := by decide +kernel
theorem dX2_init_91 : decode cX2_init 91 = .ok (.aload_n 0, 1) := by decide +kernel
theorem dX2_init_92 : decode cX2_init 92 = .ok (.iconst 0, 1) := by decide +kernel
theorem dX2_init_93 : decode cX2_init 93 = .ok (.putfield 27, 3) := by decide +kernel
theorem dX2_init_96 : decode cX2_init 96 = .ok (.return_, 1) := by decide +kernel
theorem dX2_addCopies_0 : decode cX2_addCopies 0 = .ok (.aload_n 0, 1) := by decide +kernel
theorem dX2_addCopies_1 : decode cX2_addCopies 1 = .ok (.iload_n 1, 1) := by decide +kernel
theorem dX2_addCopies_2 : decode cX2_addCopies 2 = .ok (.invokevirtual 31, 3) := by decide +kernel
theorem dX2_addCopies_5 : decode cX2_addCopies 5 = .ok (.astore 5, 2) := by decide +kernel
theorem dX2_addCopies_7 : decode cX2_addCopies 7 = .ok (.iload_n 2, 1) := by decide +kernel
theorem dX2_addCopies_8 : decode cX2_addCopies 8 = .ok (.invokestatic 82, 3) := by decide +kernel
theorem dX2_addCopies_11 : decode cX2_addCopies 11 = .ok (.iload_n 3, 1) := by decide +kernel
theorem dX2_addCopies_12 : decode cX2_addCopies 12 = .ok (.iload 4, 2) := by decide +kernel
theorem dX2_addCopies_14 : decode cX2_addCopies 14 = .ok (.invokestatic 35, 3) := by decide +kernel
theorem dX2_addCopies_17 : decode cX2_addCopies 17 = .ok (.istore 6, 2) := by decide +kernel
theorem dX2_addCopies_19 : decode cX2_addCopies 19 = .ok (.aload 5, 2) := by decide +kernel
theorem dX2_addCopies_21 : decode cX2_addCopies 21 = .ok (.iload_n 2, 1) := by decide +kernel
theorem dX2_addCopies_22 : decode cX2_addCopies 22 = .ok (.invokestatic 39, 3) := by decide +kernel
theorem dX2_addCopies_25 : decode cX2_addCopies 25 = .ok (.aload 5, 2) := by decide +kernel
theorem dX2_addCopies_27 : decode cX2_addCopies 27 = .ok (.iload_n 2, 1) := by decide +kernel
theorem dX2_addCopies_28 : decode cX2_addCopies 28 = .ok (.iload 6, 2) := by decide +kernel
theorem dX2_addCopies_30 : decode cX2_addCopies 30 = .ok (.invokevirtual 85, 3) := by decide +kernel
theorem dX2_addCopies_33 : decode cX2_addCopies 33 = .ok (.aload_n 0, 1) := by decide +kernel
theorem dX2_addCopies_34 : decode cX2_addCopies 34 = .ok (.aload 5, 2) := by decide +kernel
theorem dX2_addCopies_36 : decode cX2_addCopies 36 = .ok (.iload_n 2, 1) := by decide +kernel
theorem dX2_addCopies_37 : decode cX2_addCopies 37 = .ok (.invokevirtual 79, 3) := by decide +kernel
theorem dX2_addCopies_40 : decode cX2_addCopies 40 = .ok (.aload 5, 2) := by decide +kernel
theorem dX2_addCopies_42 : decode cX2_addCopies 42 = .ok (.getfield 51, 3) := by decide +kernel
theorem dX2_addCopies_45 : decode cX2_addCopies 45 = .ok (.ireturn, 1) := by decide +kernel
theorem dX2_part_0 : decode cX2_part 0 = .ok (.aload_n 0, 1) := by decide +kernel
theorem dX2_part_1 : decode cX2_part 1 = .ok (.iload_n 1, 1) := by decide +kernel
theorem dX2_part_2 : decode cX2_part 2 = .ok (.invokevirtual 167, 3) := by decide +kernel
theorem dX2_part_5 : decode cX2_part 5 = .ok (.astore 5, 2) := by decide +kernel
theorem dX2_part_7 : decode cX2_part 7 = .ok (.aload_n 0, 1) := by decide +kernel
theorem dX2_part_8 : decode cX2_part 8 = .ok (.iload_n 2, 1) := by decide +kernel
theorem dX2_part_9 : decode cX2_part 9 = .ok (.invokevirtual 31, 3) := by decide +kernel
theorem dX2_part_12 : decode cX2_part 12 = .ok (.astore 6, 2) := by decide +kernel
theorem dX2_part_14 : decode cX2_part 14 = .ok (.iload_n 3, 1) := by decide +kernel
theorem dX2_part_15 : decode cX2_part 15 = .ok (.iload 4, 2) := by decide +kernel
theorem dX2_part_17 : decode cX2_part 17 = .ok (.aload 6, 2) := by decide +kernel
theorem dX2_part_19 : decode cX2_part 19 = .ok (.getfield 51, 3) := by decide +kernel
theorem dX2_part_22 : decode cX2_part 22 = .ok (.invokestatic 171, 3) := by decide +kernel
theorem dX2_part_25 : decode cX2_part 25 = .ok (.ifCond .ne 13, 3) := by decide +kernel
theorem dX2_part_38 : decode cX2_part 38 = .ok (.aload_n 0, 1) := by decide +kernel
theorem dX2_part_39 : decode cX2_part 39 = .ok (.aload 5, 2) := by decide +kernel
theorem dX2_part_41 : decode cX2_part 41 = .ok (.invokevirtual 177, 3) := by decide +kernel
theorem dX2_part_44 : decode cX2_part 44 = .ok (.aload 5, 2) := by decide +kernel
theorem dX2_part_46 : decode cX2_part 46 = .ok (.aload 6, 2) := by decide +kernel
theorem dX2_part_48 : decode cX2_part 48 = .ok (.aconst_null, 1) := by decide +kernel
theorem dX2_part_49 : decode cX2_part 49 = .ok (.iload_n 3, 1) := by decide +kernel
theorem dX2_part_50 : decode cX2_part 50 = .ok (.iload 4, 2) := by decide +kernel
theorem dX2_part_52 : decode cX2_part 52 = .ok (.invokevirtual 181, 3) := by decide +kernel
theorem dX2_part_55 : decode cX2_part 55 = .ok (.aload 5, 2) := by decide +kernel
theorem dX2_part_57 : decode cX2_part 57 = .ok (.invokevirtual 185, 3) := by decide +kernel
theorem dX2_part_60 : decode cX2_part 60 = .ok (.ireturn, 1) := by decide +kernel
theorem dX2_isSound_0 : decode cX2_isSound 0 = .ok (.aload_n 0, 1) := by decide +kernel
theorem dX2_isSound_1 : decode cX2_isSound 1 = .ok (.getfield 11, 3) := by decide +kernel
theorem dX2_isSound_4 : decode cX2_isSound 4 = .ok (.astore_n 1, 1) := by decide +kernel
theorem dX2_isSound_5 : decode cX2_isSound 5 = .ok (.aload_n 1, 1) := by decide +kernel
theorem dX2_isSound_6 : decode cX2_isSound 6 = .ok (.arraylength, 1) := by decide +kernel
theorem dX2_isSound_7 : decode cX2_isSound 7 = .ok (.istore_n 2, 1) := by decide +kernel
theorem dX2_isSound_8 : decode cX2_isSound 8 = .ok (.iconst 0, 1) := by decide +kernel
theorem dX2_isSound_9 : decode cX2_isSound 9 = .ok (.istore_n 3, 1) := by decide +kernel
theorem dX2_isSound_10 : decode cX2_isSound 10 = .ok (.iload_n 3, 1) := by decide +kernel
theorem dX2_isSound_11 : decode cX2_isSound 11 = .ok (.iload_n 2, 1) := by decide +kernel
theorem dX2_isSound_12 : decode cX2_isSound 12 = .ok (.if_icmp .ge 25, 3) := by decide +kernel
theorem dX2_isSound_15 : decode cX2_isSound 15 = .ok (.aload_n 1, 1) := by decide +kernel
theorem dX2_isSound_16 : decode cX2_isSound 16 = .ok (.iload_n 3, 1) := by decide +kernel
theorem dX2_isSound_17 : decode cX2_isSound 17 = .ok (.aaload, 1) := by decide +kernel
theorem dX2_isSound_18 : decode cX2_isSound 18 = .ok (.astore 4, 2) := by decide +kernel
theorem dX2_isSound_20 : decode cX2_isSound 20 = .ok (.aload_n 0, 1) := by decide +kernel
theorem dX2_isSound_21 : decode cX2_isSound 21 = .ok (.aload 4, 2) := by decide +kernel
theorem dX2_isSound_23 : decode cX2_isSound 23 = .ok (.invokevirtual 259, 3) := by decide +kernel
theorem dX2_isSound_26 : decode cX2_isSound 26 = .ok (.ifCond .ne 5, 3) := by decide +kernel
theorem dX2_isSound_31 : decode cX2_isSound 31 = .ok (.iinc 3 1, 3) := by decide +kernel
theorem dX2_isSound_34 : decode cX2_isSound 34 = .ok (.goto (-24), 3) := by decide +kernel
theorem dX2_isSound_37 : decode cX2_isSound 37 = .ok (.aload_n 0, 1) := by decide +kernel
theorem dX2_isSound_38 : decode cX2_isSound 38 = .ok (.getfield 18, 3) := by decide +kernel
theorem dX2_isSound_41 : decode cX2_isSound 41 = .ok (.astore_n 1, 1) := by decide +kernel
theorem dX2_isSound_42 : decode cX2_isSound 42 = .ok (.aload_n 1, 1) := by decide +kernel
theorem dX2_isSound_43 : decode cX2_isSound 43 = .ok (.arraylength, 1) := by decide +kernel
theorem dX2_isSound_44 : decode cX2_isSound 44 = .ok (.istore_n 2, 1) := by decide +kernel
theorem dX2_isSound_45 : decode cX2_isSound 45 = .ok (.iconst 0, 1) := by decide +kernel
theorem dX2_isSound_46 : decode cX2_isSound 46 = .ok (.istore_n 3, 1) := by decide +kernel
theorem dX2_isSound_47 : decode cX2_isSound 47 = .ok (.iload_n 3, 1) := by decide +kernel
theorem dX2_isSound_48 : decode cX2_isSound 48 = .ok (.iload_n 2, 1) := by decide +kernel
theorem dX2_isSound_49 : decode cX2_isSound 49 = .ok (.if_icmp .ge 24, 3) := by decide +kernel
theorem dX2_isSound_52 : decode cX2_isSound 52 = .ok (.aload_n 1, 1) := by decide +kernel
theorem dX2_isSound_53 : decode cX2_isSound 53 = .ok (.iload_n 3, 1) := by decide +kernel
theorem dX2_isSound_54 : decode cX2_isSound 54 = .ok (.aaload, 1) := by decide +kernel
theorem dX2_isSound_55 : decode cX2_isSound 55 = .ok (.astore 4, 2) := by decide +kernel
theorem dX2_isSound_57 : decode cX2_isSound 57 = .ok (.aload 4, 2) := by decide +kernel
theorem dX2_isSound_59 : decode cX2_isSound 59 = .ok (.invokestatic 262, 3) := by decide +kernel
theorem dX2_isSound_62 : decode cX2_isSound 62 = .ok (.ifCond .ne 5, 3) := by decide +kernel
theorem dX2_isSound_67 : decode cX2_isSound 67 = .ok (.iinc 3 1, 3) := by decide +kernel
theorem dX2_isSound_70 : decode cX2_isSound 70 = .ok (.goto (-23), 3) := by decide +kernel
theorem dX2_isSound_73 : decode cX2_isSound 73 = .ok (.iconst 1, 1) := by decide +kernel
theorem dX2_isSound_74 : decode cX2_isSound 74 = .ok (.ireturn, 1) := by decide +kernel
theorem dX2_digest_0 : decode cX2_digest 0 = .ok (.new 222, 3) := by decide +kernel
theorem dX2_digest_3 : decode cX2_digest 3 = .ok (.dup, 1) := by decide +kernel
theorem dX2_digest_4 : decode cX2_digest 4 = .ok (.invokespecial 224, 3) := by decide +kernel
theorem dX2_digest_7 : decode cX2_digest 7 = .ok (.astore_n 1, 1) := by decide +kernel
theorem dX2_digest_8 : decode cX2_digest 8 = .ok (.aload_n 0, 1) := by decide +kernel
theorem dX2_digest_9 : decode cX2_digest 9 = .ok (.ldc2_w 265, 3) := by decide +kernel
theorem dX2_digest_12 : decode cX2_digest 12 = .ok (.invokevirtual 267, 3) := by decide +kernel
theorem dX2_digest_15 : decode cX2_digest 15 = .ok (.lstore_n 2, 1) := by decide +kernel
theorem dX2_digest_16 : decode cX2_digest 16 = .ok (.aload_n 0, 1) := by decide +kernel
theorem dX2_digest_17 : decode cX2_digest 17 = .ok (.getfield 11, 3) := by decide +kernel
theorem dX2_digest_20 : decode cX2_digest 20 = .ok (.astore 4, 2) := by decide +kernel
theorem dX2_digest_22 : decode cX2_digest 22 = .ok (.aload 4, 2) := by decide +kernel
theorem dX2_digest_24 : decode cX2_digest 24 = .ok (.arraylength, 1) := by decide +kernel
theorem dX2_digest_25 : decode cX2_digest 25 = .ok (.istore 5, 2) := by decide +kernel
theorem dX2_digest_27 : decode cX2_digest 27 = .ok (.iconst 0, 1) := by decide +kernel
theorem dX2_digest_28 : decode cX2_digest 28 = .ok (.istore 6, 2) := by decide +kernel
theorem dX2_digest_30 : decode cX2_digest 30 = .ok (.iload 6, 2) := by decide +kernel
theorem dX2_digest_32 : decode cX2_digest 32 = .ok (.iload 5, 2) := by decide +kernel
theorem dX2_digest_34 : decode cX2_digest 34 = .ok (.if_icmp .ge 24, 3) := by decide +kernel
theorem dX2_digest_37 : decode cX2_digest 37 = .ok (.aload 4, 2) := by decide +kernel
theorem dX2_digest_39 : decode cX2_digest 39 = .ok (.iload 6, 2) := by decide +kernel
theorem dX2_digest_41 : decode cX2_digest 41 = .ok (.aaload, 1) := by decide +kernel
theorem dX2_digest_42 : decode cX2_digest 42 = .ok (.astore 7, 2) := by decide +kernel
theorem dX2_digest_44 : decode cX2_digest 44 = .ok (.lload_n 2, 1) := by decide +kernel
theorem dX2_digest_45 : decode cX2_digest 45 = .ok (.aload 7, 2) := by decide +kernel
theorem dX2_digest_47 : decode cX2_digest 47 = .ok (.aload_n 1, 1) := by decide +kernel
theorem dX2_digest_48 : decode cX2_digest 48 = .ok (.invokestatic 271, 3) := by decide +kernel
theorem dX2_digest_51 : decode cX2_digest 51 = .ok (.lstore_n 2, 1) := by decide +kernel
theorem dX2_digest_52 : decode cX2_digest 52 = .ok (.iinc 6 1, 3) := by decide +kernel
theorem dX2_digest_55 : decode cX2_digest 55 = .ok (.goto (-25), 3) := by decide +kernel
theorem dX2_digest_58 : decode cX2_digest 58 = .ok (.aload_n 0, 1) := by decide +kernel
theorem dX2_digest_59 : decode cX2_digest 59 = .ok (.getfield 11, 3) := by decide +kernel
theorem dX2_digest_62 : decode cX2_digest 62 = .ok (.astore 4, 2) := by decide +kernel
theorem dX2_digest_64 : decode cX2_digest 64 = .ok (.aload 4, 2) := by decide +kernel
theorem dX2_digest_66 : decode cX2_digest 66 = .ok (.arraylength, 1) := by decide +kernel
theorem dX2_digest_67 : decode cX2_digest 67 = .ok (.istore 5, 2) := by decide +kernel
theorem dX2_digest_69 : decode cX2_digest 69 = .ok (.iconst 0, 1) := by decide +kernel
theorem dX2_digest_70 : decode cX2_digest 70 = .ok (.istore 6, 2) := by decide +kernel
theorem dX2_digest_72 : decode cX2_digest 72 = .ok (.iload 6, 2) := by decide +kernel
theorem dX2_digest_74 : decode cX2_digest 74 = .ok (.iload 5, 2) := by decide +kernel
theorem dX2_digest_76 : decode cX2_digest 76 = .ok (.if_icmp .ge 83, 3) := by decide +kernel
theorem dX2_digest_79 : decode cX2_digest 79 = .ok (.aload 4, 2) := by decide +kernel
theorem dX2_digest_81 : decode cX2_digest 81 = .ok (.iload 6, 2) := by decide +kernel
theorem dX2_digest_83 : decode cX2_digest 83 = .ok (.aaload, 1) := by decide +kernel
theorem dX2_digest_84 : decode cX2_digest 84 = .ok (.astore 7, 2) := by decide +kernel
theorem dX2_digest_86 : decode cX2_digest 86 = .ok (.aload_n 0, 1) := by decide +kernel
theorem dX2_digest_87 : decode cX2_digest 87 = .ok (.getfield 11, 3) := by decide +kernel
theorem dX2_digest_90 : decode cX2_digest 90 = .ok (.astore 8, 2) := by decide +kernel
theorem dX2_digest_92 : decode cX2_digest 92 = .ok (.aload 8, 2) := by decide +kernel
theorem dX2_digest_94 : decode cX2_digest 94 = .ok (.arraylength, 1) := by decide +kernel
theorem dX2_digest_95 : decode cX2_digest 95 = .ok (.istore 9, 2) := by decide +kernel
theorem dX2_digest_97 : decode cX2_digest 97 = .ok (.iconst 0, 1) := by decide +kernel
theorem dX2_digest_98 : decode cX2_digest 98 = .ok (.istore 10, 2) := by decide +kernel
theorem dX2_digest_100 : decode cX2_digest 100 = .ok (.iload 10, 2) := by decide +kernel
theorem dX2_digest_102 : decode cX2_digest 102 = .ok (.iload 9, 2) := by decide +kernel
theorem dX2_digest_104 : decode cX2_digest 104 = .ok (.if_icmp .ge 49, 3) := by decide +kernel
theorem dX2_digest_107 : decode cX2_digest 107 = .ok (.aload 8, 2) := by decide +kernel
theorem dX2_digest_109 : decode cX2_digest 109 = .ok (.iload 10, 2) := by decide +kernel
theorem dX2_digest_111 : decode cX2_digest 111 = .ok (.aaload, 1) := by decide +kernel
theorem dX2_digest_112 : decode cX2_digest 112 = .ok (.astore 11, 2) := by decide +kernel
theorem dX2_digest_114 : decode cX2_digest 114 = .ok (.lload_n 2, 1) := by decide +kernel
theorem dX2_digest_115 : decode cX2_digest 115 = .ok (.aload 7, 2) := by decide +kernel
theorem dX2_digest_117 : decode cX2_digest 117 = .ok (.aload 11, 2) := by decide +kernel
theorem dX2_digest_119 : decode cX2_digest 119 = .ok (.invokestatic 139, 3) := by decide +kernel
theorem dX2_digest_122 : decode cX2_digest 122 = .ok (.ifCond .eq 7, 3) := by decide +kernel
theorem dX2_digest_125 : decode cX2_digest 125 = .ok (.lconst 1, 1) := by decide +kernel
theorem dX2_digest_126 : decode cX2_digest 126 = .ok (.goto 4, 3) := by decide +kernel
theorem dX2_digest_129 : decode cX2_digest 129 = .ok (.lconst 0, 1) := by decide +kernel
theorem dX2_digest_130 : decode cX2_digest 130 = .ok (.invokestatic 275, 3) := by decide +kernel
theorem dX2_digest_133 : decode cX2_digest 133 = .ok (.lstore_n 2, 1) := by decide +kernel
theorem dX2_digest_134 : decode cX2_digest 134 = .ok (.lload_n 2, 1) := by decide +kernel
theorem dX2_digest_135 : decode cX2_digest 135 = .ok (.aload 7, 2) := by decide +kernel
theorem dX2_digest_137 : decode cX2_digest 137 = .ok (.aload 11, 2) := by decide +kernel
theorem dX2_digest_139 : decode cX2_digest 139 = .ok (.invokestatic 147, 3) := by decide +kernel
theorem dX2_digest_142 : decode cX2_digest 142 = .ok (.i2l, 1) := by decide +kernel
theorem dX2_digest_143 : decode cX2_digest 143 = .ok (.invokestatic 275, 3) := by decide +kernel
theorem dX2_digest_146 : decode cX2_digest 146 = .ok (.lstore_n 2, 1) := by decide +kernel
theorem dX2_digest_147 : decode cX2_digest 147 = .ok (.iinc 10 1, 3) := by decide +kernel
theorem dX2_digest_150 : decode cX2_digest 150 = .ok (.goto (-50), 3) := by decide +kernel
theorem dX2_digest_153 : decode cX2_digest 153 = .ok (.iinc 6 1, 3) := by decide +kernel
theorem dX2_digest_156 : decode cX2_digest 156 = .ok (.goto (-84), 3) := by decide +kernel
theorem dX2_digest_159 : decode cX2_digest 159 = .ok (.aload_n 0, 1) := by decide +kernel
theorem dX2_digest_160 : decode cX2_digest 160 = .ok (.getfield 18, 3) := by decide +kernel
theorem dX2_digest_163 : decode cX2_digest 163 = .ok (.astore 4, 2) := by decide +kernel
theorem dX2_digest_165 : decode cX2_digest 165 = .ok (.aload 4, 2) := by decide +kernel
theorem dX2_digest_167 : decode cX2_digest 167 = .ok (.arraylength, 1) := by decide +kernel
theorem dX2_digest_168 : decode cX2_digest 168 = .ok (.istore 5, 2) := by decide +kernel
theorem dX2_digest_170 : decode cX2_digest 170 = .ok (.iconst 0, 1) := by decide +kernel
theorem dX2_digest_171 : decode cX2_digest 171 = .ok (.istore 6, 2) := by decide +kernel
theorem dX2_digest_173 : decode cX2_digest 173 = .ok (.iload 6, 2) := by decide +kernel
theorem dX2_digest_175 : decode cX2_digest 175 = .ok (.iload 5, 2) := by decide +kernel
theorem dX2_digest_177 : decode cX2_digest 177 = .ok (.if_icmp .ge 33, 3) := by decide +kernel
theorem dX2_digest_180 : decode cX2_digest 180 = .ok (.aload 4, 2) := by decide +kernel
theorem dX2_digest_182 : decode cX2_digest 182 = .ok (.iload 6, 2) := by decide +kernel
theorem dX2_digest_184 : decode cX2_digest 184 = .ok (.aaload, 1) := by decide +kernel
theorem dX2_digest_185 : decode cX2_digest 185 = .ok (.astore 7, 2) := by decide +kernel
theorem dX2_digest_187 : decode cX2_digest 187 = .ok (.aload_n 1, 1) := by decide +kernel
theorem dX2_digest_188 : decode cX2_digest 188 = .ok (.iconst 0, 1) := by decide +kernel
theorem dX2_digest_189 : decode cX2_digest 189 = .ok (.invokevirtual 279, 3) := by decide +kernel
theorem dX2_digest_192 : decode cX2_digest 192 = .ok (.aload_n 1, 1) := by decide +kernel
theorem dX2_digest_193 : decode cX2_digest 193 = .ok (.aload 7, 2) := by decide +kernel
theorem dX2_digest_195 : decode cX2_digest 195 = .ok (.invokestatic 225, 3) := by decide +kernel
theorem dX2_digest_198 : decode cX2_digest 198 = .ok (.lload_n 2, 1) := by decide +kernel
theorem dX2_digest_199 : decode cX2_digest 199 = .ok (.aload_n 1, 1) := by decide +kernel
theorem dX2_digest_200 : decode cX2_digest 200 = .ok (.invokestatic 282, 3) := by decide +kernel
theorem dX2_digest_203 : decode cX2_digest 203 = .ok (.lstore_n 2, 1) := by decide +kernel
theorem dX2_digest_204 : decode cX2_digest 204 = .ok (.iinc 6 1, 3) := by decide +kernel
theorem dX2_digest_207 : decode cX2_digest 207 = .ok (.goto (-34), 3) := by decide +kernel
theorem dX2_digest_210 : decode cX2_digest 210 = .ok (.lload_n 2, 1) := by decide +kernel
theorem dX2_digest_211 : decode cX2_digest 211 = .ok (.aload_n 0, 1) := by decide +kernel
theorem dX2_digest_212 : decode cX2_digest 212 = .ok (.invokevirtual 286, 3) := by decide +kernel
theorem dX2_digest_215 : decode cX2_digest 215 = .ok (.ifCond .eq 7, 3) := by decide +kernel
theorem dX2_digest_218 : decode cX2_digest 218 = .ok (.lconst 1, 1) := by decide +kernel
theorem dX2_digest_219 : decode cX2_digest 219 = .ok (.goto 4, 3) := by decide +kernel
theorem dX2_digest_223 : decode cX2_digest 223 = .ok (.invokestatic 275, 3) := by decide +kernel
theorem dX2_digest_226 : decode cX2_digest 226 = .ok (.lreturn, 1) := by decide +kernel
theorem dX2_rowOf_0 : decode cX2_rowOf 0 = .ok (.iload_n 1, 1) := by decide +kernel
theorem dX2_rowOf_1 : decode cX2_rowOf 1 = .ok (.ifCond .lt 12, 3) := by decide +kernel
theorem dX2_rowOf_4 : decode cX2_rowOf 4 = .ok (.iload_n 1, 1) := by decide +kernel
theorem dX2_rowOf_5 : decode cX2_rowOf 5 = .ok (.aload_n 0, 1) := by decide +kernel
theorem dX2_rowOf_6 : decode cX2_rowOf 6 = .ok (.getfield 11, 3) := by decide +kernel
theorem dX2_rowOf_9 : decode cX2_rowOf 9 = .ok (.arraylength, 1) := by decide +kernel
theorem dX2_rowOf_10 : decode cX2_rowOf 10 = .ok (.if_icmp .lt 14, 3) := by decide +kernel
theorem dX2_rowOf_24 : decode cX2_rowOf 24 = .ok (.aload_n 0, 1) := by decide +kernel
theorem dX2_rowOf_25 : decode cX2_rowOf 25 = .ok (.getfield 11, 3) := by decide +kernel
theorem dX2_rowOf_28 : decode cX2_rowOf 28 = .ok (.iload_n 1, 1) := by decide +kernel
theorem dX2_rowOf_29 : decode cX2_rowOf 29 = .ok (.aaload, 1) := by decide +kernel
theorem dX2_rowOf_30 : decode cX2_rowOf 30 = .ok (.areturn, 1) := by decide +kernel
theorem dX2_partOf_0 : decode cX2_partOf 0 = .ok (.iload_n 1, 1) := by decide +kernel
theorem dX2_partOf_1 : decode cX2_partOf 1 = .ok (.ifCond .lt 12, 3) := by decide +kernel
theorem dX2_partOf_4 : decode cX2_partOf 4 = .ok (.iload_n 1, 1) := by decide +kernel
theorem dX2_partOf_5 : decode cX2_partOf 5 = .ok (.aload_n 0, 1) := by decide +kernel
theorem dX2_partOf_6 : decode cX2_partOf 6 = .ok (.getfield 18, 3) := by decide +kernel
theorem dX2_partOf_9 : decode cX2_partOf 9 = .ok (.arraylength, 1) := by decide +kernel
theorem dX2_partOf_10 : decode cX2_partOf 10 = .ok (.if_icmp .lt 14, 3) := by decide +kernel
theorem dX2_partOf_24 : decode cX2_partOf 24 = .ok (.aload_n 0, 1) := by decide +kernel
theorem dX2_partOf_25 : decode cX2_partOf 25 = .ok (.getfield 18, 3) := by decide +kernel
theorem dX2_partOf_28 : decode cX2_partOf 28 = .ok (.iload_n 1, 1) := by decide +kernel
theorem dX2_partOf_29 : decode cX2_partOf 29 = .ok (.aaload, 1) := by decide +kernel
theorem dX2_partOf_30 : decode cX2_partOf 30 = .ok (.areturn, 1) := by decide +kernel
theorem dX2_needRoom_0 : decode cX2_needRoom 0 = .ok (.aload_n 0, 1) := by decide +kernel
theorem dX2_needRoom_1 : decode cX2_needRoom 1 = .ok (.getfield 51, 3) := by decide +kernel
theorem dX2_needRoom_4 : decode cX2_needRoom 4 = .ok (.iload_n 1, 1) := by decide +kernel
theorem dX2_needRoom_5 : decode cX2_needRoom 5 = .ok (.iadd, 1) := by decide +kernel
theorem dX2_needRoom_6 : decode cX2_needRoom 6 = .ok (.bipush 31, 2) := by decide +kernel
theorem dX2_needRoom_8 : decode cX2_needRoom 8 = .ok (.if_icmp .le 14, 3) := by decide +kernel
theorem dX2_needRoom_22 : decode cX2_needRoom 22 = .ok (.return_, 1) := by decide +kernel
theorem dX2_needCopies_0 : decode cX2_needCopies 0 = .ok (.iload_n 0, 1) := by decide +kernel
theorem dX2_needCopies_1 : decode cX2_needCopies 1 = .ok (.ifCond .lt 9, 3) := by decide +kernel
theorem dX2_needCopies_4 : decode cX2_needCopies 4 = .ok (.iload_n 0, 1) := by decide +kernel
theorem dX2_needCopies_5 : decode cX2_needCopies 5 = .ok (.bipush 31, 2) := by decide +kernel
theorem dX2_needCopies_7 : decode cX2_needCopies 7 = .ok (.if_icmp .le 14, 3) := by decide +kernel
theorem dX2_needCopies_21 : decode cX2_needCopies 21 = .ok (.return_, 1) := by decide +kernel
theorem dX2_needValue_0 : decode cX2_needValue 0 = .ok (.iload_n 0, 1) := by decide +kernel
theorem dX2_needValue_1 : decode cX2_needValue 1 = .ok (.ifCond .lt 9, 3) := by decide +kernel
theorem dX2_needValue_4 : decode cX2_needValue 4 = .ok (.iload_n 0, 1) := by decide +kernel
theorem dX2_needValue_5 : decode cX2_needValue 5 = .ok (.bipush 99, 2) := by decide +kernel
theorem dX2_needValue_7 : decode cX2_needValue 7 = .ok (.if_icmp .le 14, 3) := by decide +kernel
theorem dX2_needValue_21 : decode cX2_needValue 21 = .ok (.return_, 1) := by decide +kernel
theorem dX2_cardOf_0 : decode cX2_cardOf 0 = .ok (.iload_n 0, 1) := by decide +kernel
theorem dX2_cardOf_1 : decode cX2_cardOf 1 = .ok (.invokestatic 155, 3) := by decide +kernel
theorem dX2_cardOf_4 : decode cX2_cardOf 4 = .ok (.iload_n 1, 1) := by decide +kernel
theorem dX2_cardOf_5 : decode cX2_cardOf 5 = .ok (.ifCond .lt 9, 3) := by decide +kernel
theorem dX2_cardOf_8 : decode cX2_cardOf 8 = .ok (.iload_n 1, 1) := by decide +kernel
theorem dX2_cardOf_9 : decode cX2_cardOf 9 = .ok (.bipush 10, 2) := by decide +kernel
theorem dX2_cardOf_11 : decode cX2_cardOf 11 = .ok (.if_icmp .lt 14, 3) := by decide +kernel
theorem dX2_cardOf_25 : decode cX2_cardOf 25 = .ok (.iload_n 0, 1) := by decide +kernel
theorem dX2_cardOf_26 : decode cX2_cardOf 26 = .ok (.bipush 10, 2) := by decide +kernel
theorem dX2_cardOf_28 : decode cX2_cardOf 28 = .ok (.imul, 1) := by decide +kernel
theorem dX2_cardOf_29 : decode cX2_cardOf 29 = .ok (.iload_n 1, 1) := by decide +kernel
theorem dX2_cardOf_30 : decode cX2_cardOf 30 = .ok (.iadd, 1) := by decide +kernel
theorem dX2_cardOf_31 : decode cX2_cardOf 31 = .ok (.ireturn, 1) := by decide +kernel
theorem dX2_isSpan_0 : decode cX2_isSpan 0 = .ok (.iload_n 0, 1) := by decide +kernel
theorem dX2_isSpan_1 : decode cX2_isSpan 1 = .ok (.ifCond .lt 17, 3) := by decide +kernel
theorem dX2_isSpan_4 : decode cX2_isSpan 4 = .ok (.iload_n 1, 1) := by decide +kernel
theorem dX2_isSpan_5 : decode cX2_isSpan 5 = .ok (.iload_n 2, 1) := by decide +kernel
theorem dX2_isSpan_6 : decode cX2_isSpan 6 = .ok (.if_icmp .gt 12, 3) := by decide +kernel
theorem dX2_isSpan_9 : decode cX2_isSpan 9 = .ok (.iload_n 0, 1) := by decide +kernel
theorem dX2_isSpan_10 : decode cX2_isSpan 10 = .ok (.iload_n 1, 1) := by decide +kernel
theorem dX2_isSpan_11 : decode cX2_isSpan 11 = .ok (.if_icmp .gt 7, 3) := by decide +kernel
theorem dX2_isSpan_14 : decode cX2_isSpan 14 = .ok (.iconst 1, 1) := by decide +kernel
theorem dX2_isSpan_15 : decode cX2_isSpan 15 = .ok (.goto 4, 3) := by decide +kernel
theorem dX2_isSpan_19 : decode cX2_isSpan 19 = .ok (.ireturn, 1) := by decide +kernel
theorem dX2_reshape_0 : decode cX2_reshape 0 = .ok (.aload_n 1, 1) := by decide +kernel
theorem dX2_reshape_1 : decode cX2_reshape 1 = .ok (.iconst 0, 1) := by decide +kernel
theorem dX2_reshape_2 : decode cX2_reshape 2 = .ok (.putfield 100, 3) := by decide +kernel
theorem dX2_reshape_5 : decode cX2_reshape 5 = .ok (.aload_n 1, 1) := by decide +kernel
theorem dX2_reshape_6 : decode cX2_reshape 6 = .ok (.iconst (-1), 1) := by decide +kernel
theorem dX2_reshape_7 : decode cX2_reshape 7 = .ok (.putfield 211, 3) := by decide +kernel
theorem dX2_reshape_10 : decode cX2_reshape 10 = .ok (.aload_n 0, 1) := by decide +kernel
theorem dX2_reshape_11 : decode cX2_reshape 11 = .ok (.getfield 18, 3) := by decide +kernel
theorem dX2_reshape_14 : decode cX2_reshape 14 = .ok (.astore_n 2, 1) := by decide +kernel
theorem dX2_reshape_15 : decode cX2_reshape 15 = .ok (.aload_n 2, 1) := by decide +kernel
theorem dX2_reshape_16 : decode cX2_reshape 16 = .ok (.arraylength, 1) := by decide +kernel
theorem dX2_reshape_17 : decode cX2_reshape 17 = .ok (.istore_n 3, 1) := by decide +kernel
theorem dX2_reshape_18 : decode cX2_reshape 18 = .ok (.iconst 0, 1) := by decide +kernel
theorem dX2_reshape_19 : decode cX2_reshape 19 = .ok (.istore 4, 2) := by decide +kernel
theorem dX2_reshape_21 : decode cX2_reshape 21 = .ok (.iload 4, 2) := by decide +kernel
theorem dX2_reshape_23 : decode cX2_reshape 23 = .ok (.iload_n 3, 1) := by decide +kernel
theorem dX2_reshape_24 : decode cX2_reshape 24 = .ok (.if_icmp .ge 30, 3) := by decide +kernel
theorem dX2_reshape_27 : decode cX2_reshape 27 = .ok (.aload_n 2, 1) := by decide +kernel
theorem dX2_reshape_28 : decode cX2_reshape 28 = .ok (.iload 4, 2) := by decide +kernel
theorem dX2_reshape_30 : decode cX2_reshape 30 = .ok (.aaload, 1) := by decide +kernel
theorem dX2_reshape_31 : decode cX2_reshape 31 = .ok (.astore 5, 2) := by decide +kernel
theorem dX2_reshape_33 : decode cX2_reshape 33 = .ok (.aload 5, 2) := by decide +kernel
theorem dX2_reshape_35 : decode cX2_reshape 35 = .ok (.getfield 293, 3) := by decide +kernel
theorem dX2_reshape_38 : decode cX2_reshape 38 = .ok (.aload_n 1, 1) := by decide +kernel
theorem dX2_reshape_39 : decode cX2_reshape 39 = .ok (.if_acmp .ne 9, 3) := by decide +kernel
theorem dX2_reshape_48 : decode cX2_reshape 48 = .ok (.iinc 4 1, 3) := by decide +kernel
theorem dX2_reshape_51 : decode cX2_reshape 51 = .ok (.goto (-30), 3) := by decide +kernel
theorem dX2_reshape_54 : decode cX2_reshape 54 = .ok (.return_, 1) := by decide +kernel
theorem dX2_changeBy_0 : decode cX2_changeBy 0 = .ok (.aload_n 1, 1) := by decide +kernel
theorem dX2_changeBy_1 : decode cX2_changeBy 1 = .ok (.iconst 0, 1) := by decide +kernel
theorem dX2_changeBy_2 : decode cX2_changeBy 2 = .ok (.putfield 100, 3) := by decide +kernel
theorem dX2_changeBy_5 : decode cX2_changeBy 5 = .ok (.iload_n 2, 1) := by decide +kernel
theorem dX2_changeBy_6 : decode cX2_changeBy 6 = .ok (.ifCond .le 8, 3) := by decide +kernel
theorem dX2_changeBy_9 : decode cX2_changeBy 9 = .ok (.aload_n 0, 1) := by decide +kernel
theorem dX2_changeBy_10 : decode cX2_changeBy 10 = .ok (.aload_n 1, 1) := by decide +kernel
theorem dX2_changeBy_11 : decode cX2_changeBy 11 = .ok (.invokevirtual 47, 3) := by decide +kernel
theorem dX2_changeBy_14 : decode cX2_changeBy 14 = .ok (.return_, 1) := by decide +kernel
theorem dX2_lose_0 : decode cX2_lose 0 = .ok (.aload_n 0, 1) := by decide +kernel
theorem dX2_lose_1 : decode cX2_lose 1 = .ok (.getfield 18, 3) := by decide +kernel
theorem dX2_lose_4 : decode cX2_lose 4 = .ok (.astore_n 2, 1) := by decide +kernel
theorem dX2_lose_5 : decode cX2_lose 5 = .ok (.aload_n 2, 1) := by decide +kernel
theorem dX2_lose_6 : decode cX2_lose 6 = .ok (.arraylength, 1) := by decide +kernel
theorem dX2_lose_7 : decode cX2_lose 7 = .ok (.istore_n 3, 1) := by decide +kernel
theorem dX2_lose_8 : decode cX2_lose 8 = .ok (.iconst 0, 1) := by decide +kernel
theorem dX2_lose_9 : decode cX2_lose 9 = .ok (.istore 4, 2) := by decide +kernel
theorem dX2_lose_11 : decode cX2_lose 11 = .ok (.iload 4, 2) := by decide +kernel
theorem dX2_lose_13 : decode cX2_lose 13 = .ok (.iload_n 3, 1) := by decide +kernel
theorem dX2_lose_14 : decode cX2_lose 14 = .ok (.if_icmp .ge 30, 3) := by decide +kernel
theorem dX2_lose_17 : decode cX2_lose 17 = .ok (.aload_n 2, 1) := by decide +kernel
theorem dX2_lose_18 : decode cX2_lose 18 = .ok (.iload 4, 2) := by decide +kernel
theorem dX2_lose_20 : decode cX2_lose 20 = .ok (.aaload, 1) := by decide +kernel
theorem dX2_lose_21 : decode cX2_lose 21 = .ok (.astore 5, 2) := by decide +kernel
theorem dX2_lose_23 : decode cX2_lose 23 = .ok (.aload 5, 2) := by decide +kernel
theorem dX2_lose_25 : decode cX2_lose 25 = .ok (.aload_n 1, 1) := by decide +kernel
theorem dX2_lose_26 : decode cX2_lose 26 = .ok (.invokevirtual 193, 3) := by decide +kernel
theorem dX2_lose_29 : decode cX2_lose 29 = .ok (.ifCond .eq 9, 3) := by decide +kernel
theorem dX2_lose_32 : decode cX2_lose 32 = .ok (.aload 5, 2) := by decide +kernel
theorem dX2_lose_34 : decode cX2_lose 34 = .ok (.aconst_null, 1) := by decide +kernel
theorem dX2_lose_35 : decode cX2_lose 35 = .ok (.putfield 293, 3) := by decide +kernel
theorem dX2_lose_38 : decode cX2_lose 38 = .ok (.iinc 4 1, 3) := by decide +kernel
theorem dX2_lose_41 : decode cX2_lose 41 = .ok (.goto (-30), 3) := by decide +kernel
theorem dX2_lose_44 : decode cX2_lose 44 = .ok (.return_, 1) := by decide +kernel
theorem dX2_comesBefore_0 : decode cX2_comesBefore 0 = .ok (.iload_n 2, 1) := by decide +kernel
theorem dX2_comesBefore_1 : decode cX2_comesBefore 1 = .ok (.ifCond .eq 16, 3) := by decide +kernel
theorem dX2_comesBefore_17 : decode cX2_comesBefore 17 = .ok (.iload_n 0, 1) := by decide +kernel
theorem dX2_comesBefore_18 : decode cX2_comesBefore 18 = .ok (.iload_n 1, 1) := by decide +kernel
theorem dX2_comesBefore_19 : decode cX2_comesBefore 19 = .ok (.if_icmp .ge 7, 3) := by decide +kernel
theorem dX2_comesBefore_26 : decode cX2_comesBefore 26 = .ok (.iconst 0, 1) := by decide +kernel
theorem dX2_comesBefore_27 : decode cX2_comesBefore 27 = .ok (.ireturn, 1) := by decide +kernel
theorem dX2_extremeOf_0 : decode cX2_extremeOf 0 = .ok (.aload_n 0, 1) := by decide +kernel
theorem dX2_extremeOf_1 : decode cX2_extremeOf 1 = .ok (.getfield 51, 3) := by decide +kernel
theorem dX2_extremeOf_4 : decode cX2_extremeOf 4 = .ok (.ifCond .ne 6, 3) := by decide +kernel
theorem dX2_extremeOf_7 : decode cX2_extremeOf 7 = .ok (.bipush (-9), 2) := by decide +kernel
theorem dX2_extremeOf_9 : decode cX2_extremeOf 9 = .ok (.ireturn, 1) := by decide +kernel
theorem dX2_extremeOf_10 : decode cX2_extremeOf 10 = .ok (.aload_n 0, 1) := by decide +kernel
theorem dX2_extremeOf_11 : decode cX2_extremeOf 11 = .ok (.iconst 0, 1) := by decide +kernel
theorem dX2_extremeOf_12 : decode cX2_extremeOf 12 = .ok (.invokevirtual 68, 3) := by decide +kernel
theorem dX2_extremeOf_15 : decode cX2_extremeOf 15 = .ok (.istore_n 2, 1) := by decide +kernel
theorem dX2_extremeOf_16 : decode cX2_extremeOf 16 = .ok (.iconst 1, 1) := by decide +kernel
theorem dX2_extremeOf_17 : decode cX2_extremeOf 17 = .ok (.istore_n 3, 1) := by decide +kernel
theorem dX2_extremeOf_18 : decode cX2_extremeOf 18 = .ok (.iload_n 3, 1) := by decide +kernel
theorem dX2_extremeOf_19 : decode cX2_extremeOf 19 = .ok (.aload_n 0, 1) := by decide +kernel
theorem dX2_extremeOf_20 : decode cX2_extremeOf 20 = .ok (.getfield 51, 3) := by decide +kernel
theorem dX2_extremeOf_23 : decode cX2_extremeOf 23 = .ok (.if_icmp .ge 36, 3) := by decide +kernel
theorem dX2_extremeOf_26 : decode cX2_extremeOf 26 = .ok (.aload_n 0, 1) := by decide +kernel
theorem dX2_extremeOf_27 : decode cX2_extremeOf 27 = .ok (.iload_n 3, 1) := by decide +kernel
theorem dX2_extremeOf_28 : decode cX2_extremeOf 28 = .ok (.invokevirtual 68, 3) := by decide +kernel
theorem dX2_extremeOf_31 : decode cX2_extremeOf 31 = .ok (.istore 4, 2) := by decide +kernel
theorem dX2_extremeOf_33 : decode cX2_extremeOf 33 = .ok (.iload_n 1, 1) := by decide +kernel
theorem dX2_extremeOf_34 : decode cX2_extremeOf 34 = .ok (.ifCond .eq 12, 3) := by decide +kernel
theorem dX2_extremeOf_37 : decode cX2_extremeOf 37 = .ok (.iload_n 2, 1) := by decide +kernel
theorem dX2_extremeOf_38 : decode cX2_extremeOf 38 = .ok (.iload 4, 2) := by decide +kernel
theorem dX2_extremeOf_40 : decode cX2_extremeOf 40 = .ok (.invokestatic 321, 3) := by decide +kernel
theorem dX2_extremeOf_43 : decode cX2_extremeOf 43 = .ok (.goto 9, 3) := by decide +kernel
theorem dX2_extremeOf_46 : decode cX2_extremeOf 46 = .ok (.iload_n 2, 1) := by decide +kernel
theorem dX2_extremeOf_47 : decode cX2_extremeOf 47 = .ok (.iload 4, 2) := by decide +kernel
theorem dX2_extremeOf_49 : decode cX2_extremeOf 49 = .ok (.invokestatic 326, 3) := by decide +kernel
theorem dX2_extremeOf_52 : decode cX2_extremeOf 52 = .ok (.istore_n 2, 1) := by decide +kernel
theorem dX2_extremeOf_53 : decode cX2_extremeOf 53 = .ok (.iinc 3 1, 3) := by decide +kernel
theorem dX2_extremeOf_56 : decode cX2_extremeOf 56 = .ok (.goto (-38), 3) := by decide +kernel
theorem dX2_extremeOf_59 : decode cX2_extremeOf 59 = .ok (.iload_n 2, 1) := by decide +kernel
theorem dX2_extremeOf_60 : decode cX2_extremeOf 60 = .ok (.ireturn, 1) := by decide +kernel
theorem dX2_haveNoneInCommon_0 : decode cX2_haveNoneInCommon 0 = .ok (.iconst 0, 1) := by decide +kernel
theorem dX2_haveNoneInCommon_1 : decode cX2_haveNoneInCommon 1 = .ok (.istore_n 2, 1) := by decide +kernel
theorem dX2_haveNoneInCommon_2 : decode cX2_haveNoneInCommon 2 = .ok (.iload_n 2, 1) := by decide +kernel
theorem dX2_haveNoneInCommon_3 : decode cX2_haveNoneInCommon 3 = .ok (.aload_n 0, 1) := by decide +kernel
theorem dX2_haveNoneInCommon_4 : decode cX2_haveNoneInCommon 4 = .ok (.getfield 51, 3) := by decide +kernel
theorem dX2_haveNoneInCommon_7 : decode cX2_haveNoneInCommon 7 = .ok (.if_icmp .ge 24, 3) := by decide +kernel
theorem dX2_haveNoneInCommon_10 : decode cX2_haveNoneInCommon 10 = .ok (.aload_n 1, 1) := by decide +kernel
theorem dX2_haveNoneInCommon_11 : decode cX2_haveNoneInCommon 11 = .ok (.aload_n 0, 1) := by decide +kernel
theorem dX2_haveNoneInCommon_12 : decode cX2_haveNoneInCommon 12 = .ok (.iload_n 2, 1) := by decide +kernel
theorem dX2_haveNoneInCommon_13 : decode cX2_haveNoneInCommon 13 = .ok (.invokevirtual 103, 3) := by decide +kernel
theorem dX2_haveNoneInCommon_16 : decode cX2_haveNoneInCommon 16 = .ok (.invokevirtual 136, 3) := by decide +kernel
theorem dX2_haveNoneInCommon_19 : decode cX2_haveNoneInCommon 19 = .ok (.iconst (-1), 1) := by decide +kernel
theorem dX2_haveNoneInCommon_20 : decode cX2_haveNoneInCommon 20 = .ok (.if_icmp .eq 5, 3) := by decide +kernel
theorem dX2_haveNoneInCommon_23 : decode cX2_haveNoneInCommon 23 = .ok (.iconst 0, 1) := by decide +kernel
theorem dX2_haveNoneInCommon_24 : decode cX2_haveNoneInCommon 24 = .ok (.ireturn, 1) := by decide +kernel
theorem dX2_haveNoneInCommon_25 : decode cX2_haveNoneInCommon 25 = .ok (.iinc 2 1, 3) := by decide +kernel
theorem dX2_haveNoneInCommon_28 : decode cX2_haveNoneInCommon 28 = .ok (.goto (-26), 3) := by decide +kernel
theorem dX2_haveNoneInCommon_31 : decode cX2_haveNoneInCommon 31 = .ok (.iconst 1, 1) := by decide +kernel
theorem dX2_haveNoneInCommon_32 : decode cX2_haveNoneInCommon 32 = .ok (.ireturn, 1) := by decide +kernel
theorem dX2_placeOfRow_0 : decode cX2_placeOfRow 0 = .ok (.aload_n 0, 1) := by decide +kernel
theorem dX2_placeOfRow_1 : decode cX2_placeOfRow 1 = .ok (.iconst 0, 1) := by decide +kernel
theorem dX2_placeOfRow_2 : decode cX2_placeOfRow 2 = .ok (.aload_n 0, 1) := by decide +kernel
theorem dX2_placeOfRow_3 : decode cX2_placeOfRow 3 = .ok (.getfield 51, 3) := by decide +kernel
theorem dX2_placeOfRow_6 : decode cX2_placeOfRow 6 = .ok (.aload_n 1, 1) := by decide +kernel
theorem dX2_placeOfRow_7 : decode cX2_placeOfRow 7 = .ok (.iconst 0, 1) := by decide +kernel
theorem dX2_placeOfRow_8 : decode cX2_placeOfRow 8 = .ok (.aload_n 1, 1) := by decide +kernel
theorem dX2_placeOfRow_9 : decode cX2_placeOfRow 9 = .ok (.getfield 51, 3) := by decide +kernel
theorem dX2_placeOfRow_12 : decode cX2_placeOfRow 12 = .ok (.invokevirtual 233, 3) := by decide +kernel
theorem dX2_placeOfRow_15 : decode cX2_placeOfRow 15 = .ok (.ireturn, 1) := by decide +kernel
theorem dX2_stepsLeft_0 : decode cX2_stepsLeft 0 = .ok (.aload_n 0, 1) := by decide +kernel
theorem dX2_stepsLeft_1 : decode cX2_stepsLeft 1 = .ok (.getfield 211, 3) := by decide +kernel
theorem dX2_stepsLeft_4 : decode cX2_stepsLeft 4 = .ok (.iconst (-1), 1) := by decide +kernel
theorem dX2_stepsLeft_5 : decode cX2_stepsLeft 5 = .ok (.if_icmp .ne 5, 3) := by decide +kernel
theorem dX2_stepsLeft_8 : decode cX2_stepsLeft 8 = .ok (.iconst (-1), 1) := by decide +kernel
theorem dX2_stepsLeft_9 : decode cX2_stepsLeft 9 = .ok (.ireturn, 1) := by decide +kernel
theorem dX2_allCards_0 : decode cX2_allCards 0 = .ok (.iconst 0, 1) := by decide +kernel
theorem dX2_allCards_1 : decode cX2_allCards 1 = .ok (.istore_n 1, 1) := by decide +kernel
theorem dX2_allCards_2 : decode cX2_allCards 2 = .ok (.aload_n 0, 1) := by decide +kernel
theorem dX2_allCards_3 : decode cX2_allCards 3 = .ok (.getfield 11, 3) := by decide +kernel
theorem dX2_allCards_6 : decode cX2_allCards 6 = .ok (.astore_n 2, 1) := by decide +kernel
theorem dX2_allCards_7 : decode cX2_allCards 7 = .ok (.aload_n 2, 1) := by decide +kernel
theorem dX2_allCards_8 : decode cX2_allCards 8 = .ok (.arraylength, 1) := by decide +kernel
theorem dX2_allCards_9 : decode cX2_allCards 9 = .ok (.istore_n 3, 1) := by decide +kernel
theorem dX2_allCards_10 : decode cX2_allCards 10 = .ok (.iconst 0, 1) := by decide +kernel
theorem dX2_allCards_11 : decode cX2_allCards 11 = .ok (.istore 4, 2) := by decide +kernel
theorem dX2_allCards_13 : decode cX2_allCards 13 = .ok (.iload 4, 2) := by decide +kernel
theorem dX2_allCards_15 : decode cX2_allCards 15 = .ok (.iload_n 3, 1) := by decide +kernel
theorem dX2_allCards_16 : decode cX2_allCards 16 = .ok (.if_icmp .ge 23, 3) := by decide +kernel
theorem dX2_allCards_19 : decode cX2_allCards 19 = .ok (.aload_n 2, 1) := by decide +kernel
theorem dX2_allCards_20 : decode cX2_allCards 20 = .ok (.iload 4, 2) := by decide +kernel
theorem dX2_allCards_22 : decode cX2_allCards 22 = .ok (.aaload, 1) := by decide +kernel
theorem dX2_allCards_23 : decode cX2_allCards 23 = .ok (.astore 5, 2) := by decide +kernel
theorem dX2_allCards_25 : decode cX2_allCards 25 = .ok (.iload_n 1, 1) := by decide +kernel
theorem dX2_allCards_26 : decode cX2_allCards 26 = .ok (.aload 5, 2) := by decide +kernel
theorem dX2_allCards_28 : decode cX2_allCards 28 = .ok (.getfield 51, 3) := by decide +kernel
theorem dX2_allCards_31 : decode cX2_allCards 31 = .ok (.iadd, 1) := by decide +kernel
theorem dX2_allCards_32 : decode cX2_allCards 32 = .ok (.istore_n 1, 1) := by decide +kernel
theorem dX2_allCards_33 : decode cX2_allCards 33 = .ok (.iinc 4 1, 3) := by decide +kernel
theorem dX2_allCards_36 : decode cX2_allCards 36 = .ok (.goto (-23), 3) := by decide +kernel
theorem dX2_allCards_39 : decode cX2_allCards 39 = .ok (.iload_n 1, 1) := by decide +kernel
theorem dX2_allCards_40 : decode cX2_allCards 40 = .ok (.ireturn, 1) := by decide +kernel
theorem dX2_allParts_0 : decode cX2_allParts 0 = .ok (.iconst 0, 1) := by decide +kernel
theorem dX2_allParts_1 : decode cX2_allParts 1 = .ok (.istore_n 1, 1) := by decide +kernel
theorem dX2_allParts_2 : decode cX2_allParts 2 = .ok (.aload_n 0, 1) := by decide +kernel
theorem dX2_allParts_3 : decode cX2_allParts 3 = .ok (.getfield 18, 3) := by decide +kernel
theorem dX2_allParts_6 : decode cX2_allParts 6 = .ok (.astore_n 2, 1) := by decide +kernel
theorem dX2_allParts_7 : decode cX2_allParts 7 = .ok (.aload_n 2, 1) := by decide +kernel
theorem dX2_allParts_8 : decode cX2_allParts 8 = .ok (.arraylength, 1) := by decide +kernel
theorem dX2_allParts_9 : decode cX2_allParts 9 = .ok (.istore_n 3, 1) := by decide +kernel
theorem dX2_allParts_10 : decode cX2_allParts 10 = .ok (.iconst 0, 1) := by decide +kernel
theorem dX2_allParts_11 : decode cX2_allParts 11 = .ok (.istore 4, 2) := by decide +kernel
theorem dX2_allParts_13 : decode cX2_allParts 13 = .ok (.iload 4, 2) := by decide +kernel
theorem dX2_allParts_15 : decode cX2_allParts 15 = .ok (.iload_n 3, 1) := by decide +kernel
theorem dX2_allParts_16 : decode cX2_allParts 16 = .ok (.if_icmp .ge 26, 3) := by decide +kernel
theorem dX2_allParts_19 : decode cX2_allParts 19 = .ok (.aload_n 2, 1) := by decide +kernel
theorem dX2_allParts_20 : decode cX2_allParts 20 = .ok (.iload 4, 2) := by decide +kernel
theorem dX2_allParts_22 : decode cX2_allParts 22 = .ok (.aaload, 1) := by decide +kernel
theorem dX2_allParts_23 : decode cX2_allParts 23 = .ok (.astore 5, 2) := by decide +kernel
theorem dX2_allParts_25 : decode cX2_allParts 25 = .ok (.aload 5, 2) := by decide +kernel
theorem dX2_allParts_27 : decode cX2_allParts 27 = .ok (.invokevirtual 204, 3) := by decide +kernel
theorem dX2_allParts_30 : decode cX2_allParts 30 = .ok (.ifCond .eq 6, 3) := by decide +kernel
theorem dX2_allParts_33 : decode cX2_allParts 33 = .ok (.iinc 1 1, 3) := by decide +kernel
theorem dX2_allParts_36 : decode cX2_allParts 36 = .ok (.iinc 4 1, 3) := by decide +kernel
theorem dX2_allParts_39 : decode cX2_allParts 39 = .ok (.goto (-26), 3) := by decide +kernel
theorem dX2_allParts_42 : decode cX2_allParts 42 = .ok (.iload_n 1, 1) := by decide +kernel
theorem dX2_allParts_43 : decode cX2_allParts 43 = .ok (.ireturn, 1) := by decide +kernel
theorem dX2_allWalks_0 : decode cX2_allWalks 0 = .ok (.iconst 0, 1) := by decide +kernel
theorem dX2_allWalks_1 : decode cX2_allWalks 1 = .ok (.istore_n 1, 1) := by decide +kernel
theorem dX2_allWalks_2 : decode cX2_allWalks 2 = .ok (.aload_n 0, 1) := by decide +kernel
theorem dX2_allWalks_3 : decode cX2_allWalks 3 = .ok (.getfield 11, 3) := by decide +kernel
theorem dX2_allWalks_6 : decode cX2_allWalks 6 = .ok (.astore_n 2, 1) := by decide +kernel
theorem dX2_allWalks_7 : decode cX2_allWalks 7 = .ok (.aload_n 2, 1) := by decide +kernel
theorem dX2_allWalks_8 : decode cX2_allWalks 8 = .ok (.arraylength, 1) := by decide +kernel
theorem dX2_allWalks_9 : decode cX2_allWalks 9 = .ok (.istore_n 3, 1) := by decide +kernel
theorem dX2_allWalks_10 : decode cX2_allWalks 10 = .ok (.iconst 0, 1) := by decide +kernel
theorem dX2_allWalks_11 : decode cX2_allWalks 11 = .ok (.istore 4, 2) := by decide +kernel
theorem dX2_allWalks_13 : decode cX2_allWalks 13 = .ok (.iload 4, 2) := by decide +kernel
theorem dX2_allWalks_15 : decode cX2_allWalks 15 = .ok (.iload_n 3, 1) := by decide +kernel
theorem dX2_allWalks_16 : decode cX2_allWalks 16 = .ok (.if_icmp .ge 27, 3) := by decide +kernel
theorem dX2_allWalks_19 : decode cX2_allWalks 19 = .ok (.aload_n 2, 1) := by decide +kernel
theorem dX2_allWalks_20 : decode cX2_allWalks 20 = .ok (.iload 4, 2) := by decide +kernel
theorem dX2_allWalks_22 : decode cX2_allWalks 22 = .ok (.aaload, 1) := by decide +kernel
theorem dX2_allWalks_23 : decode cX2_allWalks 23 = .ok (.astore 5, 2) := by decide +kernel
theorem dX2_allWalks_25 : decode cX2_allWalks 25 = .ok (.aload 5, 2) := by decide +kernel
theorem dX2_allWalks_27 : decode cX2_allWalks 27 = .ok (.getfield 211, 3) := by decide +kernel
theorem dX2_allWalks_30 : decode cX2_allWalks 30 = .ok (.iconst (-1), 1) := by decide +kernel
theorem dX2_allWalks_31 : decode cX2_allWalks 31 = .ok (.if_icmp .eq 6, 3) := by decide +kernel
theorem dX2_allWalks_37 : decode cX2_allWalks 37 = .ok (.iinc 4 1, 3) := by decide +kernel
theorem dX2_allWalks_40 : decode cX2_allWalks 40 = .ok (.goto (-27), 3) := by decide +kernel
theorem dX2_allWalks_43 : decode cX2_allWalks 43 = .ok (.iload_n 1, 1) := by decide +kernel
theorem dX2_allWalks_44 : decode cX2_allWalks 44 = .ok (.ireturn, 1) := by decide +kernel
theorem dX2_isRowSound_0 : decode cX2_isRowSound 0 = .ok (.aload_n 0, 1) := by decide +kernel
theorem dX2_isRowSound_1 : decode cX2_isRowSound 1 = .ok (.getfield 23, 3) := by decide +kernel
theorem dX2_isRowSound_4 : decode cX2_isRowSound 4 = .ok (.aload_n 1, 1) := by decide +kernel
theorem dX2_isRowSound_5 : decode cX2_isRowSound 5 = .ok (.invokevirtual 94, 3) := by decide +kernel
theorem dX2_isRowSound_8 : decode cX2_isRowSound 8 = .ok (.aload_n 0, 1) := by decide +kernel
theorem dX2_isRowSound_9 : decode cX2_isRowSound 9 = .ok (.getfield 23, 3) := by decide +kernel
theorem dX2_isRowSound_12 : decode cX2_isRowSound 12 = .ok (.iconst 0, 1) := by decide +kernel
theorem dX2_isRowSound_13 : decode cX2_isRowSound 13 = .ok (.aload_n 0, 1) := by decide +kernel
theorem dX2_isRowSound_14 : decode cX2_isRowSound 14 = .ok (.getfield 23, 3) := by decide +kernel
theorem dX2_isRowSound_17 : decode cX2_isRowSound 17 = .ok (.getfield 51, 3) := by decide +kernel
theorem dX2_isRowSound_20 : decode cX2_isRowSound 20 = .ok (.invokevirtual 314, 3) := by decide +kernel
theorem dX2_isRowSound_23 : decode cX2_isRowSound 23 = .ok (.aload_n 0, 1) := by decide +kernel
theorem dX2_isRowSound_24 : decode cX2_isRowSound 24 = .ok (.getfield 23, 3) := by decide +kernel
theorem dX2_isRowSound_27 : decode cX2_isRowSound 27 = .ok (.iconst 0, 1) := by decide +kernel
theorem dX2_isRowSound_28 : decode cX2_isRowSound 28 = .ok (.aload_n 0, 1) := by decide +kernel
theorem dX2_isRowSound_29 : decode cX2_isRowSound 29 = .ok (.getfield 23, 3) := by decide +kernel
theorem dX2_isRowSound_32 : decode cX2_isRowSound 32 = .ok (.getfield 51, 3) := by decide +kernel
theorem dX2_isRowSound_35 : decode cX2_isRowSound 35 = .ok (.invokevirtual 314, 3) := by decide +kernel
theorem dX2_isRowSound_38 : decode cX2_isRowSound 38 = .ok (.aload_n 0, 1) := by decide +kernel
theorem dX2_isRowSound_39 : decode cX2_isRowSound 39 = .ok (.getfield 23, 3) := by decide +kernel
theorem dX2_isRowSound_42 : decode cX2_isRowSound 42 = .ok (.iconst 0, 1) := by decide +kernel
theorem dX2_isRowSound_43 : decode cX2_isRowSound 43 = .ok (.aload_n 0, 1) := by decide +kernel
theorem dX2_isRowSound_44 : decode cX2_isRowSound 44 = .ok (.getfield 23, 3) := by decide +kernel
theorem dX2_isRowSound_47 : decode cX2_isRowSound 47 = .ok (.getfield 51, 3) := by decide +kernel
theorem dX2_isRowSound_50 : decode cX2_isRowSound 50 = .ok (.iconst 5, 1) := by decide +kernel
theorem dX2_isRowSound_51 : decode cX2_isRowSound 51 = .ok (.invokevirtual 317, 3) := by decide +kernel
theorem dX2_isRowSound_54 : decode cX2_isRowSound 54 = .ok (.aload_n 0, 1) := by decide +kernel
theorem dX2_isRowSound_55 : decode cX2_isRowSound 55 = .ok (.getfield 23, 3) := by decide +kernel
theorem dX2_isRowSound_58 : decode cX2_isRowSound 58 = .ok (.iconst 0, 1) := by decide +kernel
theorem dX2_isRowSound_59 : decode cX2_isRowSound 59 = .ok (.aload_n 0, 1) := by decide +kernel
theorem dX2_isRowSound_60 : decode cX2_isRowSound 60 = .ok (.getfield 23, 3) := by decide +kernel
theorem dX2_isRowSound_63 : decode cX2_isRowSound 63 = .ok (.getfield 51, 3) := by decide +kernel
theorem dX2_isRowSound_66 : decode cX2_isRowSound 66 = .ok (.bipush (-5), 2) := by decide +kernel
theorem dX2_isRowSound_68 : decode cX2_isRowSound 68 = .ok (.invokevirtual 317, 3) := by decide +kernel
theorem dX2_isRowSound_71 : decode cX2_isRowSound 71 = .ok (.aload_n 0, 1) := by decide +kernel
theorem dX2_isRowSound_72 : decode cX2_isRowSound 72 = .ok (.getfield 23, 3) := by decide +kernel
theorem dX2_isRowSound_75 : decode cX2_isRowSound 75 = .ok (.aload_n 1, 1) := by decide +kernel
theorem dX2_isRowSound_76 : decode cX2_isRowSound 76 = .ok (.invokevirtual 143, 3) := by decide +kernel
theorem dX2_isRowSound_79 : decode cX2_isRowSound 79 = .ok (.ifCond .ne 5, 3) := by decide +kernel
theorem dX2_isRowSound_84 : decode cX2_isRowSound 84 = .ok (.aload_n 0, 1) := by decide +kernel
theorem dX2_isRowSound_85 : decode cX2_isRowSound 85 = .ok (.getfield 23, 3) := by decide +kernel
theorem dX2_isRowSound_88 : decode cX2_isRowSound 88 = .ok (.iconst 0, 1) := by decide +kernel
theorem dX2_isRowSound_89 : decode cX2_isRowSound 89 = .ok (.aload_n 0, 1) := by decide +kernel
theorem dX2_isRowSound_90 : decode cX2_isRowSound 90 = .ok (.getfield 23, 3) := by decide +kernel
theorem dX2_isRowSound_93 : decode cX2_isRowSound 93 = .ok (.getfield 51, 3) := by decide +kernel
theorem dX2_isRowSound_96 : decode cX2_isRowSound 96 = .ok (.iconst 0, 1) := by decide +kernel
theorem dX2_isRowSound_97 : decode cX2_isRowSound 97 = .ok (.invokevirtual 116, 3) := by decide +kernel
theorem dX2_isRowSound_100 : decode cX2_isRowSound 100 = .ok (.iconst 0, 1) := by decide +kernel
theorem dX2_isRowSound_101 : decode cX2_isRowSound 101 = .ok (.istore_n 2, 1) := by decide +kernel
theorem dX2_isRowSound_102 : decode cX2_isRowSound 102 = .ok (.iload_n 2, 1) := by decide +kernel
theorem dX2_isRowSound_103 : decode cX2_isRowSound 103 = .ok (.aload_n 1, 1) := by decide +kernel
theorem dX2_isRowSound_104 : decode cX2_isRowSound 104 = .ok (.getfield 51, 3) := by decide +kernel
theorem dX2_isRowSound_107 : decode cX2_isRowSound 107 = .ok (.if_icmp .ge 33, 3) := by decide +kernel
theorem dX2_isRowSound_110 : decode cX2_isRowSound 110 = .ok (.aload_n 1, 1) := by decide +kernel
theorem dX2_isRowSound_111 : decode cX2_isRowSound 111 = .ok (.iload_n 2, 1) := by decide +kernel
theorem dX2_isRowSound_112 : decode cX2_isRowSound 112 = .ok (.invokevirtual 103, 3) := by decide +kernel
theorem dX2_isRowSound_115 : decode cX2_isRowSound 115 = .ok (.istore_n 3, 1) := by decide +kernel
theorem dX2_isRowSound_116 : decode cX2_isRowSound 116 = .ok (.aload_n 0, 1) := by decide +kernel
theorem dX2_isRowSound_117 : decode cX2_isRowSound 117 = .ok (.getfield 23, 3) := by decide +kernel
theorem dX2_isRowSound_120 : decode cX2_isRowSound 120 = .ok (.iload_n 3, 1) := by decide +kernel
theorem dX2_isRowSound_121 : decode cX2_isRowSound 121 = .ok (.invokevirtual 130, 3) := by decide +kernel
theorem dX2_isRowSound_124 : decode cX2_isRowSound 124 = .ok (.aload_n 1, 1) := by decide +kernel
theorem dX2_isRowSound_125 : decode cX2_isRowSound 125 = .ok (.iload_n 3, 1) := by decide +kernel
theorem dX2_isRowSound_126 : decode cX2_isRowSound 126 = .ok (.invokevirtual 130, 3) := by decide +kernel
theorem dX2_isRowSound_129 : decode cX2_isRowSound 129 = .ok (.if_icmp .eq 5, 3) := by decide +kernel
theorem dX2_isRowSound_134 : decode cX2_isRowSound 134 = .ok (.iinc 2 1, 3) := by decide +kernel
theorem dX2_isRowSound_137 : decode cX2_isRowSound 137 = .ok (.goto (-35), 3) := by decide +kernel
theorem dX2_isRowSound_140 : decode cX2_isRowSound 140 = .ok (.aload_n 1, 1) := by decide +kernel
theorem dX2_isRowSound_141 : decode cX2_isRowSound 141 = .ok (.getfield 51, 3) := by decide +kernel
theorem dX2_isRowSound_144 : decode cX2_isRowSound 144 = .ok (.ifCond .eq 19, 3) := by decide +kernel
theorem dX2_isRowSound_147 : decode cX2_isRowSound 147 = .ok (.aload_n 0, 1) := by decide +kernel
theorem dX2_isRowSound_148 : decode cX2_isRowSound 148 = .ok (.getfield 23, 3) := by decide +kernel
theorem dX2_isRowSound_151 : decode cX2_isRowSound 151 = .ok (.iconst 0, 1) := by decide +kernel
theorem dX2_isRowSound_152 : decode cX2_isRowSound 152 = .ok (.invokevirtual 68, 3) := by decide +kernel
theorem dX2_isRowSound_155 : decode cX2_isRowSound 155 = .ok (.aload_n 1, 1) := by decide +kernel
theorem dX2_isRowSound_156 : decode cX2_isRowSound 156 = .ok (.iconst 1, 1) := by decide +kernel
theorem dX2_isRowSound_157 : decode cX2_isRowSound 157 = .ok (.invokestatic 151, 3) := by decide +kernel
theorem dX2_isRowSound_160 : decode cX2_isRowSound 160 = .ok (.if_icmp .ne 7, 3) := by decide +kernel
theorem dX2_isRowSound_163 : decode cX2_isRowSound 163 = .ok (.iconst 1, 1) := by decide +kernel
theorem dX2_isRowSound_164 : decode cX2_isRowSound 164 = .ok (.goto 4, 3) := by decide +kernel
theorem dX2_isRowSound_168 : decode cX2_isRowSound 168 = .ok (.ireturn, 1) := by decide +kernel
theorem dX2_isPartSound_0 : decode cX2_isPartSound 0 = .ok (.aload_n 0, 1) := by decide +kernel
theorem dX2_isPartSound_1 : decode cX2_isPartSound 1 = .ok (.getfield 293, 3) := by decide +kernel
theorem dX2_isPartSound_4 : decode cX2_isPartSound 4 = .ok (.astore_n 1, 1) := by decide +kernel
theorem dX2_isPartSound_5 : decode cX2_isPartSound 5 = .ok (.aload_n 1, 1) := by decide +kernel
theorem dX2_isPartSound_6 : decode cX2_isPartSound 6 = .ok (.ifnull 25, 3) := by decide +kernel
theorem dX2_isPartSound_9 : decode cX2_isPartSound 9 = .ok (.aload_n 1, 1) := by decide +kernel
theorem dX2_isPartSound_10 : decode cX2_isPartSound 10 = .ok (.iconst 0, 1) := by decide +kernel
theorem dX2_isPartSound_11 : decode cX2_isPartSound 11 = .ok (.aload_n 1, 1) := by decide +kernel
theorem dX2_isPartSound_12 : decode cX2_isPartSound 12 = .ok (.getfield 51, 3) := by decide +kernel
theorem dX2_isPartSound_15 : decode cX2_isPartSound 15 = .ok (.aload_n 1, 1) := by decide +kernel
theorem dX2_isPartSound_16 : decode cX2_isPartSound 16 = .ok (.aload_n 0, 1) := by decide +kernel
theorem dX2_isPartSound_17 : decode cX2_isPartSound 17 = .ok (.getfield 201, 3) := by decide +kernel
theorem dX2_isPartSound_20 : decode cX2_isPartSound 20 = .ok (.aload_n 0, 1) := by decide +kernel
theorem dX2_isPartSound_21 : decode cX2_isPartSound 21 = .ok (.getfield 208, 3) := by decide +kernel
theorem dX2_isPartSound_24 : decode cX2_isPartSound 24 = .ok (.invokevirtual 233, 3) := by decide +kernel
theorem dX2_isPartSound_27 : decode cX2_isPartSound 27 = .ok (.iconst (-1), 1) := by decide +kernel
theorem dX2_isPartSound_28 : decode cX2_isPartSound 28 = .ok (.if_icmp .eq 7, 3) := by decide +kernel
theorem dX2_isPartSound_31 : decode cX2_isPartSound 31 = .ok (.iconst 1, 1) := by decide +kernel
theorem dX2_isPartSound_32 : decode cX2_isPartSound 32 = .ok (.goto 4, 3) := by decide +kernel
theorem dX2_isPartSound_36 : decode cX2_isPartSound 36 = .ok (.ireturn, 1) := by decide +kernel
theorem dX2_writePart_0 : decode cX2_writePart 0 = .ok (.aload_n 1, 1) := by decide +kernel
theorem dX2_writePart_1 : decode cX2_writePart 1 = .ok (.getfield 293, 3) := by decide +kernel
theorem dX2_writePart_4 : decode cX2_writePart 4 = .ok (.astore_n 2, 1) := by decide +kernel
theorem dX2_writePart_5 : decode cX2_writePart 5 = .ok (.aload_n 2, 1) := by decide +kernel
theorem dX2_writePart_6 : decode cX2_writePart 6 = .ok (.ifnonnull 13, 3) := by decide +kernel
theorem dX2_writePart_19 : decode cX2_writePart 19 = .ok (.aload_n 0, 1) := by decide +kernel
theorem dX2_writePart_20 : decode cX2_writePart 20 = .ok (.aload_n 2, 1) := by decide +kernel
theorem dX2_writePart_21 : decode cX2_writePart 21 = .ok (.aload_n 1, 1) := by decide +kernel
theorem dX2_writePart_22 : decode cX2_writePart 22 = .ok (.getfield 201, 3) := by decide +kernel
theorem dX2_writePart_25 : decode cX2_writePart 25 = .ok (.aload_n 1, 1) := by decide +kernel
theorem dX2_writePart_26 : decode cX2_writePart 26 = .ok (.getfield 208, 3) := by decide +kernel
theorem dX2_writePart_29 : decode cX2_writePart 29 = .ok (.invokestatic 329, 3) := by decide +kernel
theorem dX2_writePart_32 : decode cX2_writePart 32 = .ok (.return_, 1) := by decide +kernel
theorem dX2_writeSpan_0 : decode cX2_writeSpan 0 = .ok (.aload_n 0, 1) := by decide +kernel
theorem dX2_writeSpan_1 : decode cX2_writeSpan 1 = .ok (.bipush 91, 2) := by decide +kernel
theorem dX2_writeSpan_3 : decode cX2_writeSpan 3 = .ok (.invokevirtual 333, 3) := by decide +kernel
theorem dX2_writeSpan_6 : decode cX2_writeSpan 6 = .ok (.pop, 1) := by decide +kernel
theorem dX2_writeSpan_7 : decode cX2_writeSpan 7 = .ok (.iload_n 2, 1) := by decide +kernel
theorem dX2_writeSpan_8 : decode cX2_writeSpan 8 = .ok (.istore 4, 2) := by decide +kernel
theorem dX2_writeSpan_10 : decode cX2_writeSpan 10 = .ok (.iload 4, 2) := by decide +kernel
theorem dX2_writeSpan_12 : decode cX2_writeSpan 12 = .ok (.iload_n 3, 1) := by decide +kernel
theorem dX2_writeSpan_13 : decode cX2_writeSpan 13 = .ok (.if_icmp .ge 52, 3) := by decide +kernel
theorem dX2_writeSpan_16 : decode cX2_writeSpan 16 = .ok (.iload 4, 2) := by decide +kernel
theorem dX2_writeSpan_18 : decode cX2_writeSpan 18 = .ok (.iload_n 2, 1) := by decide +kernel
theorem dX2_writeSpan_19 : decode cX2_writeSpan 19 = .ok (.if_icmp .le 11, 3) := by decide +kernel
theorem dX2_writeSpan_22 : decode cX2_writeSpan 22 = .ok (.aload_n 0, 1) := by decide +kernel
theorem dX2_writeSpan_23 : decode cX2_writeSpan 23 = .ok (.ldc_w 337, 3) := by decide +kernel
theorem dX2_writeSpan_26 : decode cX2_writeSpan 26 = .ok (.invokevirtual 339, 3) := by decide +kernel
theorem dX2_writeSpan_29 : decode cX2_writeSpan 29 = .ok (.pop, 1) := by decide +kernel
theorem dX2_writeSpan_30 : decode cX2_writeSpan 30 = .ok (.aload_n 0, 1) := by decide +kernel
theorem dX2_writeSpan_31 : decode cX2_writeSpan 31 = .ok (.aload_n 1, 1) := by decide +kernel
theorem dX2_writeSpan_32 : decode cX2_writeSpan 32 = .ok (.iload 4, 2) := by decide +kernel
theorem dX2_writeSpan_34 : decode cX2_writeSpan 34 = .ok (.invokevirtual 68, 3) := by decide +kernel
theorem dX2_writeSpan_37 : decode cX2_writeSpan 37 = .ok (.invokevirtual 342, 3) := by decide +kernel
theorem dX2_writeSpan_40 : decode cX2_writeSpan 40 = .ok (.pop, 1) := by decide +kernel
theorem dX2_writeSpan_41 : decode cX2_writeSpan 41 = .ok (.aload_n 0, 1) := by decide +kernel
theorem dX2_writeSpan_42 : decode cX2_writeSpan 42 = .ok (.bipush 46, 2) := by decide +kernel
theorem dX2_writeSpan_44 : decode cX2_writeSpan 44 = .ok (.invokevirtual 333, 3) := by decide +kernel
theorem dX2_writeSpan_47 : decode cX2_writeSpan 47 = .ok (.pop, 1) := by decide +kernel
theorem dX2_writeSpan_48 : decode cX2_writeSpan 48 = .ok (.aload_n 0, 1) := by decide +kernel
theorem dX2_writeSpan_49 : decode cX2_writeSpan 49 = .ok (.aload_n 1, 1) := by decide +kernel
theorem dX2_writeSpan_50 : decode cX2_writeSpan 50 = .ok (.iload 4, 2) := by decide +kernel
theorem dX2_writeSpan_52 : decode cX2_writeSpan 52 = .ok (.invokevirtual 127, 3) := by decide +kernel
theorem dX2_writeSpan_55 : decode cX2_writeSpan 55 = .ok (.invokevirtual 342, 3) := by decide +kernel
theorem dX2_writeSpan_58 : decode cX2_writeSpan 58 = .ok (.pop, 1) := by decide +kernel
theorem dX2_writeSpan_59 : decode cX2_writeSpan 59 = .ok (.iinc 4 1, 3) := by decide +kernel
theorem dX2_writeSpan_62 : decode cX2_writeSpan 62 = .ok (.goto (-52), 3) := by decide +kernel
theorem dX2_writeSpan_65 : decode cX2_writeSpan 65 = .ok (.aload_n 0, 1) := by decide +kernel
theorem dX2_writeSpan_66 : decode cX2_writeSpan 66 = .ok (.bipush 93, 2) := by decide +kernel
theorem dX2_writeSpan_68 : decode cX2_writeSpan 68 = .ok (.invokevirtual 333, 3) := by decide +kernel
theorem dX2_writeSpan_71 : decode cX2_writeSpan 71 = .ok (.pop, 1) := by decide +kernel
theorem dX2_writeSpan_72 : decode cX2_writeSpan 72 = .ok (.return_, 1) := by decide +kernel
theorem dX2_mix_0 : decode cX2_mix 0 = .ok (.lload_n 0, 1) := by decide +kernel
theorem dX2_mix_1 : decode cX2_mix 1 = .ok (.ldc2_w 345, 3) := by decide +kernel
theorem dX2_mix_4 : decode cX2_mix 4 = .ok (.lmul, 1) := by decide +kernel
theorem dX2_mix_5 : decode cX2_mix 5 = .ok (.lload_n 2, 1) := by decide +kernel
theorem dX2_mix_6 : decode cX2_mix 6 = .ok (.ladd, 1) := by decide +kernel
theorem dX2_mix_7 : decode cX2_mix 7 = .ok (.lreturn, 1) := by decide +kernel
theorem dX2_mixText_0 : decode cX2_mixText 0 = .ok (.lload_n 0, 1) := by decide +kernel
theorem dX2_mixText_1 : decode cX2_mixText 1 = .ok (.lstore_n 3, 1) := by decide +kernel
theorem dX2_mixText_2 : decode cX2_mixText 2 = .ok (.iconst 0, 1) := by decide +kernel
theorem dX2_mixText_3 : decode cX2_mixText 3 = .ok (.istore 5, 2) := by decide +kernel
theorem dX2_mixText_5 : decode cX2_mixText 5 = .ok (.iload 5, 2) := by decide +kernel
theorem dX2_mixText_7 : decode cX2_mixText 7 = .ok (.aload_n 2, 1) := by decide +kernel
theorem dX2_mixText_8 : decode cX2_mixText 8 = .ok (.invokevirtual 347, 3) := by decide +kernel
theorem dX2_mixText_11 : decode cX2_mixText 11 = .ok (.if_icmp .ge 21, 3) := by decide +kernel
theorem dX2_mixText_14 : decode cX2_mixText 14 = .ok (.lload_n 3, 1) := by decide +kernel
theorem dX2_mixText_15 : decode cX2_mixText 15 = .ok (.aload_n 2, 1) := by decide +kernel
theorem dX2_mixText_16 : decode cX2_mixText 16 = .ok (.iload 5, 2) := by decide +kernel
theorem dX2_mixText_18 : decode cX2_mixText 18 = .ok (.invokevirtual 350, 3) := by decide +kernel
theorem dX2_mixText_21 : decode cX2_mixText 21 = .ok (.i2l, 1) := by decide +kernel
theorem dX2_mixText_22 : decode cX2_mixText 22 = .ok (.invokestatic 275, 3) := by decide +kernel
theorem dX2_mixText_25 : decode cX2_mixText 25 = .ok (.lstore_n 3, 1) := by decide +kernel
theorem dX2_mixText_26 : decode cX2_mixText 26 = .ok (.iinc 5 1, 3) := by decide +kernel
theorem dX2_mixText_29 : decode cX2_mixText 29 = .ok (.goto (-24), 3) := by decide +kernel
theorem dX2_mixText_32 : decode cX2_mixText 32 = .ok (.lload_n 3, 1) := by decide +kernel
theorem dX2_mixText_33 : decode cX2_mixText 33 = .ok (.lreturn, 1) := by decide +kernel
theorem dX2_mixHouse_0 : decode cX2_mixHouse 0 = .ok (.lload_n 1, 1) := by decide +kernel
theorem dX2_mixHouse_1 : decode cX2_mixHouse 1 = .ok (.aload_n 0, 1) := by decide +kernel
theorem dX2_mixHouse_2 : decode cX2_mixHouse 2 = .ok (.invokevirtual 248, 3) := by decide +kernel
theorem dX2_mixHouse_5 : decode cX2_mixHouse 5 = .ok (.i2l, 1) := by decide +kernel
theorem dX2_mixHouse_6 : decode cX2_mixHouse 6 = .ok (.invokestatic 275, 3) := by decide +kernel
theorem dX2_mixHouse_9 : decode cX2_mixHouse 9 = .ok (.lstore_n 3, 1) := by decide +kernel
theorem dX2_mixHouse_10 : decode cX2_mixHouse 10 = .ok (.lload_n 3, 1) := by decide +kernel
theorem dX2_mixHouse_11 : decode cX2_mixHouse 11 = .ok (.aload_n 0, 1) := by decide +kernel
theorem dX2_mixHouse_12 : decode cX2_mixHouse 12 = .ok (.invokevirtual 251, 3) := by decide +kernel
theorem dX2_mixHouse_15 : decode cX2_mixHouse 15 = .ok (.i2l, 1) := by decide +kernel
theorem dX2_mixHouse_16 : decode cX2_mixHouse 16 = .ok (.invokestatic 275, 3) := by decide +kernel
theorem dX2_mixHouse_19 : decode cX2_mixHouse 19 = .ok (.lstore_n 3, 1) := by decide +kernel
theorem dX2_mixHouse_20 : decode cX2_mixHouse 20 = .ok (.lload_n 3, 1) := by decide +kernel
theorem dX2_mixHouse_21 : decode cX2_mixHouse 21 = .ok (.aload_n 0, 1) := by decide +kernel
theorem dX2_mixHouse_22 : decode cX2_mixHouse 22 = .ok (.invokevirtual 254, 3) := by decide +kernel
theorem dX2_mixHouse_25 : decode cX2_mixHouse 25 = .ok (.i2l, 1) := by decide +kernel
theorem dX2_mixHouse_26 : decode cX2_mixHouse 26 = .ok (.invokestatic 275, 3) := by decide +kernel
theorem dX2_mixHouse_29 : decode cX2_mixHouse 29 = .ok (.lstore_n 3, 1) := by decide +kernel
theorem dX2_mixHouse_30 : decode cX2_mixHouse 30 = .ok (.lload_n 3, 1) := by decide +kernel
theorem dX2_mixHouse_31 : decode cX2_mixHouse 31 = .ok (.aload_n 0, 1) := by decide +kernel
theorem dX2_mixHouse_32 : decode cX2_mixHouse 32 = .ok (.getfield 27, 3) := by decide +kernel
theorem dX2_mixHouse_35 : decode cX2_mixHouse 35 = .ok (.i2l, 1) := by decide +kernel
theorem dX2_mixHouse_36 : decode cX2_mixHouse 36 = .ok (.invokestatic 275, 3) := by decide +kernel
theorem dX2_mixHouse_39 : decode cX2_mixHouse 39 = .ok (.lreturn, 1) := by decide +kernel
theorem dX2_mixRow_0 : decode cX2_mixRow 0 = .ok (.aload_n 3, 1) := by decide +kernel
theorem dX2_mixRow_1 : decode cX2_mixRow 1 = .ok (.iconst 0, 1) := by decide +kernel
theorem dX2_mixRow_2 : decode cX2_mixRow 2 = .ok (.invokevirtual 279, 3) := by decide +kernel
theorem dX2_mixRow_5 : decode cX2_mixRow 5 = .ok (.aload_n 3, 1) := by decide +kernel
theorem dX2_mixRow_6 : decode cX2_mixRow 6 = .ok (.aload_n 2, 1) := by decide +kernel
theorem dX2_mixRow_7 : decode cX2_mixRow 7 = .ok (.iconst 0, 1) := by decide +kernel
theorem dX2_mixRow_8 : decode cX2_mixRow 8 = .ok (.aload_n 2, 1) := by decide +kernel
theorem dX2_mixRow_9 : decode cX2_mixRow 9 = .ok (.getfield 51, 3) := by decide +kernel
theorem dX2_mixRow_12 : decode cX2_mixRow 12 = .ok (.invokestatic 329, 3) := by decide +kernel
theorem dX2_mixRow_15 : decode cX2_mixRow 15 = .ok (.lload_n 0, 1) := by decide +kernel
theorem dX2_mixRow_16 : decode cX2_mixRow 16 = .ok (.aload_n 3, 1) := by decide +kernel
theorem dX2_mixRow_17 : decode cX2_mixRow 17 = .ok (.invokestatic 282, 3) := by decide +kernel
theorem dX2_mixRow_20 : decode cX2_mixRow 20 = .ok (.lstore 4, 2) := by decide +kernel
theorem dX2_mixRow_22 : decode cX2_mixRow 22 = .ok (.lload 4, 2) := by decide +kernel
theorem dX2_mixRow_24 : decode cX2_mixRow 24 = .ok (.aload_n 2, 1) := by decide +kernel
theorem dX2_mixRow_25 : decode cX2_mixRow 25 = .ok (.getfield 100, 3) := by decide +kernel
theorem dX2_mixRow_28 : decode cX2_mixRow 28 = .ok (.i2l, 1) := by decide +kernel
theorem dX2_mixRow_29 : decode cX2_mixRow 29 = .ok (.invokestatic 275, 3) := by decide +kernel
theorem dX2_mixRow_32 : decode cX2_mixRow 32 = .ok (.lstore 4, 2) := by decide +kernel
theorem dX2_mixRow_34 : decode cX2_mixRow 34 = .ok (.lload 4, 2) := by decide +kernel
theorem dX2_mixRow_36 : decode cX2_mixRow 36 = .ok (.aload_n 2, 1) := by decide +kernel
theorem dX2_mixRow_37 : decode cX2_mixRow 37 = .ok (.iconst 0, 1) := by decide +kernel
theorem dX2_mixRow_38 : decode cX2_mixRow 38 = .ok (.invokestatic 151, 3) := by decide +kernel
theorem dX2_mixRow_41 : decode cX2_mixRow 41 = .ok (.i2l, 1) := by decide +kernel
theorem dX2_mixRow_42 : decode cX2_mixRow 42 = .ok (.invokestatic 275, 3) := by decide +kernel
theorem dX2_mixRow_45 : decode cX2_mixRow 45 = .ok (.lstore 4, 2) := by decide +kernel
theorem dX2_mixRow_47 : decode cX2_mixRow 47 = .ok (.lload 4, 2) := by decide +kernel
theorem dX2_mixRow_49 : decode cX2_mixRow 49 = .ok (.aload_n 2, 1) := by decide +kernel
theorem dX2_mixRow_50 : decode cX2_mixRow 50 = .ok (.iconst 1, 1) := by decide +kernel
theorem dX2_mixRow_51 : decode cX2_mixRow 51 = .ok (.invokestatic 151, 3) := by decide +kernel
theorem dX2_mixRow_54 : decode cX2_mixRow 54 = .ok (.i2l, 1) := by decide +kernel
theorem dX2_mixRow_55 : decode cX2_mixRow 55 = .ok (.invokestatic 275, 3) := by decide +kernel
theorem dX2_mixRow_58 : decode cX2_mixRow 58 = .ok (.lstore 4, 2) := by decide +kernel
theorem dX2_mixRow_60 : decode cX2_mixRow 60 = .ok (.lload 4, 2) := by decide +kernel
theorem dX2_mixRow_62 : decode cX2_mixRow 62 = .ok (.aload_n 2, 1) := by decide +kernel
theorem dX2_mixRow_63 : decode cX2_mixRow 63 = .ok (.invokestatic 244, 3) := by decide +kernel
theorem dX2_mixRow_66 : decode cX2_mixRow 66 = .ok (.i2l, 1) := by decide +kernel
theorem dX2_mixRow_67 : decode cX2_mixRow 67 = .ok (.invokestatic 275, 3) := by decide +kernel
theorem dX2_mixRow_70 : decode cX2_mixRow 70 = .ok (.lreturn, 1) := by decide +kernel
theorem dX3_init_0 : decode cX3_init 0 = .ok (.aload_n 0, 1) := by decide +kernel
theorem dX3_init_1 : decode cX3_init 1 = .ok (.invokespecial 1, 3) := by decide +kernel
theorem dX3_init_4 : decode cX3_init 4 = .ok (.return_, 1) := by decide +kernel
theorem dX4_init_0 : decode cX4_init 0 = .ok (.aload_n 0, 1) := by decide +kernel
theorem dX4_init_1 : decode cX4_init 1 = .ok (.invokespecial 1, 3) := by decide +kernel
theorem dX4_init_4 : decode cX4_init 4 = .ok (.aload_n 0, 1) := by decide +kernel
theorem dX4_init_5 : decode cX4_init 5 = .ok (.iconst 4, 1) := by decide +kernel
theorem dX4_init_6 : decode cX4_init 6 = .ok (.bipush 31, 2) := by decide +kernel
theorem dX4_init_8 : decode cX4_init 8 = .ok (.multianewarray 9 2, 4) := by decide +kernel
theorem dX4_init_12 : decode cX4_init 12 = .ok (.putfield 11, 3) := by decide +kernel
theorem dX4_init_15 : decode cX4_init 15 = .ok (.aload_n 0, 1) := by decide +kernel
theorem dX4_init_16 : decode cX4_init 16 = .ok (.iconst 4, 1) := by decide +kernel
theorem dX4_init_17 : decode cX4_init 17 = .ok (.newarray .int, 2) := by decide +kernel
theorem dX4_init_19 : decode cX4_init 19 = .ok (.putfield 14, 3) := by decide +kernel
theorem dX4_init_22 : decode cX4_init 22 = .ok (.aload_n 0, 1) := by decide +kernel
theorem dX4_init_23 : decode cX4_init 23 = .ok (.iconst 4, 1) := by decide +kernel
theorem dX4_init_24 : decode cX4_init 24 = .ok (.newarray .int, 2) := by decide +kernel
theorem dX4_init_26 : decode cX4_init 26 = .ok (.putfield 18, 3) := by decide +kernel
theorem dX4_init_29 : decode cX4_init 29 = .ok (.aload_n 0, 1) := by decide +kernel
theorem dX4_init_30 : decode cX4_init 30 = .ok (.iconst 4, 1) := by decide +kernel
theorem dX4_init_31 : decode cX4_init 31 = .ok (.newarray .int, 2) := by decide +kernel
theorem dX4_init_33 : decode cX4_init 33 = .ok (.dup, 1) := by decide +kernel
theorem dX4_init_34 : decode cX4_init 34 = .ok (.iconst 0, 1) := by decide +kernel
theorem dX4_init_35 : decode cX4_init 35 = .ok (.iconst (-1), 1) := by decide +kernel
theorem dX4_init_36 : decode cX4_init 36 = .ok (.iastore, 1) := by decide +kernel
theorem dX4_init_37 : decode cX4_init 37 = .ok (.dup, 1) := by decide +kernel
theorem dX4_init_38 : decode cX4_init 38 = .ok (.iconst 1, 1) := by decide +kernel
theorem dX4_init_39 : decode cX4_init 39 = .ok (.iconst (-1), 1) := by decide +kernel
theorem dX4_init_40 : decode cX4_init 40 = .ok (.iastore, 1) := by decide +kernel
theorem dX4_init_41 : decode cX4_init 41 = .ok (.dup, 1) := by decide +kernel
theorem dX4_init_42 : decode cX4_init 42 = .ok (.iconst 2, 1) := by decide +kernel
theorem dX4_init_43 : decode cX4_init 43 = .ok (.iconst (-1), 1) := by decide +kernel
theorem dX4_init_44 : decode cX4_init 44 = .ok (.iastore, 1) := by decide +kernel
theorem dX4_init_45 : decode cX4_init 45 = .ok (.dup, 1) := by decide +kernel
theorem dX4_init_46 : decode cX4_init 46 = .ok (.iconst 3, 1) := by decide +kernel
theorem dX4_init_47 : decode cX4_init 47 = .ok (.iconst (-1), 1) := by decide +kernel
theorem dX4_init_48 : decode cX4_init 48 = .ok (.iastore, 1) := by decide +kernel
theorem dX4_init_49 : decode cX4_init 49 = .ok (.putfield 21, 3) := by decide +kernel
theorem dX4_init_52 : decode cX4_init 52 = .ok (.aload_n 0, 1) := by decide +kernel
theorem dX4_init_53 : decode cX4_init 53 = .ok (.iconst 3, 1) := by decide +kernel
theorem dX4_init_54 : decode cX4_init 54 = .ok (.newarray .int, 2) := by decide +kernel
theorem dX4_init_56 : decode cX4_init 56 = .ok (.dup, 1) := by decide +kernel
theorem dX4_init_57 : decode cX4_init 57 = .ok (.iconst 0, 1) := by decide +kernel
theorem dX4_init_58 : decode cX4_init 58 = .ok (.iconst (-1), 1) := by decide +kernel
theorem dX4_init_59 : decode cX4_init 59 = .ok (.iastore, 1) := by decide +kernel
theorem dX4_init_60 : decode cX4_init 60 = .ok (.dup, 1) := by decide +kernel
theorem dX4_init_61 : decode cX4_init 61 = .ok (.iconst 1, 1) := by decide +kernel
theorem dX4_init_62 : decode cX4_init 62 = .ok (.iconst (-1), 1) := by decide +kernel
theorem dX4_init_63 : decode cX4_init 63 = .ok (.iastore, 1) := by decide +kernel
theorem dX4_init_64 : decode cX4_init 64 = .ok (.dup, 1) := by decide +kernel
theorem dX4_init_65 : decode cX4_init 65 = .ok (.iconst 2, 1) := by decide +kernel
theorem dX4_init_66 : decode cX4_init 66 = .ok (.iconst (-1), 1) := by decide +kernel
theorem dX4_init_67 : decode cX4_init 67 = .ok (.iastore, 1) := by decide +kernel
theorem dX4_init_68 : decode cX4_init 68 = .ok (.putfield 24, 3) := by decide +kernel
theorem dX4_init_71 : decode cX4_init 71 = .ok (.aload_n 0, 1) := by decide +kernel
theorem dX4_init_72 : decode cX4_init 72 = .ok (.iconst 3, 1) := by decide +kernel
theorem dX4_init_73 : decode cX4_init 73 = .ok (.newarray .int, 2) := by decide +kernel
theorem dX4_init_75 : decode cX4_init 75 = .ok (.putfield 27, 3) := by decide +kernel
theorem dX4_init_78 : decode cX4_init 78 = .ok (.aload_n 0, 1) := by decide +kernel
theorem dX4_init_79 : decode cX4_init 79 = .ok (.iconst 3, 1) := by decide +kernel
theorem dX4_init_80 : decode cX4_init 80 = .ok (.newarray .int, 2) := by decide +kernel
theorem dX4_init_82 : decode cX4_init 82 = .ok (.putfield 30, 3) := by decide +kernel
theorem dX4_init_85 : decode cX4_init 85 = .ok (.aload_n 0, 1) := by decide +kernel
theorem dX4_init_86 : decode cX4_init 86 = .ok (.iconst 3, 1) := by decide +kernel
theorem dX4_init_87 : decode cX4_init 87 = .ok (.newarray .int, 2) := by decide +kernel
theorem dX4_init_89 : decode cX4_init 89 = .ok (.dup, 1) := by decide +kernel
theorem dX4_init_90 : decode cX4_init 90 = .ok (.iconst 0, 1) := by decide +kernel
theorem dX4_init_91 : decode cX4_init 91 = .ok (.iconst (-1), 1) := by decide +kernel
theorem dX4_init_92 : decode cX4_init 92 = .ok (.iastore, 1) := by decide +kernel
theorem dX4_init_93 : decode cX4_init 93 = .ok (.dup, 1) := by decide +kernel
theorem dX4_init_94 : decode cX4_init 94 = .ok (.iconst 1, 1) := by decide +kernel
theorem dX4_init_95 : decode cX4_init 95 = .ok (.iconst (-1), 1) := by decide +kernel
theorem dX4_init_96 : decode cX4_init 96 = .ok (.iastore, 1) := by decide +kernel
theorem dX4_init_97 : decode cX4_init 97 = .ok (.dup, 1) := by decide +kernel
theorem dX4_init_98 : decode cX4_init 98 = .ok (.iconst 2, 1) := by decide +kernel
theorem dX4_init_99 : decode cX4_init 99 = .ok (.iconst (-1), 1) := by decide +kernel
theorem dX4_init_100 : decode cX4_init 100 = .ok (.iastore, 1) := by decide +kernel
theorem dX4_init_101 : decode cX4_init 101 = .ok (.putfield 33, 3) := by decide +kernel
theorem dX4_init_104 : decode cX4_init 104 = .ok (.return_, 1) := by decide +kernel
theorem dX4_thrown_0 : decode cX4_thrown 0 = .ok (.aload_n 0, 1) := by decide +kernel
theorem dX4_thrown_1 : decode cX4_thrown 1 = .ok (.getfield 36, 3) := by decide +kernel
theorem dX4_thrown_4 : decode cX4_thrown 4 = .ok (.ireturn, 1) := by decide +kernel
theorem dX4_isIn_0 : decode cX4_isIn 0 = .ok (.iload_n 0, 1) := by decide +kernel
theorem dX4_isIn_1 : decode cX4_isIn 1 = .ok (.iload_n 1, 1) := by decide +kernel
theorem dX4_isIn_2 : decode cX4_isIn 2 = .ok (.if_icmp .lt 12, 3) := by decide +kernel
theorem dX4_isIn_5 : decode cX4_isIn 5 = .ok (.iload_n 0, 1) := by decide +kernel
theorem dX4_isIn_6 : decode cX4_isIn 6 = .ok (.iload_n 2, 1) := by decide +kernel
theorem dX4_isIn_7 : decode cX4_isIn 7 = .ok (.if_icmp .gt 7, 3) := by decide +kernel
theorem dX4_isIn_10 : decode cX4_isIn 10 = .ok (.iconst 1, 1) := by decide +kernel
theorem dX4_isIn_11 : decode cX4_isIn 11 = .ok (.goto 4, 3) := by decide +kernel
theorem dX4_isIn_15 : decode cX4_isIn 15 = .ok (.ireturn, 1) := by decide +kernel
theorem dX4_one_0 : decode cX4_one 0 = .ok (.iload_n 0, 1) := by decide +kernel
theorem dX4_one_1 : decode cX4_one 1 = .ok (.ifCond .eq 7, 3) := by decide +kernel
theorem dX4_one_4 : decode cX4_one 4 = .ok (.iconst 1, 1) := by decide +kernel
theorem dX4_one_5 : decode cX4_one 5 = .ok (.goto 4, 3) := by decide +kernel
theorem dX4_one_8 : decode cX4_one 8 = .ok (.iconst 0, 1) := by decide +kernel
theorem dX4_one_9 : decode cX4_one 9 = .ok (.ireturn, 1) := by decide +kernel
theorem dX4_isNoRow_0 : decode cX4_isNoRow 0 = .ok (.iload_n 0, 1) := by decide +kernel
theorem dX4_isNoRow_1 : decode cX4_isNoRow 1 = .ok (.iconst 0, 1) := by decide +kernel
theorem dX4_isNoRow_2 : decode cX4_isNoRow 2 = .ok (.iconst 3, 1) := by decide +kernel
theorem dX4_isNoRow_3 : decode cX4_isNoRow 3 = .ok (.invokestatic 40, 3) := by decide +kernel
theorem dX4_isNoRow_6 : decode cX4_isNoRow 6 = .ok (.ifCond .ne 7, 3) := by decide +kernel
theorem dX4_isNoRow_13 : decode cX4_isNoRow 13 = .ok (.iconst 0, 1) := by decide +kernel
theorem dX4_isNoRow_14 : decode cX4_isNoRow 14 = .ok (.ireturn, 1) := by decide +kernel
theorem dX4_isNoPart_0 : decode cX4_isNoPart 0 = .ok (.iload_n 0, 1) := by decide +kernel
theorem dX4_isNoPart_1 : decode cX4_isNoPart 1 = .ok (.iconst 0, 1) := by decide +kernel
theorem dX4_isNoPart_2 : decode cX4_isNoPart 2 = .ok (.iconst 2, 1) := by decide +kernel
theorem dX4_isNoPart_3 : decode cX4_isNoPart 3 = .ok (.invokestatic 40, 3) := by decide +kernel
theorem dX4_isNoPart_6 : decode cX4_isNoPart 6 = .ok (.ifCond .ne 7, 3) := by decide +kernel
theorem dX4_isNoPart_13 : decode cX4_isNoPart 13 = .ok (.iconst 0, 1) := by decide +kernel
theorem dX4_isNoPart_14 : decode cX4_isNoPart 14 = .ok (.ireturn, 1) := by decide +kernel
theorem dX4_isNoCard_0 : decode cX4_isNoCard 0 = .ok (.iload_n 0, 1) := by decide +kernel
theorem dX4_isNoCard_1 : decode cX4_isNoCard 1 = .ok (.iconst 0, 1) := by decide +kernel
theorem dX4_isNoCard_2 : decode cX4_isNoCard 2 = .ok (.bipush 99, 2) := by decide +kernel
theorem dX4_isNoCard_4 : decode cX4_isNoCard 4 = .ok (.invokestatic 40, 3) := by decide +kernel
theorem dX4_isNoCard_7 : decode cX4_isNoCard 7 = .ok (.ifCond .eq 13, 3) := by decide +kernel
theorem dX4_isNoCard_10 : decode cX4_isNoCard 10 = .ok (.iload_n 1, 1) := by decide +kernel
theorem dX4_isNoCard_11 : decode cX4_isNoCard 11 = .ok (.iconst 0, 1) := by decide +kernel
theorem dX4_isNoCard_12 : decode cX4_isNoCard 12 = .ok (.bipush 9, 2) := by decide +kernel
theorem dX4_isNoCard_14 : decode cX4_isNoCard 14 = .ok (.invokestatic 40, 3) := by decide +kernel
theorem dX4_isNoCard_17 : decode cX4_isNoCard 17 = .ok (.ifCond .ne 7, 3) := by decide +kernel
theorem dX4_isNoCard_24 : decode cX4_isNoCard 24 = .ok (.iconst 0, 1) := by decide +kernel
theorem dX4_isNoCard_25 : decode cX4_isNoCard 25 = .ok (.ireturn, 1) := by decide +kernel
theorem dX4_start_0 : decode cX4_start 0 = .ok (.aload_n 0, 1) := by decide +kernel
theorem dX4_start_1 : decode cX4_start 1 = .ok (.iload_n 1, 1) := by decide +kernel
theorem dX4_start_2 : decode cX4_start 2 = .ok (.ifCond .eq 7, 3) := by decide +kernel
theorem dX4_start_9 : decode cX4_start 9 = .ok (.iload_n 2, 1) := by decide +kernel
theorem dX4_start_10 : decode cX4_start 10 = .ok (.ifCond .eq 7, 3) := by decide +kernel
theorem dX4_start_17 : decode cX4_start 17 = .ok (.iload_n 3, 1) := by decide +kernel
theorem dX4_start_18 : decode cX4_start 18 = .ok (.ifCond .eq 7, 3) := by decide +kernel
theorem dX4_start_25 : decode cX4_start 25 = .ok (.iconst 0, 1) := by decide +kernel
theorem dX4_start_26 : decode cX4_start 26 = .ok (.putfield 36, 3) := by decide +kernel
theorem dX4_start_29 : decode cX4_start 29 = .ok (.aload_n 0, 1) := by decide +kernel
theorem dX4_start_30 : decode cX4_start 30 = .ok (.getfield 36, 3) := by decide +kernel
theorem dX4_start_33 : decode cX4_start 33 = .ok (.ifCond .ne 7, 3) := by decide +kernel
theorem dX4_start_36 : decode cX4_start 36 = .ok (.iconst 1, 1) := by decide +kernel
theorem dX4_start_37 : decode cX4_start 37 = .ok (.goto 4, 3) := by decide +kernel
theorem dX4_start_41 : decode cX4_start 41 = .ok (.ireturn, 1) := by decide +kernel
theorem dX4_lose_0 : decode cX4_lose 0 = .ok (.aload_n 0, 1) := by decide +kernel
theorem dX4_lose_1 : decode cX4_lose 1 = .ok (.getfield 24, 3) := by decide +kernel
theorem dX4_lose_4 : decode cX4_lose 4 = .ok (.iload_n 1, 1) := by decide +kernel
theorem dX4_lose_5 : decode cX4_lose 5 = .ok (.iconst (-1), 1) := by decide +kernel
theorem dX4_lose_6 : decode cX4_lose 6 = .ok (.iastore, 1) := by decide +kernel
theorem dX4_lose_7 : decode cX4_lose 7 = .ok (.iconst 0, 1) := by decide +kernel
theorem dX4_lose_8 : decode cX4_lose 8 = .ok (.istore_n 2, 1) := by decide +kernel
theorem dX4_lose_9 : decode cX4_lose 9 = .ok (.iload_n 2, 1) := by decide +kernel
theorem dX4_lose_10 : decode cX4_lose 10 = .ok (.iconst 3, 1) := by decide +kernel
theorem dX4_lose_11 : decode cX4_lose 11 = .ok (.if_icmp .ge 34, 3) := by decide +kernel
theorem dX4_lose_14 : decode cX4_lose 14 = .ok (.aload_n 0, 1) := by decide +kernel
theorem dX4_lose_15 : decode cX4_lose 15 = .ok (.getfield 24, 3) := by decide +kernel
theorem dX4_lose_18 : decode cX4_lose 18 = .ok (.iload_n 2, 1) := by decide +kernel
theorem dX4_lose_19 : decode cX4_lose 19 = .ok (.iaload, 1) := by decide +kernel
theorem dX4_lose_20 : decode cX4_lose 20 = .ok (.iconst (-1), 1) := by decide +kernel
theorem dX4_lose_21 : decode cX4_lose 21 = .ok (.if_icmp .eq 18, 3) := by decide +kernel
theorem dX4_lose_24 : decode cX4_lose 24 = .ok (.aload_n 0, 1) := by decide +kernel
theorem dX4_lose_25 : decode cX4_lose 25 = .ok (.getfield 33, 3) := by decide +kernel
theorem dX4_lose_28 : decode cX4_lose 28 = .ok (.iload_n 2, 1) := by decide +kernel
theorem dX4_lose_29 : decode cX4_lose 29 = .ok (.iaload, 1) := by decide +kernel
theorem dX4_lose_30 : decode cX4_lose 30 = .ok (.iload_n 1, 1) := by decide +kernel
theorem dX4_lose_31 : decode cX4_lose 31 = .ok (.if_icmp .ne 8, 3) := by decide +kernel
theorem dX4_lose_39 : decode cX4_lose 39 = .ok (.iinc 2 1, 3) := by decide +kernel
theorem dX4_lose_42 : decode cX4_lose 42 = .ok (.goto (-33), 3) := by decide +kernel
theorem dX4_lose_45 : decode cX4_lose 45 = .ok (.return_, 1) := by decide +kernel
theorem dX4_reshape_0 : decode cX4_reshape 0 = .ok (.aload_n 0, 1) := by decide +kernel
theorem dX4_reshape_1 : decode cX4_reshape 1 = .ok (.getfield 21, 3) := by decide +kernel
theorem dX4_reshape_4 : decode cX4_reshape 4 = .ok (.iload_n 1, 1) := by decide +kernel
theorem dX4_reshape_5 : decode cX4_reshape 5 = .ok (.iconst (-1), 1) := by decide +kernel
theorem dX4_reshape_6 : decode cX4_reshape 6 = .ok (.iastore, 1) := by decide +kernel
theorem dX4_reshape_7 : decode cX4_reshape 7 = .ok (.iconst 0, 1) := by decide +kernel
theorem dX4_reshape_8 : decode cX4_reshape 8 = .ok (.istore_n 2, 1) := by decide +kernel
theorem dX4_reshape_9 : decode cX4_reshape 9 = .ok (.iload_n 2, 1) := by decide +kernel
theorem dX4_reshape_10 : decode cX4_reshape 10 = .ok (.iconst 3, 1) := by decide +kernel
theorem dX4_reshape_11 : decode cX4_reshape 11 = .ok (.if_icmp .ge 26, 3) := by decide +kernel
theorem dX4_reshape_14 : decode cX4_reshape 14 = .ok (.aload_n 0, 1) := by decide +kernel
theorem dX4_reshape_15 : decode cX4_reshape 15 = .ok (.getfield 24, 3) := by decide +kernel
theorem dX4_reshape_18 : decode cX4_reshape 18 = .ok (.iload_n 2, 1) := by decide +kernel
theorem dX4_reshape_19 : decode cX4_reshape 19 = .ok (.iaload, 1) := by decide +kernel
theorem dX4_reshape_20 : decode cX4_reshape 20 = .ok (.iload_n 1, 1) := by decide +kernel
theorem dX4_reshape_21 : decode cX4_reshape 21 = .ok (.if_icmp .ne 10, 3) := by decide +kernel
theorem dX4_reshape_31 : decode cX4_reshape 31 = .ok (.iinc 2 1, 3) := by decide +kernel
theorem dX4_reshape_34 : decode cX4_reshape 34 = .ok (.goto (-25), 3) := by decide +kernel
theorem dX4_reshape_37 : decode cX4_reshape 37 = .ok (.return_, 1) := by decide +kernel
theorem dX4_put_0 : decode cX4_put 0 = .ok (.aload_n 0, 1) := by decide +kernel
theorem dX4_put_1 : decode cX4_put 1 = .ok (.getfield 14, 3) := by decide +kernel
theorem dX4_put_4 : decode cX4_put 4 = .ok (.iload_n 1, 1) := by decide +kernel
theorem dX4_put_5 : decode cX4_put 5 = .ok (.iaload, 1) := by decide +kernel
theorem dX4_put_6 : decode cX4_put 6 = .ok (.istore 4, 2) := by decide +kernel
theorem dX4_put_8 : decode cX4_put 8 = .ok (.iload 4, 2) := by decide +kernel
theorem dX4_put_10 : decode cX4_put 10 = .ok (.iload_n 2, 1) := by decide +kernel
theorem dX4_put_11 : decode cX4_put 11 = .ok (.if_icmp .le 29, 3) := by decide +kernel
theorem dX4_put_40 : decode cX4_put 40 = .ok (.aload_n 0, 1) := by decide +kernel
theorem dX4_put_41 : decode cX4_put 41 = .ok (.getfield 11, 3) := by decide +kernel
theorem dX4_put_44 : decode cX4_put 44 = .ok (.iload_n 1, 1) := by decide +kernel
theorem dX4_put_45 : decode cX4_put 45 = .ok (.aaload, 1) := by decide +kernel
theorem dX4_put_46 : decode cX4_put 46 = .ok (.iload_n 2, 1) := by decide +kernel
theorem dX4_put_47 : decode cX4_put 47 = .ok (.iload_n 3, 1) := by decide +kernel
theorem dX4_put_48 : decode cX4_put 48 = .ok (.iastore, 1) := by decide +kernel
theorem dX4_put_49 : decode cX4_put 49 = .ok (.aload_n 0, 1) := by decide +kernel
theorem dX4_put_50 : decode cX4_put 50 = .ok (.getfield 14, 3) := by decide +kernel
theorem dX4_put_53 : decode cX4_put 53 = .ok (.iload_n 1, 1) := by decide +kernel
theorem dX4_put_54 : decode cX4_put 54 = .ok (.dup2, 1) := by decide +kernel
theorem dX4_put_55 : decode cX4_put 55 = .ok (.iaload, 1) := by decide +kernel
theorem dX4_put_56 : decode cX4_put 56 = .ok (.iconst 1, 1) := by decide +kernel
theorem dX4_put_57 : decode cX4_put 57 = .ok (.iadd, 1) := by decide +kernel
theorem dX4_put_58 : decode cX4_put 58 = .ok (.iastore, 1) := by decide +kernel
theorem dX4_put_59 : decode cX4_put 59 = .ok (.return_, 1) := by decide +kernel
theorem dX4_addMany_0 : decode cX4_addMany 0 = .ok (.iconst 0, 1) := by decide +kernel
theorem dX4_addMany_1 : decode cX4_addMany 1 = .ok (.istore 4, 2) := by decide +kernel
theorem dX4_addMany_3 : decode cX4_addMany 3 = .ok (.iload 4, 2) := by decide +kernel
theorem dX4_addMany_5 : decode cX4_addMany 5 = .ok (.iload_n 2, 1) := by decide +kernel
theorem dX4_addMany_6 : decode cX4_addMany 6 = .ok (.if_icmp .ge 21, 3) := by decide +kernel
theorem dX4_addMany_9 : decode cX4_addMany 9 = .ok (.aload_n 0, 1) := by decide +kernel
theorem dX4_addMany_10 : decode cX4_addMany 10 = .ok (.iload_n 1, 1) := by decide +kernel
theorem dX4_addMany_11 : decode cX4_addMany 11 = .ok (.aload_n 0, 1) := by decide +kernel
theorem dX4_addMany_12 : decode cX4_addMany 12 = .ok (.getfield 14, 3) := by decide +kernel
theorem dX4_addMany_15 : decode cX4_addMany 15 = .ok (.iload_n 1, 1) := by decide +kernel
theorem dX4_addMany_16 : decode cX4_addMany 16 = .ok (.iaload, 1) := by decide +kernel
theorem dX4_addMany_17 : decode cX4_addMany 17 = .ok (.iload_n 3, 1) := by decide +kernel
theorem dX4_addMany_18 : decode cX4_addMany 18 = .ok (.invokevirtual 52, 3) := by decide +kernel
theorem dX4_addMany_21 : decode cX4_addMany 21 = .ok (.iinc 4 1, 3) := by decide +kernel
theorem dX4_addMany_24 : decode cX4_addMany 24 = .ok (.goto (-21), 3) := by decide +kernel
theorem dX4_addMany_27 : decode cX4_addMany 27 = .ok (.aload_n 0, 1) := by decide +kernel
theorem dX4_addMany_28 : decode cX4_addMany 28 = .ok (.getfield 18, 3) := by decide +kernel
theorem dX4_addMany_31 : decode cX4_addMany 31 = .ok (.iload_n 1, 1) := by decide +kernel
theorem dX4_addMany_32 : decode cX4_addMany 32 = .ok (.iconst 0, 1) := by decide +kernel
theorem dX4_addMany_33 : decode cX4_addMany 33 = .ok (.iastore, 1) := by decide +kernel
theorem dX4_addMany_34 : decode cX4_addMany 34 = .ok (.iload_n 2, 1) := by decide +kernel
theorem dX4_addMany_35 : decode cX4_addMany 35 = .ok (.ifCond .le 8, 3) := by decide +kernel
theorem dX4_addMany_38 : decode cX4_addMany 38 = .ok (.aload_n 0, 1) := by decide +kernel
theorem dX4_addMany_39 : decode cX4_addMany 39 = .ok (.iload_n 1, 1) := by decide +kernel
theorem dX4_addMany_40 : decode cX4_addMany 40 = .ok (.invokevirtual 56, 3) := by decide +kernel
theorem dX4_addMany_43 : decode cX4_addMany 43 = .ok (.aload_n 0, 1) := by decide +kernel
theorem dX4_addMany_44 : decode cX4_addMany 44 = .ok (.getfield 14, 3) := by decide +kernel
theorem dX4_addMany_47 : decode cX4_addMany 47 = .ok (.iload_n 1, 1) := by decide +kernel
theorem dX4_addMany_48 : decode cX4_addMany 48 = .ok (.iaload, 1) := by decide +kernel
theorem dX4_addMany_49 : decode cX4_addMany 49 = .ok (.ireturn, 1) := by decide +kernel
theorem dX4_addCopies_0 : decode cX4_addCopies 0 = .ok (.aload_n 0, 1) := by decide +kernel
theorem dX4_addCopies_1 : decode cX4_addCopies 1 = .ok (.iload_n 1, 1) := by decide +kernel
theorem dX4_addCopies_2 : decode cX4_addCopies 2 = .ok (.invokestatic 44, 3) := by decide +kernel
theorem dX4_addCopies_5 : decode cX4_addCopies 5 = .ok (.iload_n 2, 1) := by decide +kernel
theorem dX4_addCopies_6 : decode cX4_addCopies 6 = .ok (.iconst 0, 1) := by decide +kernel
theorem dX4_addCopies_7 : decode cX4_addCopies 7 = .ok (.bipush 31, 2) := by decide +kernel
theorem dX4_addCopies_9 : decode cX4_addCopies 9 = .ok (.invokestatic 40, 3) := by decide +kernel
theorem dX4_addCopies_12 : decode cX4_addCopies 12 = .ok (.ifCond .eq 12, 3) := by decide +kernel
theorem dX4_addCopies_15 : decode cX4_addCopies 15 = .ok (.iload_n 3, 1) := by decide +kernel
theorem dX4_addCopies_16 : decode cX4_addCopies 16 = .ok (.iload 4, 2) := by decide +kernel
theorem dX4_addCopies_18 : decode cX4_addCopies 18 = .ok (.invokestatic 59, 3) := by decide +kernel
theorem dX4_addCopies_21 : decode cX4_addCopies 21 = .ok (.ifCond .eq 7, 3) := by decide +kernel
theorem dX4_addCopies_28 : decode cX4_addCopies 28 = .ok (.iconst 0, 1) := by decide +kernel
theorem dX4_addCopies_29 : decode cX4_addCopies 29 = .ok (.iload_n 1, 1) := by decide +kernel
theorem dX4_addCopies_30 : decode cX4_addCopies 30 = .ok (.invokestatic 44, 3) := by decide +kernel
theorem dX4_addCopies_33 : decode cX4_addCopies 33 = .ok (.ifCond .ne 20, 3) := by decide +kernel
theorem dX4_addCopies_36 : decode cX4_addCopies 36 = .ok (.aload_n 0, 1) := by decide +kernel
theorem dX4_addCopies_37 : decode cX4_addCopies 37 = .ok (.getfield 14, 3) := by decide +kernel
theorem dX4_addCopies_40 : decode cX4_addCopies 40 = .ok (.iload_n 1, 1) := by decide +kernel
theorem dX4_addCopies_41 : decode cX4_addCopies 41 = .ok (.iaload, 1) := by decide +kernel
theorem dX4_addCopies_42 : decode cX4_addCopies 42 = .ok (.iload_n 2, 1) := by decide +kernel
theorem dX4_addCopies_43 : decode cX4_addCopies 43 = .ok (.iadd, 1) := by decide +kernel
theorem dX4_addCopies_44 : decode cX4_addCopies 44 = .ok (.bipush 31, 2) := by decide +kernel
theorem dX4_addCopies_46 : decode cX4_addCopies 46 = .ok (.if_icmp .le 7, 3) := by decide +kernel
theorem dX4_addCopies_53 : decode cX4_addCopies 53 = .ok (.iconst 0, 1) := by decide +kernel
theorem dX4_addCopies_54 : decode cX4_addCopies 54 = .ok (.invokevirtual 63, 3) := by decide +kernel
theorem dX4_addCopies_57 : decode cX4_addCopies 57 = .ok (.ifCond .eq 19, 3) := by decide +kernel
theorem dX4_addCopies_60 : decode cX4_addCopies 60 = .ok (.aload_n 0, 1) := by decide +kernel
theorem dX4_addCopies_61 : decode cX4_addCopies 61 = .ok (.iload_n 1, 1) := by decide +kernel
theorem dX4_addCopies_62 : decode cX4_addCopies 62 = .ok (.iload_n 2, 1) := by decide +kernel
theorem dX4_addCopies_63 : decode cX4_addCopies 63 = .ok (.bipush 10, 2) := by decide +kernel
theorem dX4_addCopies_65 : decode cX4_addCopies 65 = .ok (.iload_n 3, 1) := by decide +kernel
theorem dX4_addCopies_66 : decode cX4_addCopies 66 = .ok (.imul, 1) := by decide +kernel
theorem dX4_addCopies_67 : decode cX4_addCopies 67 = .ok (.iload 4, 2) := by decide +kernel
theorem dX4_addCopies_69 : decode cX4_addCopies 69 = .ok (.iadd, 1) := by decide +kernel
theorem dX4_addCopies_70 : decode cX4_addCopies 70 = .ok (.invokevirtual 67, 3) := by decide +kernel
theorem dX4_addCopies_73 : decode cX4_addCopies 73 = .ok (.goto 4, 3) := by decide +kernel
theorem dX4_addCopies_77 : decode cX4_addCopies 77 = .ok (.ireturn, 1) := by decide +kernel
theorem dX4_push_0 : decode cX4_push 0 = .ok (.bipush 31, 2) := by decide +kernel
theorem dX4_push_2 : decode cX4_push 2 = .ok (.newarray .int, 2) := by decide +kernel
theorem dX4_push_4 : decode cX4_push 4 = .ok (.astore 4, 2) := by decide +kernel
theorem dX4_push_6 : decode cX4_push 6 = .ok (.iload_n 1, 1) := by decide +kernel
theorem dX4_push_7 : decode cX4_push 7 = .ok (.istore 5, 2) := by decide +kernel
theorem dX4_push_9 : decode cX4_push 9 = .ok (.iload 5, 2) := by decide +kernel
theorem dX4_push_11 : decode cX4_push 11 = .ok (.iload_n 2, 1) := by decide +kernel
theorem dX4_push_12 : decode cX4_push 12 = .ok (.if_icmp .ge 18, 3) := by decide +kernel
theorem dX4_push_15 : decode cX4_push 15 = .ok (.aload 4, 2) := by decide +kernel
theorem dX4_push_17 : decode cX4_push 17 = .ok (.iload 5, 2) := by decide +kernel
theorem dX4_push_19 : decode cX4_push 19 = .ok (.aload_n 0, 1) := by decide +kernel
theorem dX4_push_20 : decode cX4_push 20 = .ok (.iload 5, 2) := by decide +kernel
theorem dX4_push_22 : decode cX4_push 22 = .ok (.iaload, 1) := by decide +kernel
theorem dX4_push_23 : decode cX4_push 23 = .ok (.iastore, 1) := by decide +kernel
theorem dX4_push_24 : decode cX4_push 24 = .ok (.iinc 5 1, 3) := by decide +kernel
theorem dX4_push_27 : decode cX4_push 27 = .ok (.goto (-18), 3) := by decide +kernel
theorem dX4_push_30 : decode cX4_push 30 = .ok (.iload_n 2, 1) := by decide +kernel
theorem dX4_push_31 : decode cX4_push 31 = .ok (.iload_n 1, 1) := by decide +kernel
theorem dX4_push_32 : decode cX4_push 32 = .ok (.isub, 1) := by decide +kernel
theorem dX4_push_33 : decode cX4_push 33 = .ok (.istore 5, 2) := by decide +kernel
theorem dX4_push_35 : decode cX4_push 35 = .ok (.iconst 0, 1) := by decide +kernel
theorem dX4_push_36 : decode cX4_push 36 = .ok (.istore 6, 2) := by decide +kernel
theorem dX4_push_38 : decode cX4_push 38 = .ok (.iload 6, 2) := by decide +kernel
theorem dX4_push_40 : decode cX4_push 40 = .ok (.iload 5, 2) := by decide +kernel
theorem dX4_push_42 : decode cX4_push 42 = .ok (.if_icmp .ge 48, 3) := by decide +kernel
theorem dX4_push_45 : decode cX4_push 45 = .ok (.iload 6, 2) := by decide +kernel
theorem dX4_push_47 : decode cX4_push 47 = .ok (.i2l, 1) := by decide +kernel
theorem dX4_push_48 : decode cX4_push 48 = .ok (.iload_n 3, 1) := by decide +kernel
theorem dX4_push_49 : decode cX4_push 49 = .ok (.i2l, 1) := by decide +kernel
theorem dX4_push_50 : decode cX4_push 50 = .ok (.ladd, 1) := by decide +kernel
theorem dX4_push_51 : decode cX4_push 51 = .ok (.iload 5, 2) := by decide +kernel
theorem dX4_push_53 : decode cX4_push 53 = .ok (.i2l, 1) := by decide +kernel
theorem dX4_push_54 : decode cX4_push 54 = .ok (.lrem, 1) := by decide +kernel
theorem dX4_push_55 : decode cX4_push 55 = .ok (.l2i, 1) := by decide +kernel
theorem dX4_push_56 : decode cX4_push 56 = .ok (.istore 7, 2) := by decide +kernel
theorem dX4_push_58 : decode cX4_push 58 = .ok (.aload_n 0, 1) := by decide +kernel
theorem dX4_push_59 : decode cX4_push 59 = .ok (.iload_n 1, 1) := by decide +kernel
theorem dX4_push_60 : decode cX4_push 60 = .ok (.iload 7, 2) := by decide +kernel
theorem dX4_push_62 : decode cX4_push 62 = .ok (.ifCond .ge 11, 3) := by decide +kernel
theorem dX4_push_65 : decode cX4_push 65 = .ok (.iload 7, 2) := by decide +kernel
theorem dX4_push_67 : decode cX4_push 67 = .ok (.iload 5, 2) := by decide +kernel
theorem dX4_push_69 : decode cX4_push 69 = .ok (.iadd, 1) := by decide +kernel
theorem dX4_push_70 : decode cX4_push 70 = .ok (.goto 5, 3) := by decide +kernel
theorem dX4_push_73 : decode cX4_push 73 = .ok (.iload 7, 2) := by decide +kernel
theorem dX4_push_75 : decode cX4_push 75 = .ok (.iadd, 1) := by decide +kernel
theorem dX4_push_76 : decode cX4_push 76 = .ok (.aload 4, 2) := by decide +kernel
theorem dX4_push_78 : decode cX4_push 78 = .ok (.iload_n 1, 1) := by decide +kernel
theorem dX4_push_79 : decode cX4_push 79 = .ok (.iload 6, 2) := by decide +kernel
theorem dX4_push_81 : decode cX4_push 81 = .ok (.iadd, 1) := by decide +kernel
theorem dX4_push_82 : decode cX4_push 82 = .ok (.iaload, 1) := by decide +kernel
theorem dX4_push_83 : decode cX4_push 83 = .ok (.iastore, 1) := by decide +kernel
theorem dX4_push_84 : decode cX4_push 84 = .ok (.iinc 6 1, 3) := by decide +kernel
theorem dX4_push_87 : decode cX4_push 87 = .ok (.goto (-49), 3) := by decide +kernel
theorem dX4_push_90 : decode cX4_push 90 = .ok (.return_, 1) := by decide +kernel
theorem dX4_turn_0 : decode cX4_turn 0 = .ok (.bipush 31, 2) := by decide +kernel
theorem dX4_turn_2 : decode cX4_turn 2 = .ok (.newarray .int, 2) := by decide +kernel
theorem dX4_turn_4 : decode cX4_turn 4 = .ok (.astore_n 3, 1) := by decide +kernel
theorem dX4_turn_5 : decode cX4_turn 5 = .ok (.iload_n 1, 1) := by decide +kernel
theorem dX4_turn_6 : decode cX4_turn 6 = .ok (.istore 4, 2) := by decide +kernel
theorem dX4_turn_8 : decode cX4_turn 8 = .ok (.iload 4, 2) := by decide +kernel
theorem dX4_turn_10 : decode cX4_turn 10 = .ok (.iload_n 2, 1) := by decide +kernel
theorem dX4_turn_11 : decode cX4_turn 11 = .ok (.if_icmp .ge 17, 3) := by decide +kernel
theorem dX4_turn_14 : decode cX4_turn 14 = .ok (.aload_n 3, 1) := by decide +kernel
theorem dX4_turn_15 : decode cX4_turn 15 = .ok (.iload 4, 2) := by decide +kernel
theorem dX4_turn_17 : decode cX4_turn 17 = .ok (.aload_n 0, 1) := by decide +kernel
theorem dX4_turn_18 : decode cX4_turn 18 = .ok (.iload 4, 2) := by decide +kernel
theorem dX4_turn_20 : decode cX4_turn 20 = .ok (.iaload, 1) := by decide +kernel
theorem dX4_turn_21 : decode cX4_turn 21 = .ok (.iastore, 1) := by decide +kernel
theorem dX4_turn_22 : decode cX4_turn 22 = .ok (.iinc 4 1, 3) := by decide +kernel
theorem dX4_turn_25 : decode cX4_turn 25 = .ok (.goto (-17), 3) := by decide +kernel
theorem dX4_turn_28 : decode cX4_turn 28 = .ok (.iload_n 1, 1) := by decide +kernel
theorem dX4_turn_29 : decode cX4_turn 29 = .ok (.istore 4, 2) := by decide +kernel
theorem dX4_turn_31 : decode cX4_turn 31 = .ok (.iload 4, 2) := by decide +kernel
theorem dX4_turn_33 : decode cX4_turn 33 = .ok (.iload_n 2, 1) := by decide +kernel
theorem dX4_turn_34 : decode cX4_turn 34 = .ok (.if_icmp .ge 23, 3) := by decide +kernel
theorem dX4_turn_37 : decode cX4_turn 37 = .ok (.aload_n 0, 1) := by decide +kernel
theorem dX4_turn_38 : decode cX4_turn 38 = .ok (.iload 4, 2) := by decide +kernel
theorem dX4_turn_40 : decode cX4_turn 40 = .ok (.aload_n 3, 1) := by decide +kernel
theorem dX4_turn_41 : decode cX4_turn 41 = .ok (.iload_n 2, 1) := by decide +kernel
theorem dX4_turn_42 : decode cX4_turn 42 = .ok (.iconst 1, 1) := by decide +kernel
theorem dX4_turn_43 : decode cX4_turn 43 = .ok (.isub, 1) := by decide +kernel
theorem dX4_turn_44 : decode cX4_turn 44 = .ok (.iload 4, 2) := by decide +kernel
theorem dX4_turn_46 : decode cX4_turn 46 = .ok (.iload_n 1, 1) := by decide +kernel
theorem dX4_turn_47 : decode cX4_turn 47 = .ok (.isub, 1) := by decide +kernel
theorem dX4_turn_48 : decode cX4_turn 48 = .ok (.isub, 1) := by decide +kernel
theorem dX4_turn_49 : decode cX4_turn 49 = .ok (.iaload, 1) := by decide +kernel
theorem dX4_turn_50 : decode cX4_turn 50 = .ok (.iastore, 1) := by decide +kernel
theorem dX4_turn_51 : decode cX4_turn 51 = .ok (.iinc 4 1, 3) := by decide +kernel
theorem dX4_turn_54 : decode cX4_turn 54 = .ok (.goto (-23), 3) := by decide +kernel
theorem dX4_turn_57 : decode cX4_turn 57 = .ok (.return_, 1) := by decide +kernel
theorem dX4_sort_0 : decode cX4_sort 0 = .ok (.iload_n 1, 1) := by decide +kernel
theorem dX4_sort_1 : decode cX4_sort 1 = .ok (.istore 4, 2) := by decide +kernel
theorem dX4_sort_3 : decode cX4_sort 3 = .ok (.iload 4, 2) := by decide +kernel
theorem dX4_sort_5 : decode cX4_sort 5 = .ok (.iload_n 2, 1) := by decide +kernel
theorem dX4_sort_6 : decode cX4_sort 6 = .ok (.if_icmp .ge 115, 3) := by decide +kernel
theorem dX4_sort_9 : decode cX4_sort 9 = .ok (.iload 4, 2) := by decide +kernel
theorem dX4_sort_11 : decode cX4_sort 11 = .ok (.istore 5, 2) := by decide +kernel
theorem dX4_sort_13 : decode cX4_sort 13 = .ok (.iload 4, 2) := by decide +kernel
theorem dX4_sort_15 : decode cX4_sort 15 = .ok (.iconst 1, 1) := by decide +kernel
theorem dX4_sort_16 : decode cX4_sort 16 = .ok (.iadd, 1) := by decide +kernel
theorem dX4_sort_17 : decode cX4_sort 17 = .ok (.istore 6, 2) := by decide +kernel
theorem dX4_sort_19 : decode cX4_sort 19 = .ok (.iload 6, 2) := by decide +kernel
theorem dX4_sort_21 : decode cX4_sort 21 = .ok (.iload_n 2, 1) := by decide +kernel
theorem dX4_sort_22 : decode cX4_sort 22 = .ok (.if_icmp .ge 54, 3) := by decide +kernel
theorem dX4_sort_25 : decode cX4_sort 25 = .ok (.iload_n 3, 1) := by decide +kernel
theorem dX4_sort_26 : decode cX4_sort 26 = .ok (.ifCond .eq 23, 3) := by decide +kernel
theorem dX4_sort_49 : decode cX4_sort 49 = .ok (.aload_n 0, 1) := by decide +kernel
theorem dX4_sort_50 : decode cX4_sort 50 = .ok (.iload 6, 2) := by decide +kernel
theorem dX4_sort_52 : decode cX4_sort 52 = .ok (.iaload, 1) := by decide +kernel
theorem dX4_sort_53 : decode cX4_sort 53 = .ok (.bipush 10, 2) := by decide +kernel
theorem dX4_sort_55 : decode cX4_sort 55 = .ok (.idiv, 1) := by decide +kernel
theorem dX4_sort_56 : decode cX4_sort 56 = .ok (.aload_n 0, 1) := by decide +kernel
theorem dX4_sort_57 : decode cX4_sort 57 = .ok (.iload 5, 2) := by decide +kernel
theorem dX4_sort_59 : decode cX4_sort 59 = .ok (.iaload, 1) := by decide +kernel
theorem dX4_sort_60 : decode cX4_sort 60 = .ok (.bipush 10, 2) := by decide +kernel
theorem dX4_sort_62 : decode cX4_sort 62 = .ok (.idiv, 1) := by decide +kernel
theorem dX4_sort_63 : decode cX4_sort 63 = .ok (.if_icmp .ge 7, 3) := by decide +kernel
theorem dX4_sort_70 : decode cX4_sort 70 = .ok (.iinc 6 1, 3) := by decide +kernel
theorem dX4_sort_73 : decode cX4_sort 73 = .ok (.goto (-54), 3) := by decide +kernel
theorem dX4_sort_76 : decode cX4_sort 76 = .ok (.aload_n 0, 1) := by decide +kernel
theorem dX4_sort_77 : decode cX4_sort 77 = .ok (.iload 5, 2) := by decide +kernel
theorem dX4_sort_79 : decode cX4_sort 79 = .ok (.iaload, 1) := by decide +kernel
theorem dX4_sort_80 : decode cX4_sort 80 = .ok (.istore 6, 2) := by decide +kernel
theorem dX4_sort_82 : decode cX4_sort 82 = .ok (.iload 5, 2) := by decide +kernel
theorem dX4_sort_84 : decode cX4_sort 84 = .ok (.istore 7, 2) := by decide +kernel
theorem dX4_sort_86 : decode cX4_sort 86 = .ok (.iload 7, 2) := by decide +kernel
theorem dX4_sort_88 : decode cX4_sort 88 = .ok (.iload 4, 2) := by decide +kernel
theorem dX4_sort_90 : decode cX4_sort 90 = .ok (.if_icmp .le 19, 3) := by decide +kernel
theorem dX4_sort_109 : decode cX4_sort 109 = .ok (.aload_n 0, 1) := by decide +kernel
theorem dX4_sort_110 : decode cX4_sort 110 = .ok (.iload 4, 2) := by decide +kernel
theorem dX4_sort_112 : decode cX4_sort 112 = .ok (.iload 6, 2) := by decide +kernel
theorem dX4_sort_114 : decode cX4_sort 114 = .ok (.iastore, 1) := by decide +kernel
theorem dX4_sort_115 : decode cX4_sort 115 = .ok (.iinc 4 1, 3) := by decide +kernel
theorem dX4_sort_118 : decode cX4_sort 118 = .ok (.goto (-115), 3) := by decide +kernel
theorem dX4_sort_121 : decode cX4_sort 121 = .ok (.return_, 1) := by decide +kernel
theorem dX4_textOf_0 : decode cX4_textOf 0 = .ok (.ldc 100, 2) := by decide +kernel
theorem dX4_textOf_2 : decode cX4_textOf 2 = .ok (.astore 4, 2) := by decide +kernel
theorem dX4_textOf_4 : decode cX4_textOf 4 = .ok (.iload_n 2, 1) := by decide +kernel
theorem dX4_textOf_5 : decode cX4_textOf 5 = .ok (.istore 5, 2) := by decide +kernel
theorem dX4_textOf_7 : decode cX4_textOf 7 = .ok (.iload 5, 2) := by decide +kernel
theorem dX4_textOf_9 : decode cX4_textOf 9 = .ok (.iload_n 3, 1) := by decide +kernel
theorem dX4_textOf_10 : decode cX4_textOf 10 = .ok (.if_icmp .ge 77, 3) := by decide +kernel
theorem dX4_textOf_13 : decode cX4_textOf 13 = .ok (.new 102, 3) := by decide +kernel
theorem dX4_textOf_16 : decode cX4_textOf 16 = .ok (.dup, 1) := by decide +kernel
theorem dX4_textOf_17 : decode cX4_textOf 17 = .ok (.invokespecial 104, 3) := by decide +kernel
theorem dX4_textOf_20 : decode cX4_textOf 20 = .ok (.aload 4, 2) := by decide +kernel
theorem dX4_textOf_22 : decode cX4_textOf 22 = .ok (.invokevirtual 105, 3) := by decide +kernel
theorem dX4_textOf_25 : decode cX4_textOf 25 = .ok (.iload 5, 2) := by decide +kernel
theorem dX4_textOf_27 : decode cX4_textOf 27 = .ok (.iload_n 2, 1) := by decide +kernel
theorem dX4_textOf_28 : decode cX4_textOf 28 = .ok (.if_icmp .le 8, 3) := by decide +kernel
theorem dX4_textOf_31 : decode cX4_textOf 31 = .ok (.ldc 109, 2) := by decide +kernel
theorem dX4_textOf_33 : decode cX4_textOf 33 = .ok (.goto 5, 3) := by decide +kernel
theorem dX4_textOf_36 : decode cX4_textOf 36 = .ok (.ldc 111, 2) := by decide +kernel
theorem dX4_textOf_38 : decode cX4_textOf 38 = .ok (.invokevirtual 105, 3) := by decide +kernel
theorem dX4_textOf_41 : decode cX4_textOf 41 = .ok (.aload_n 0, 1) := by decide +kernel
theorem dX4_textOf_42 : decode cX4_textOf 42 = .ok (.getfield 11, 3) := by decide +kernel
theorem dX4_textOf_45 : decode cX4_textOf 45 = .ok (.iload_n 1, 1) := by decide +kernel
theorem dX4_textOf_46 : decode cX4_textOf 46 = .ok (.aaload, 1) := by decide +kernel
theorem dX4_textOf_47 : decode cX4_textOf 47 = .ok (.iload 5, 2) := by decide +kernel
theorem dX4_textOf_49 : decode cX4_textOf 49 = .ok (.iaload, 1) := by decide +kernel
theorem dX4_textOf_50 : decode cX4_textOf 50 = .ok (.bipush 10, 2) := by decide +kernel
theorem dX4_textOf_52 : decode cX4_textOf 52 = .ok (.idiv, 1) := by decide +kernel
theorem dX4_textOf_53 : decode cX4_textOf 53 = .ok (.invokevirtual 113, 3) := by decide +kernel
theorem dX4_textOf_56 : decode cX4_textOf 56 = .ok (.ldc 116, 2) := by decide +kernel
theorem dX4_textOf_58 : decode cX4_textOf 58 = .ok (.invokevirtual 105, 3) := by decide +kernel
theorem dX4_textOf_61 : decode cX4_textOf 61 = .ok (.aload_n 0, 1) := by decide +kernel
theorem dX4_textOf_62 : decode cX4_textOf 62 = .ok (.getfield 11, 3) := by decide +kernel
theorem dX4_textOf_65 : decode cX4_textOf 65 = .ok (.iload_n 1, 1) := by decide +kernel
theorem dX4_textOf_66 : decode cX4_textOf 66 = .ok (.aaload, 1) := by decide +kernel
theorem dX4_textOf_67 : decode cX4_textOf 67 = .ok (.iload 5, 2) := by decide +kernel
theorem dX4_textOf_69 : decode cX4_textOf 69 = .ok (.iaload, 1) := by decide +kernel
theorem dX4_textOf_70 : decode cX4_textOf 70 = .ok (.bipush 10, 2) := by decide +kernel
theorem dX4_textOf_72 : decode cX4_textOf 72 = .ok (.irem, 1) := by decide +kernel
theorem dX4_textOf_73 : decode cX4_textOf 73 = .ok (.invokevirtual 113, 3) := by decide +kernel
theorem dX4_textOf_76 : decode cX4_textOf 76 = .ok (.invokevirtual 118, 3) := by decide +kernel
theorem dX4_textOf_79 : decode cX4_textOf 79 = .ok (.astore 4, 2) := by decide +kernel
theorem dX4_textOf_81 : decode cX4_textOf 81 = .ok (.iinc 5 1, 3) := by decide +kernel
theorem dX4_textOf_84 : decode cX4_textOf 84 = .ok (.goto (-77), 3) := by decide +kernel
theorem dX4_textOf_87 : decode cX4_textOf 87 = .ok (.new 102, 3) := by decide +kernel
theorem dX4_textOf_90 : decode cX4_textOf 90 = .ok (.dup, 1) := by decide +kernel
theorem dX4_textOf_91 : decode cX4_textOf 91 = .ok (.invokespecial 104, 3) := by decide +kernel
theorem dX4_textOf_94 : decode cX4_textOf 94 = .ok (.aload 4, 2) := by decide +kernel
theorem dX4_textOf_96 : decode cX4_textOf 96 = .ok (.invokevirtual 105, 3) := by decide +kernel
theorem dX4_textOf_99 : decode cX4_textOf 99 = .ok (.ldc 122, 2) := by decide +kernel
theorem dX4_textOf_101 : decode cX4_textOf 101 = .ok (.invokevirtual 105, 3) := by decide +kernel
theorem dX4_textOf_104 : decode cX4_textOf 104 = .ok (.invokevirtual 118, 3) := by decide +kernel
theorem dX4_textOf_107 : decode cX4_textOf 107 = .ok (.areturn, 1) := by decide +kernel
theorem dX4_count_0 : decode cX4_count 0 = .ok (.iconst 0, 1) := by decide +kernel
theorem dX4_count_1 : decode cX4_count 1 = .ok (.istore_n 3, 1) := by decide +kernel
theorem dX4_count_2 : decode cX4_count 2 = .ok (.iconst 0, 1) := by decide +kernel
theorem dX4_count_3 : decode cX4_count 3 = .ok (.istore 4, 2) := by decide +kernel
theorem dX4_count_5 : decode cX4_count 5 = .ok (.iload 4, 2) := by decide +kernel
theorem dX4_count_7 : decode cX4_count 7 = .ok (.aload_n 0, 1) := by decide +kernel
theorem dX4_count_8 : decode cX4_count 8 = .ok (.getfield 14, 3) := by decide +kernel
theorem dX4_count_11 : decode cX4_count 11 = .ok (.iload_n 1, 1) := by decide +kernel
theorem dX4_count_12 : decode cX4_count 12 = .ok (.iaload, 1) := by decide +kernel
theorem dX4_count_13 : decode cX4_count 13 = .ok (.if_icmp .ge 33, 3) := by decide +kernel
theorem dX4_count_16 : decode cX4_count 16 = .ok (.iload_n 3, 1) := by decide +kernel
theorem dX4_count_17 : decode cX4_count 17 = .ok (.aload_n 0, 1) := by decide +kernel
theorem dX4_count_18 : decode cX4_count 18 = .ok (.getfield 11, 3) := by decide +kernel
theorem dX4_count_21 : decode cX4_count 21 = .ok (.iload_n 1, 1) := by decide +kernel
theorem dX4_count_22 : decode cX4_count 22 = .ok (.aaload, 1) := by decide +kernel
theorem dX4_count_23 : decode cX4_count 23 = .ok (.iload 4, 2) := by decide +kernel
theorem dX4_count_25 : decode cX4_count 25 = .ok (.iaload, 1) := by decide +kernel
theorem dX4_count_26 : decode cX4_count 26 = .ok (.iload_n 2, 1) := by decide +kernel
theorem dX4_count_27 : decode cX4_count 27 = .ok (.if_icmp .ne 7, 3) := by decide +kernel
theorem dX4_count_30 : decode cX4_count 30 = .ok (.iconst 1, 1) := by decide +kernel
theorem dX4_count_31 : decode cX4_count 31 = .ok (.goto 4, 3) := by decide +kernel
theorem dX4_count_35 : decode cX4_count 35 = .ok (.invokestatic 128, 3) := by decide +kernel
theorem dX4_count_38 : decode cX4_count 38 = .ok (.iadd, 1) := by decide +kernel
theorem dX4_count_39 : decode cX4_count 39 = .ok (.istore_n 3, 1) := by decide +kernel
theorem dX4_count_40 : decode cX4_count 40 = .ok (.iinc 4 1, 3) := by decide +kernel
theorem dX4_count_43 : decode cX4_count 43 = .ok (.goto (-38), 3) := by decide +kernel
theorem dX4_count_46 : decode cX4_count 46 = .ok (.iload_n 3, 1) := by decide +kernel
theorem dX4_count_47 : decode cX4_count 47 = .ok (.ireturn, 1) := by decide +kernel
theorem dX4_areApart_0 : decode cX4_areApart 0 = .ok (.iconst 1, 1) := by decide +kernel
theorem dX4_areApart_1 : decode cX4_areApart 1 = .ok (.istore_n 3, 1) := by decide +kernel
theorem dX4_areApart_2 : decode cX4_areApart 2 = .ok (.iconst 0, 1) := by decide +kernel
theorem dX4_areApart_3 : decode cX4_areApart 3 = .ok (.istore 4, 2) := by decide +kernel
theorem dX4_areApart_5 : decode cX4_areApart 5 = .ok (.iload 4, 2) := by decide +kernel
theorem dX4_areApart_7 : decode cX4_areApart 7 = .ok (.aload_n 0, 1) := by decide +kernel
theorem dX4_areApart_8 : decode cX4_areApart 8 = .ok (.getfield 14, 3) := by decide +kernel
theorem dX4_areApart_11 : decode cX4_areApart 11 = .ok (.iload_n 1, 1) := by decide +kernel
theorem dX4_areApart_12 : decode cX4_areApart 12 = .ok (.iaload, 1) := by decide +kernel
theorem dX4_areApart_13 : decode cX4_areApart 13 = .ok (.if_icmp .ge 34, 3) := by decide +kernel
theorem dX4_areApart_16 : decode cX4_areApart 16 = .ok (.iload_n 3, 1) := by decide +kernel
theorem dX4_areApart_17 : decode cX4_areApart 17 = .ok (.aload_n 0, 1) := by decide +kernel
theorem dX4_areApart_18 : decode cX4_areApart 18 = .ok (.iload_n 2, 1) := by decide +kernel
theorem dX4_areApart_19 : decode cX4_areApart 19 = .ok (.aload_n 0, 1) := by decide +kernel
theorem dX4_areApart_20 : decode cX4_areApart 20 = .ok (.getfield 11, 3) := by decide +kernel
theorem dX4_areApart_23 : decode cX4_areApart 23 = .ok (.iload_n 1, 1) := by decide +kernel
theorem dX4_areApart_24 : decode cX4_areApart 24 = .ok (.aaload, 1) := by decide +kernel
theorem dX4_areApart_25 : decode cX4_areApart 25 = .ok (.iload 4, 2) := by decide +kernel
theorem dX4_areApart_27 : decode cX4_areApart 27 = .ok (.iaload, 1) := by decide +kernel
theorem dX4_areApart_28 : decode cX4_areApart 28 = .ok (.invokevirtual 132, 3) := by decide +kernel
theorem dX4_areApart_31 : decode cX4_areApart 31 = .ok (.ifCond .ne 7, 3) := by decide +kernel
theorem dX4_areApart_34 : decode cX4_areApart 34 = .ok (.iconst 1, 1) := by decide +kernel
theorem dX4_areApart_35 : decode cX4_areApart 35 = .ok (.goto 4, 3) := by decide +kernel
theorem dX4_areApart_38 : decode cX4_areApart 38 = .ok (.iconst 0, 1) := by decide +kernel
theorem dX4_areApart_39 : decode cX4_areApart 39 = .ok (.iand, 1) := by decide +kernel
theorem dX4_areApart_40 : decode cX4_areApart 40 = .ok (.istore_n 3, 1) := by decide +kernel
theorem dX4_areApart_41 : decode cX4_areApart 41 = .ok (.iinc 4 1, 3) := by decide +kernel
theorem dX4_areApart_44 : decode cX4_areApart 44 = .ok (.goto (-39), 3) := by decide +kernel
theorem dX4_areApart_47 : decode cX4_areApart 47 = .ok (.iload_n 3, 1) := by decide +kernel
theorem dX4_areApart_48 : decode cX4_areApart 48 = .ok (.ireturn, 1) := by decide +kernel
theorem dX4_placeOf_0 : decode cX4_placeOf 0 = .ok (.iload_n 1, 1) := by decide +kernel
theorem dX4_placeOf_1 : decode cX4_placeOf 1 = .ok (.istore 6, 2) := by decide +kernel
theorem dX4_placeOf_3 : decode cX4_placeOf 3 = .ok (.iload 6, 2) := by decide +kernel
theorem dX4_placeOf_5 : decode cX4_placeOf 5 = .ok (.iload 5, 2) := by decide +kernel
theorem dX4_placeOf_7 : decode cX4_placeOf 7 = .ok (.iadd, 1) := by decide +kernel
theorem dX4_placeOf_8 : decode cX4_placeOf 8 = .ok (.iload 4, 2) := by decide +kernel
theorem dX4_placeOf_10 : decode cX4_placeOf 10 = .ok (.isub, 1) := by decide +kernel
theorem dX4_placeOf_11 : decode cX4_placeOf 11 = .ok (.iload_n 2, 1) := by decide +kernel
theorem dX4_placeOf_12 : decode cX4_placeOf 12 = .ok (.if_icmp .gt 68, 3) := by decide +kernel
theorem dX4_placeOf_15 : decode cX4_placeOf 15 = .ok (.iconst 1, 1) := by decide +kernel
theorem dX4_placeOf_16 : decode cX4_placeOf 16 = .ok (.istore 7, 2) := by decide +kernel
theorem dX4_placeOf_18 : decode cX4_placeOf 18 = .ok (.iconst 0, 1) := by decide +kernel
theorem dX4_placeOf_19 : decode cX4_placeOf 19 = .ok (.istore 8, 2) := by decide +kernel
theorem dX4_placeOf_21 : decode cX4_placeOf 21 = .ok (.iload 8, 2) := by decide +kernel
theorem dX4_placeOf_23 : decode cX4_placeOf 23 = .ok (.iload 5, 2) := by decide +kernel
theorem dX4_placeOf_25 : decode cX4_placeOf 25 = .ok (.iload 4, 2) := by decide +kernel
theorem dX4_placeOf_27 : decode cX4_placeOf 27 = .ok (.isub, 1) := by decide +kernel
theorem dX4_placeOf_28 : decode cX4_placeOf 28 = .ok (.if_icmp .ge 36, 3) := by decide +kernel
theorem dX4_placeOf_31 : decode cX4_placeOf 31 = .ok (.iload 7, 2) := by decide +kernel
theorem dX4_placeOf_33 : decode cX4_placeOf 33 = .ok (.aload_n 0, 1) := by decide +kernel
theorem dX4_placeOf_34 : decode cX4_placeOf 34 = .ok (.iload 6, 2) := by decide +kernel
theorem dX4_placeOf_36 : decode cX4_placeOf 36 = .ok (.iload 8, 2) := by decide +kernel
theorem dX4_placeOf_38 : decode cX4_placeOf 38 = .ok (.iadd, 1) := by decide +kernel
theorem dX4_placeOf_39 : decode cX4_placeOf 39 = .ok (.iaload, 1) := by decide +kernel
theorem dX4_placeOf_40 : decode cX4_placeOf 40 = .ok (.aload_n 3, 1) := by decide +kernel
theorem dX4_placeOf_41 : decode cX4_placeOf 41 = .ok (.iload 4, 2) := by decide +kernel
theorem dX4_placeOf_43 : decode cX4_placeOf 43 = .ok (.iload 8, 2) := by decide +kernel
theorem dX4_placeOf_45 : decode cX4_placeOf 45 = .ok (.iadd, 1) := by decide +kernel
theorem dX4_placeOf_46 : decode cX4_placeOf 46 = .ok (.iaload, 1) := by decide +kernel
theorem dX4_placeOf_47 : decode cX4_placeOf 47 = .ok (.if_icmp .ne 7, 3) := by decide +kernel
theorem dX4_placeOf_50 : decode cX4_placeOf 50 = .ok (.iconst 1, 1) := by decide +kernel
theorem dX4_placeOf_51 : decode cX4_placeOf 51 = .ok (.goto 4, 3) := by decide +kernel
theorem dX4_placeOf_55 : decode cX4_placeOf 55 = .ok (.iand, 1) := by decide +kernel
theorem dX4_placeOf_56 : decode cX4_placeOf 56 = .ok (.istore 7, 2) := by decide +kernel
theorem dX4_placeOf_58 : decode cX4_placeOf 58 = .ok (.iinc 8 1, 3) := by decide +kernel
theorem dX4_placeOf_61 : decode cX4_placeOf 61 = .ok (.goto (-40), 3) := by decide +kernel
theorem dX4_placeOf_64 : decode cX4_placeOf 64 = .ok (.iload 7, 2) := by decide +kernel
theorem dX4_placeOf_66 : decode cX4_placeOf 66 = .ok (.ifCond .eq 8, 3) := by decide +kernel
theorem dX4_placeOf_69 : decode cX4_placeOf 69 = .ok (.iload 6, 2) := by decide +kernel
theorem dX4_placeOf_71 : decode cX4_placeOf 71 = .ok (.iload_n 1, 1) := by decide +kernel
theorem dX4_placeOf_72 : decode cX4_placeOf 72 = .ok (.isub, 1) := by decide +kernel
theorem dX4_placeOf_73 : decode cX4_placeOf 73 = .ok (.ireturn, 1) := by decide +kernel
theorem dX4_placeOf_80 : decode cX4_placeOf 80 = .ok (.iconst (-1), 1) := by decide +kernel
theorem dX4_placeOf_81 : decode cX4_placeOf 81 = .ok (.ireturn, 1) := by decide +kernel
theorem dX4_rowIn_0 : decode cX4_rowIn 0 = .ok (.aload_n 0, 1) := by decide +kernel
theorem dX4_rowIn_1 : decode cX4_rowIn 1 = .ok (.getfield 11, 3) := by decide +kernel
theorem dX4_rowIn_4 : decode cX4_rowIn 4 = .ok (.iload_n 1, 1) := by decide +kernel
theorem dX4_rowIn_5 : decode cX4_rowIn 5 = .ok (.aaload, 1) := by decide +kernel
theorem dX4_rowIn_6 : decode cX4_rowIn 6 = .ok (.iconst 0, 1) := by decide +kernel
theorem dX4_rowIn_7 : decode cX4_rowIn 7 = .ok (.aload_n 0, 1) := by decide +kernel
theorem dX4_rowIn_8 : decode cX4_rowIn 8 = .ok (.getfield 14, 3) := by decide +kernel
theorem dX4_rowIn_11 : decode cX4_rowIn 11 = .ok (.iload_n 1, 1) := by decide +kernel
theorem dX4_rowIn_12 : decode cX4_rowIn 12 = .ok (.iaload, 1) := by decide +kernel
theorem dX4_rowIn_13 : decode cX4_rowIn 13 = .ok (.aload_n 0, 1) := by decide +kernel
theorem dX4_rowIn_14 : decode cX4_rowIn 14 = .ok (.getfield 11, 3) := by decide +kernel
theorem dX4_rowIn_17 : decode cX4_rowIn 17 = .ok (.iload_n 2, 1) := by decide +kernel
theorem dX4_rowIn_18 : decode cX4_rowIn 18 = .ok (.aaload, 1) := by decide +kernel
theorem dX4_rowIn_19 : decode cX4_rowIn 19 = .ok (.iconst 0, 1) := by decide +kernel
theorem dX4_rowIn_20 : decode cX4_rowIn 20 = .ok (.aload_n 0, 1) := by decide +kernel
theorem dX4_rowIn_21 : decode cX4_rowIn 21 = .ok (.getfield 14, 3) := by decide +kernel
theorem dX4_rowIn_24 : decode cX4_rowIn 24 = .ok (.iload_n 2, 1) := by decide +kernel
theorem dX4_rowIn_25 : decode cX4_rowIn 25 = .ok (.iaload, 1) := by decide +kernel
theorem dX4_rowIn_26 : decode cX4_rowIn 26 = .ok (.invokestatic 138, 3) := by decide +kernel
theorem dX4_rowIn_29 : decode cX4_rowIn 29 = .ok (.ireturn, 1) := by decide +kernel
theorem dX4_mostOf_0 : decode cX4_mostOf 0 = .ok (.aload_n 0, 1) := by decide +kernel
theorem dX4_mostOf_1 : decode cX4_mostOf 1 = .ok (.getfield 14, 3) := by decide +kernel
theorem dX4_mostOf_4 : decode cX4_mostOf 4 = .ok (.iload_n 1, 1) := by decide +kernel
theorem dX4_mostOf_5 : decode cX4_mostOf 5 = .ok (.iaload, 1) := by decide +kernel
theorem dX4_mostOf_6 : decode cX4_mostOf 6 = .ok (.ifCond .ne 6, 3) := by decide +kernel
theorem dX4_mostOf_9 : decode cX4_mostOf 9 = .ok (.bipush (-9), 2) := by decide +kernel
theorem dX4_mostOf_11 : decode cX4_mostOf 11 = .ok (.ireturn, 1) := by decide +kernel
theorem dX4_mostOf_12 : decode cX4_mostOf 12 = .ok (.aload_n 0, 1) := by decide +kernel
theorem dX4_mostOf_13 : decode cX4_mostOf 13 = .ok (.getfield 11, 3) := by decide +kernel
theorem dX4_mostOf_16 : decode cX4_mostOf 16 = .ok (.iload_n 1, 1) := by decide +kernel
theorem dX4_mostOf_17 : decode cX4_mostOf 17 = .ok (.aaload, 1) := by decide +kernel
theorem dX4_mostOf_18 : decode cX4_mostOf 18 = .ok (.iconst 0, 1) := by decide +kernel
theorem dX4_mostOf_19 : decode cX4_mostOf 19 = .ok (.iaload, 1) := by decide +kernel
theorem dX4_mostOf_20 : decode cX4_mostOf 20 = .ok (.bipush 10, 2) := by decide +kernel
theorem dX4_mostOf_22 : decode cX4_mostOf 22 = .ok (.idiv, 1) := by decide +kernel
theorem dX4_mostOf_23 : decode cX4_mostOf 23 = .ok (.istore_n 3, 1) := by decide +kernel
theorem dX4_mostOf_24 : decode cX4_mostOf 24 = .ok (.iconst 1, 1) := by decide +kernel
theorem dX4_mostOf_25 : decode cX4_mostOf 25 = .ok (.istore 4, 2) := by decide +kernel
theorem dX4_mostOf_27 : decode cX4_mostOf 27 = .ok (.iload 4, 2) := by decide +kernel
theorem dX4_mostOf_29 : decode cX4_mostOf 29 = .ok (.aload_n 0, 1) := by decide +kernel
theorem dX4_mostOf_30 : decode cX4_mostOf 30 = .ok (.getfield 14, 3) := by decide +kernel
theorem dX4_mostOf_33 : decode cX4_mostOf 33 = .ok (.iload_n 1, 1) := by decide +kernel
theorem dX4_mostOf_34 : decode cX4_mostOf 34 = .ok (.iaload, 1) := by decide +kernel
theorem dX4_mostOf_35 : decode cX4_mostOf 35 = .ok (.if_icmp .ge 49, 3) := by decide +kernel
theorem dX4_mostOf_38 : decode cX4_mostOf 38 = .ok (.iload_n 2, 1) := by decide +kernel
theorem dX4_mostOf_39 : decode cX4_mostOf 39 = .ok (.ifCond .eq 22, 3) := by decide +kernel
theorem dX4_mostOf_42 : decode cX4_mostOf 42 = .ok (.iload_n 3, 1) := by decide +kernel
theorem dX4_mostOf_43 : decode cX4_mostOf 43 = .ok (.aload_n 0, 1) := by decide +kernel
theorem dX4_mostOf_44 : decode cX4_mostOf 44 = .ok (.getfield 11, 3) := by decide +kernel
theorem dX4_mostOf_47 : decode cX4_mostOf 47 = .ok (.iload_n 1, 1) := by decide +kernel
theorem dX4_mostOf_48 : decode cX4_mostOf 48 = .ok (.aaload, 1) := by decide +kernel
theorem dX4_mostOf_49 : decode cX4_mostOf 49 = .ok (.iload 4, 2) := by decide +kernel
theorem dX4_mostOf_51 : decode cX4_mostOf 51 = .ok (.iaload, 1) := by decide +kernel
theorem dX4_mostOf_52 : decode cX4_mostOf 52 = .ok (.bipush 10, 2) := by decide +kernel
theorem dX4_mostOf_54 : decode cX4_mostOf 54 = .ok (.idiv, 1) := by decide +kernel
theorem dX4_mostOf_55 : decode cX4_mostOf 55 = .ok (.invokestatic 148, 3) := by decide +kernel
theorem dX4_mostOf_58 : decode cX4_mostOf 58 = .ok (.goto 19, 3) := by decide +kernel
theorem dX4_mostOf_61 : decode cX4_mostOf 61 = .ok (.iload_n 3, 1) := by decide +kernel
theorem dX4_mostOf_62 : decode cX4_mostOf 62 = .ok (.aload_n 0, 1) := by decide +kernel
theorem dX4_mostOf_63 : decode cX4_mostOf 63 = .ok (.getfield 11, 3) := by decide +kernel
theorem dX4_mostOf_66 : decode cX4_mostOf 66 = .ok (.iload_n 1, 1) := by decide +kernel
theorem dX4_mostOf_67 : decode cX4_mostOf 67 = .ok (.aaload, 1) := by decide +kernel
theorem dX4_mostOf_68 : decode cX4_mostOf 68 = .ok (.iload 4, 2) := by decide +kernel
theorem dX4_mostOf_70 : decode cX4_mostOf 70 = .ok (.iaload, 1) := by decide +kernel
theorem dX4_mostOf_71 : decode cX4_mostOf 71 = .ok (.bipush 10, 2) := by decide +kernel
theorem dX4_mostOf_73 : decode cX4_mostOf 73 = .ok (.idiv, 1) := by decide +kernel
theorem dX4_mostOf_74 : decode cX4_mostOf 74 = .ok (.invokestatic 153, 3) := by decide +kernel
theorem dX4_mostOf_77 : decode cX4_mostOf 77 = .ok (.istore_n 3, 1) := by decide +kernel
theorem dX4_mostOf_78 : decode cX4_mostOf 78 = .ok (.iinc 4 1, 3) := by decide +kernel
theorem dX4_mostOf_81 : decode cX4_mostOf 81 = .ok (.goto (-54), 3) := by decide +kernel
theorem dX4_mostOf_84 : decode cX4_mostOf 84 = .ok (.iload_n 3, 1) := by decide +kernel
theorem dX4_mostOf_85 : decode cX4_mostOf 85 = .ok (.ireturn, 1) := by decide +kernel
theorem dX4_lay_0 : decode cX4_lay 0 = .ok (.aload_n 0, 1) := by decide +kernel
theorem dX4_lay_1 : decode cX4_lay 1 = .ok (.iload_n 1, 1) := by decide +kernel
theorem dX4_lay_2 : decode cX4_lay 2 = .ok (.invokevirtual 48, 3) := by decide +kernel
theorem dX4_lay_5 : decode cX4_lay 5 = .ok (.aload_n 0, 1) := by decide +kernel
theorem dX4_lay_6 : decode cX4_lay 6 = .ok (.getfield 24, 3) := by decide +kernel
theorem dX4_lay_9 : decode cX4_lay 9 = .ok (.iload_n 1, 1) := by decide +kernel
theorem dX4_lay_10 : decode cX4_lay 10 = .ok (.iload_n 2, 1) := by decide +kernel
theorem dX4_lay_11 : decode cX4_lay 11 = .ok (.iastore, 1) := by decide +kernel
theorem dX4_lay_12 : decode cX4_lay 12 = .ok (.aload_n 0, 1) := by decide +kernel
theorem dX4_lay_13 : decode cX4_lay 13 = .ok (.getfield 27, 3) := by decide +kernel
theorem dX4_lay_16 : decode cX4_lay 16 = .ok (.iload_n 1, 1) := by decide +kernel
theorem dX4_lay_17 : decode cX4_lay 17 = .ok (.iload_n 3, 1) := by decide +kernel
theorem dX4_lay_18 : decode cX4_lay 18 = .ok (.iastore, 1) := by decide +kernel
theorem dX4_lay_19 : decode cX4_lay 19 = .ok (.aload_n 0, 1) := by decide +kernel
theorem dX4_lay_20 : decode cX4_lay 20 = .ok (.getfield 30, 3) := by decide +kernel
theorem dX4_lay_23 : decode cX4_lay 23 = .ok (.iload_n 1, 1) := by decide +kernel
theorem dX4_lay_24 : decode cX4_lay 24 = .ok (.iload 4, 2) := by decide +kernel
theorem dX4_lay_26 : decode cX4_lay 26 = .ok (.iastore, 1) := by decide +kernel
theorem dX4_lay_27 : decode cX4_lay 27 = .ok (.aload_n 0, 1) := by decide +kernel
theorem dX4_lay_28 : decode cX4_lay 28 = .ok (.getfield 33, 3) := by decide +kernel
theorem dX4_lay_31 : decode cX4_lay 31 = .ok (.iload_n 1, 1) := by decide +kernel
theorem dX4_lay_32 : decode cX4_lay 32 = .ok (.iload 5, 2) := by decide +kernel
theorem dX4_lay_34 : decode cX4_lay 34 = .ok (.iastore, 1) := by decide +kernel
theorem dX4_lay_35 : decode cX4_lay 35 = .ok (.iload 4, 2) := by decide +kernel
theorem dX4_lay_37 : decode cX4_lay 37 = .ok (.iload_n 3, 1) := by decide +kernel
theorem dX4_lay_38 : decode cX4_lay 38 = .ok (.isub, 1) := by decide +kernel
theorem dX4_lay_39 : decode cX4_lay 39 = .ok (.ireturn, 1) := by decide +kernel
theorem dX4_part_0 : decode cX4_part 0 = .ok (.aload_n 0, 1) := by decide +kernel
theorem dX4_part_1 : decode cX4_part 1 = .ok (.iload_n 1, 1) := by decide +kernel
theorem dX4_part_2 : decode cX4_part 2 = .ok (.invokestatic 160, 3) := by decide +kernel
theorem dX4_part_5 : decode cX4_part 5 = .ok (.ifCond .ne 31, 3) := by decide +kernel
theorem dX4_part_8 : decode cX4_part 8 = .ok (.iload_n 2, 1) := by decide +kernel
theorem dX4_part_9 : decode cX4_part 9 = .ok (.invokestatic 44, 3) := by decide +kernel
theorem dX4_part_12 : decode cX4_part 12 = .ok (.ifCond .ne 24, 3) := by decide +kernel
theorem dX4_part_15 : decode cX4_part 15 = .ok (.iload_n 3, 1) := by decide +kernel
theorem dX4_part_16 : decode cX4_part 16 = .ok (.ifCond .lt 20, 3) := by decide +kernel
theorem dX4_part_19 : decode cX4_part 19 = .ok (.iload 4, 2) := by decide +kernel
theorem dX4_part_21 : decode cX4_part 21 = .ok (.aload_n 0, 1) := by decide +kernel
theorem dX4_part_22 : decode cX4_part 22 = .ok (.getfield 14, 3) := by decide +kernel
theorem dX4_part_25 : decode cX4_part 25 = .ok (.iload_n 2, 1) := by decide +kernel
theorem dX4_part_26 : decode cX4_part 26 = .ok (.iaload, 1) := by decide +kernel
theorem dX4_part_27 : decode cX4_part 27 = .ok (.if_icmp .gt 9, 3) := by decide +kernel
theorem dX4_part_30 : decode cX4_part 30 = .ok (.iload_n 3, 1) := by decide +kernel
theorem dX4_part_31 : decode cX4_part 31 = .ok (.iload 4, 2) := by decide +kernel
theorem dX4_part_33 : decode cX4_part 33 = .ok (.if_icmp .le 7, 3) := by decide +kernel
theorem dX4_part_40 : decode cX4_part 40 = .ok (.iconst 0, 1) := by decide +kernel
theorem dX4_part_41 : decode cX4_part 41 = .ok (.iconst 0, 1) := by decide +kernel
theorem dX4_part_42 : decode cX4_part 42 = .ok (.iconst 0, 1) := by decide +kernel
theorem dX4_part_43 : decode cX4_part 43 = .ok (.invokevirtual 63, 3) := by decide +kernel
theorem dX4_part_46 : decode cX4_part 46 = .ok (.ifCond .eq 16, 3) := by decide +kernel
theorem dX4_part_49 : decode cX4_part 49 = .ok (.aload_n 0, 1) := by decide +kernel
theorem dX4_part_50 : decode cX4_part 50 = .ok (.iload_n 1, 1) := by decide +kernel
theorem dX4_part_51 : decode cX4_part 51 = .ok (.iload_n 2, 1) := by decide +kernel
theorem dX4_part_52 : decode cX4_part 52 = .ok (.iload_n 3, 1) := by decide +kernel
theorem dX4_part_53 : decode cX4_part 53 = .ok (.iload 4, 2) := by decide +kernel
theorem dX4_part_55 : decode cX4_part 55 = .ok (.iconst (-1), 1) := by decide +kernel
theorem dX4_part_56 : decode cX4_part 56 = .ok (.invokevirtual 163, 3) := by decide +kernel
theorem dX4_part_59 : decode cX4_part 59 = .ok (.goto 4, 3) := by decide +kernel
theorem dX4_part_63 : decode cX4_part 63 = .ok (.ireturn, 1) := by decide +kernel
theorem dX4_partText_0 : decode cX4_partText 0 = .ok (.aload_n 0, 1) := by decide +kernel
theorem dX4_partText_1 : decode cX4_partText 1 = .ok (.getfield 24, 3) := by decide +kernel
theorem dX4_partText_4 : decode cX4_partText 4 = .ok (.iload_n 1, 1) := by decide +kernel
theorem dX4_partText_5 : decode cX4_partText 5 = .ok (.iaload, 1) := by decide +kernel
theorem dX4_partText_6 : decode cX4_partText 6 = .ok (.iconst (-1), 1) := by decide +kernel
theorem dX4_partText_7 : decode cX4_partText 7 = .ok (.if_icmp .ne 8, 3) := by decide +kernel
theorem dX4_partText_15 : decode cX4_partText 15 = .ok (.aload_n 0, 1) := by decide +kernel
theorem dX4_partText_16 : decode cX4_partText 16 = .ok (.aload_n 0, 1) := by decide +kernel
theorem dX4_partText_17 : decode cX4_partText 17 = .ok (.getfield 24, 3) := by decide +kernel
theorem dX4_partText_20 : decode cX4_partText 20 = .ok (.iload_n 1, 1) := by decide +kernel
theorem dX4_partText_21 : decode cX4_partText 21 = .ok (.iaload, 1) := by decide +kernel
theorem dX4_partText_22 : decode cX4_partText 22 = .ok (.aload_n 0, 1) := by decide +kernel
theorem dX4_partText_23 : decode cX4_partText 23 = .ok (.getfield 27, 3) := by decide +kernel
theorem dX4_partText_26 : decode cX4_partText 26 = .ok (.iload_n 1, 1) := by decide +kernel
theorem dX4_partText_27 : decode cX4_partText 27 = .ok (.iaload, 1) := by decide +kernel
theorem dX4_partText_28 : decode cX4_partText 28 = .ok (.aload_n 0, 1) := by decide +kernel
theorem dX4_partText_29 : decode cX4_partText 29 = .ok (.getfield 30, 3) := by decide +kernel
theorem dX4_partText_32 : decode cX4_partText 32 = .ok (.iload_n 1, 1) := by decide +kernel
theorem dX4_partText_33 : decode cX4_partText 33 = .ok (.iaload, 1) := by decide +kernel
theorem dX4_partText_34 : decode cX4_partText 34 = .ok (.invokevirtual 124, 3) := by decide +kernel
theorem dX4_partText_37 : decode cX4_partText 37 = .ok (.areturn, 1) := by decide +kernel
theorem dX4_walkOf_0 : decode cX4_walkOf 0 = .ok (.aload_n 0, 1) := by decide +kernel
theorem dX4_walkOf_1 : decode cX4_walkOf 1 = .ok (.getfield 21, 3) := by decide +kernel
theorem dX4_walkOf_4 : decode cX4_walkOf 4 = .ok (.iload_n 1, 1) := by decide +kernel
theorem dX4_walkOf_5 : decode cX4_walkOf 5 = .ok (.iaload, 1) := by decide +kernel
theorem dX4_walkOf_6 : decode cX4_walkOf 6 = .ok (.iconst (-1), 1) := by decide +kernel
theorem dX4_walkOf_7 : decode cX4_walkOf 7 = .ok (.if_icmp .ne 7, 3) := by decide +kernel
theorem dX4_walkOf_10 : decode cX4_walkOf 10 = .ok (.iconst (-1), 1) := by decide +kernel
theorem dX4_walkOf_11 : decode cX4_walkOf 11 = .ok (.goto 26, 3) := by decide +kernel
theorem dX4_walkOf_37 : decode cX4_walkOf 37 = .ok (.ireturn, 1) := by decide +kernel
theorem dX4_houseOf_0 : decode cX4_houseOf 0 = .ok (.iconst 4, 1) := by decide +kernel
theorem dX4_houseOf_1 : decode cX4_houseOf 1 = .ok (.newarray .int, 2) := by decide +kernel
theorem dX4_houseOf_3 : decode cX4_houseOf 3 = .ok (.dup, 1) := by decide +kernel
theorem dX4_houseOf_4 : decode cX4_houseOf 4 = .ok (.iconst 0, 1) := by decide +kernel
theorem dX4_houseOf_5 : decode cX4_houseOf 5 = .ok (.iconst 0, 1) := by decide +kernel
theorem dX4_houseOf_6 : decode cX4_houseOf 6 = .ok (.iastore, 1) := by decide +kernel
theorem dX4_houseOf_7 : decode cX4_houseOf 7 = .ok (.dup, 1) := by decide +kernel
theorem dX4_houseOf_8 : decode cX4_houseOf 8 = .ok (.iconst 1, 1) := by decide +kernel
theorem dX4_houseOf_9 : decode cX4_houseOf 9 = .ok (.iconst 0, 1) := by decide +kernel
theorem dX4_houseOf_10 : decode cX4_houseOf 10 = .ok (.iastore, 1) := by decide +kernel
theorem dX4_houseOf_11 : decode cX4_houseOf 11 = .ok (.dup, 1) := by decide +kernel
theorem dX4_houseOf_12 : decode cX4_houseOf 12 = .ok (.iconst 2, 1) := by decide +kernel
theorem dX4_houseOf_13 : decode cX4_houseOf 13 = .ok (.iconst 0, 1) := by decide +kernel
theorem dX4_houseOf_14 : decode cX4_houseOf 14 = .ok (.iastore, 1) := by decide +kernel
theorem dX4_houseOf_15 : decode cX4_houseOf 15 = .ok (.dup, 1) := by decide +kernel
theorem dX4_houseOf_16 : decode cX4_houseOf 16 = .ok (.iconst 3, 1) := by decide +kernel
theorem dX4_houseOf_17 : decode cX4_houseOf 17 = .ok (.aload_n 0, 1) := by decide +kernel
theorem dX4_houseOf_18 : decode cX4_houseOf 18 = .ok (.getfield 194, 3) := by decide +kernel
theorem dX4_houseOf_21 : decode cX4_houseOf 21 = .ok (.iastore, 1) := by decide +kernel
theorem dX4_houseOf_22 : decode cX4_houseOf 22 = .ok (.astore_n 2, 1) := by decide +kernel
theorem dX4_houseOf_23 : decode cX4_houseOf 23 = .ok (.iconst 0, 1) := by decide +kernel
theorem dX4_houseOf_24 : decode cX4_houseOf 24 = .ok (.istore_n 3, 1) := by decide +kernel
theorem dX4_houseOf_25 : decode cX4_houseOf 25 = .ok (.iload_n 3, 1) := by decide +kernel
theorem dX4_houseOf_26 : decode cX4_houseOf 26 = .ok (.iconst 4, 1) := by decide +kernel
theorem dX4_houseOf_27 : decode cX4_houseOf 27 = .ok (.if_icmp .ge 21, 3) := by decide +kernel
theorem dX4_houseOf_30 : decode cX4_houseOf 30 = .ok (.aload_n 2, 1) := by decide +kernel
theorem dX4_houseOf_31 : decode cX4_houseOf 31 = .ok (.iconst 0, 1) := by decide +kernel
theorem dX4_houseOf_32 : decode cX4_houseOf 32 = .ok (.dup2, 1) := by decide +kernel
theorem dX4_houseOf_33 : decode cX4_houseOf 33 = .ok (.iaload, 1) := by decide +kernel
theorem dX4_houseOf_34 : decode cX4_houseOf 34 = .ok (.aload_n 0, 1) := by decide +kernel
theorem dX4_houseOf_35 : decode cX4_houseOf 35 = .ok (.getfield 14, 3) := by decide +kernel
theorem dX4_houseOf_38 : decode cX4_houseOf 38 = .ok (.iload_n 3, 1) := by decide +kernel
theorem dX4_houseOf_39 : decode cX4_houseOf 39 = .ok (.iaload, 1) := by decide +kernel
theorem dX4_houseOf_40 : decode cX4_houseOf 40 = .ok (.iadd, 1) := by decide +kernel
theorem dX4_houseOf_41 : decode cX4_houseOf 41 = .ok (.iastore, 1) := by decide +kernel
theorem dX4_houseOf_42 : decode cX4_houseOf 42 = .ok (.iinc 3 1, 3) := by decide +kernel
theorem dX4_houseOf_45 : decode cX4_houseOf 45 = .ok (.goto (-20), 3) := by decide +kernel
theorem dX4_houseOf_48 : decode cX4_houseOf 48 = .ok (.iconst 0, 1) := by decide +kernel
theorem dX4_houseOf_49 : decode cX4_houseOf 49 = .ok (.istore_n 3, 1) := by decide +kernel
theorem dX4_houseOf_50 : decode cX4_houseOf 50 = .ok (.iload_n 3, 1) := by decide +kernel
theorem dX4_houseOf_51 : decode cX4_houseOf 51 = .ok (.iconst 3, 1) := by decide +kernel
theorem dX4_houseOf_52 : decode cX4_houseOf 52 = .ok (.if_icmp .ge 33, 3) := by decide +kernel
theorem dX4_houseOf_55 : decode cX4_houseOf 55 = .ok (.aload_n 2, 1) := by decide +kernel
theorem dX4_houseOf_56 : decode cX4_houseOf 56 = .ok (.iconst 1, 1) := by decide +kernel
theorem dX4_houseOf_57 : decode cX4_houseOf 57 = .ok (.dup2, 1) := by decide +kernel
theorem dX4_houseOf_58 : decode cX4_houseOf 58 = .ok (.iaload, 1) := by decide +kernel
theorem dX4_houseOf_59 : decode cX4_houseOf 59 = .ok (.aload_n 0, 1) := by decide +kernel
theorem dX4_houseOf_60 : decode cX4_houseOf 60 = .ok (.getfield 24, 3) := by decide +kernel
theorem dX4_houseOf_63 : decode cX4_houseOf 63 = .ok (.iload_n 3, 1) := by decide +kernel
theorem dX4_houseOf_64 : decode cX4_houseOf 64 = .ok (.iaload, 1) := by decide +kernel
theorem dX4_houseOf_65 : decode cX4_houseOf 65 = .ok (.iconst (-1), 1) := by decide +kernel
theorem dX4_houseOf_66 : decode cX4_houseOf 66 = .ok (.if_icmp .eq 7, 3) := by decide +kernel
theorem dX4_houseOf_69 : decode cX4_houseOf 69 = .ok (.iconst 1, 1) := by decide +kernel
theorem dX4_houseOf_70 : decode cX4_houseOf 70 = .ok (.goto 4, 3) := by decide +kernel
theorem dX4_houseOf_74 : decode cX4_houseOf 74 = .ok (.invokestatic 128, 3) := by decide +kernel
theorem dX4_houseOf_77 : decode cX4_houseOf 77 = .ok (.iadd, 1) := by decide +kernel
theorem dX4_houseOf_78 : decode cX4_houseOf 78 = .ok (.iastore, 1) := by decide +kernel
theorem dX4_houseOf_79 : decode cX4_houseOf 79 = .ok (.iinc 3 1, 3) := by decide +kernel
theorem dX4_houseOf_82 : decode cX4_houseOf 82 = .ok (.goto (-32), 3) := by decide +kernel
theorem dX4_houseOf_85 : decode cX4_houseOf 85 = .ok (.iconst 0, 1) := by decide +kernel
theorem dX4_houseOf_86 : decode cX4_houseOf 86 = .ok (.istore_n 3, 1) := by decide +kernel
theorem dX4_houseOf_87 : decode cX4_houseOf 87 = .ok (.iload_n 3, 1) := by decide +kernel
theorem dX4_houseOf_88 : decode cX4_houseOf 88 = .ok (.iconst 4, 1) := by decide +kernel
theorem dX4_houseOf_89 : decode cX4_houseOf 89 = .ok (.if_icmp .ge 33, 3) := by decide +kernel
theorem dX4_houseOf_92 : decode cX4_houseOf 92 = .ok (.aload_n 2, 1) := by decide +kernel
theorem dX4_houseOf_93 : decode cX4_houseOf 93 = .ok (.iconst 2, 1) := by decide +kernel
theorem dX4_houseOf_94 : decode cX4_houseOf 94 = .ok (.dup2, 1) := by decide +kernel
theorem dX4_houseOf_95 : decode cX4_houseOf 95 = .ok (.iaload, 1) := by decide +kernel
theorem dX4_houseOf_96 : decode cX4_houseOf 96 = .ok (.aload_n 0, 1) := by decide +kernel
theorem dX4_houseOf_97 : decode cX4_houseOf 97 = .ok (.getfield 21, 3) := by decide +kernel
theorem dX4_houseOf_100 : decode cX4_houseOf 100 = .ok (.iload_n 3, 1) := by decide +kernel
theorem dX4_houseOf_101 : decode cX4_houseOf 101 = .ok (.iaload, 1) := by decide +kernel
theorem dX4_houseOf_102 : decode cX4_houseOf 102 = .ok (.iconst (-1), 1) := by decide +kernel
theorem dX4_houseOf_103 : decode cX4_houseOf 103 = .ok (.if_icmp .eq 7, 3) := by decide +kernel
theorem dX4_houseOf_110 : decode cX4_houseOf 110 = .ok (.iconst 0, 1) := by decide +kernel
theorem dX4_houseOf_111 : decode cX4_houseOf 111 = .ok (.invokestatic 128, 3) := by decide +kernel
theorem dX4_houseOf_114 : decode cX4_houseOf 114 = .ok (.iadd, 1) := by decide +kernel
theorem dX4_houseOf_115 : decode cX4_houseOf 115 = .ok (.iastore, 1) := by decide +kernel
theorem dX4_houseOf_116 : decode cX4_houseOf 116 = .ok (.iinc 3 1, 3) := by decide +kernel
theorem dX4_houseOf_119 : decode cX4_houseOf 119 = .ok (.goto (-32), 3) := by decide +kernel
theorem dX4_houseOf_122 : decode cX4_houseOf 122 = .ok (.aload_n 2, 1) := by decide +kernel
theorem dX4_houseOf_123 : decode cX4_houseOf 123 = .ok (.iload_n 1, 1) := by decide +kernel
theorem dX4_houseOf_124 : decode cX4_houseOf 124 = .ok (.iaload, 1) := by decide +kernel
theorem dX4_houseOf_125 : decode cX4_houseOf 125 = .ok (.ireturn, 1) := by decide +kernel
theorem dX4_areSound_0 : decode cX4_areSound 0 = .ok (.iconst 1, 1) := by decide +kernel
theorem dX4_areSound_1 : decode cX4_areSound 1 = .ok (.istore_n 1, 1) := by decide +kernel
theorem dX4_areSound_2 : decode cX4_areSound 2 = .ok (.iconst 0, 1) := by decide +kernel
theorem dX4_areSound_3 : decode cX4_areSound 3 = .ok (.istore_n 2, 1) := by decide +kernel
theorem dX4_areSound_4 : decode cX4_areSound 4 = .ok (.iload_n 2, 1) := by decide +kernel
theorem dX4_areSound_5 : decode cX4_areSound 5 = .ok (.iconst 4, 1) := by decide +kernel
theorem dX4_areSound_6 : decode cX4_areSound 6 = .ok (.if_icmp .ge 247, 3) := by decide +kernel
theorem dX4_areSound_9 : decode cX4_areSound 9 = .ok (.aload_n 0, 1) := by decide +kernel
theorem dX4_areSound_10 : decode cX4_areSound 10 = .ok (.getfield 11, 3) := by decide +kernel
theorem dX4_areSound_13 : decode cX4_areSound 13 = .ok (.iload_n 2, 1) := by decide +kernel
theorem dX4_areSound_14 : decode cX4_areSound 14 = .ok (.aaload, 1) := by decide +kernel
theorem dX4_areSound_15 : decode cX4_areSound 15 = .ok (.invokevirtual 200, 3) := by decide +kernel
theorem dX4_areSound_18 : decode cX4_areSound 18 = .ok (.checkcast 201, 3) := by decide +kernel
theorem dX4_areSound_21 : decode cX4_areSound 21 = .ok (.astore_n 3, 1) := by decide +kernel
theorem dX4_areSound_22 : decode cX4_areSound 22 = .ok (.aload_n 3, 1) := by decide +kernel
theorem dX4_areSound_23 : decode cX4_areSound 23 = .ok (.iconst 0, 1) := by decide +kernel
theorem dX4_areSound_24 : decode cX4_areSound 24 = .ok (.aload_n 0, 1) := by decide +kernel
theorem dX4_areSound_25 : decode cX4_areSound 25 = .ok (.getfield 14, 3) := by decide +kernel
theorem dX4_areSound_28 : decode cX4_areSound 28 = .ok (.iload_n 2, 1) := by decide +kernel
theorem dX4_areSound_29 : decode cX4_areSound 29 = .ok (.iaload, 1) := by decide +kernel
theorem dX4_areSound_30 : decode cX4_areSound 30 = .ok (.invokestatic 82, 3) := by decide +kernel
theorem dX4_areSound_33 : decode cX4_areSound 33 = .ok (.aload_n 3, 1) := by decide +kernel
theorem dX4_areSound_34 : decode cX4_areSound 34 = .ok (.iconst 0, 1) := by decide +kernel
theorem dX4_areSound_35 : decode cX4_areSound 35 = .ok (.aload_n 0, 1) := by decide +kernel
theorem dX4_areSound_36 : decode cX4_areSound 36 = .ok (.getfield 14, 3) := by decide +kernel
theorem dX4_areSound_39 : decode cX4_areSound 39 = .ok (.iload_n 2, 1) := by decide +kernel
theorem dX4_areSound_40 : decode cX4_areSound 40 = .ok (.iaload, 1) := by decide +kernel
theorem dX4_areSound_41 : decode cX4_areSound 41 = .ok (.invokestatic 82, 3) := by decide +kernel
theorem dX4_areSound_44 : decode cX4_areSound 44 = .ok (.aload_n 3, 1) := by decide +kernel
theorem dX4_areSound_45 : decode cX4_areSound 45 = .ok (.iconst 0, 1) := by decide +kernel
theorem dX4_areSound_46 : decode cX4_areSound 46 = .ok (.aload_n 0, 1) := by decide +kernel
theorem dX4_areSound_47 : decode cX4_areSound 47 = .ok (.getfield 14, 3) := by decide +kernel
theorem dX4_areSound_50 : decode cX4_areSound 50 = .ok (.iload_n 2, 1) := by decide +kernel
theorem dX4_areSound_51 : decode cX4_areSound 51 = .ok (.iaload, 1) := by decide +kernel
theorem dX4_areSound_52 : decode cX4_areSound 52 = .ok (.iconst 5, 1) := by decide +kernel
theorem dX4_areSound_53 : decode cX4_areSound 53 = .ok (.invokestatic 89, 3) := by decide +kernel
theorem dX4_areSound_56 : decode cX4_areSound 56 = .ok (.aload_n 3, 1) := by decide +kernel
theorem dX4_areSound_57 : decode cX4_areSound 57 = .ok (.iconst 0, 1) := by decide +kernel
theorem dX4_areSound_58 : decode cX4_areSound 58 = .ok (.aload_n 0, 1) := by decide +kernel
theorem dX4_areSound_59 : decode cX4_areSound 59 = .ok (.getfield 14, 3) := by decide +kernel
theorem dX4_areSound_62 : decode cX4_areSound 62 = .ok (.iload_n 2, 1) := by decide +kernel
theorem dX4_areSound_63 : decode cX4_areSound 63 = .ok (.iaload, 1) := by decide +kernel
theorem dX4_areSound_64 : decode cX4_areSound 64 = .ok (.bipush (-5), 2) := by decide +kernel
theorem dX4_areSound_66 : decode cX4_areSound 66 = .ok (.invokestatic 89, 3) := by decide +kernel
theorem dX4_areSound_69 : decode cX4_areSound 69 = .ok (.iload_n 1, 1) := by decide +kernel
theorem dX4_areSound_70 : decode cX4_areSound 70 = .ok (.aload_n 0, 1) := by decide +kernel
theorem dX4_areSound_71 : decode cX4_areSound 71 = .ok (.getfield 11, 3) := by decide +kernel
theorem dX4_areSound_74 : decode cX4_areSound 74 = .ok (.iload_n 2, 1) := by decide +kernel
theorem dX4_areSound_75 : decode cX4_areSound 75 = .ok (.aaload, 1) := by decide +kernel
theorem dX4_areSound_76 : decode cX4_areSound 76 = .ok (.iconst 0, 1) := by decide +kernel
theorem dX4_areSound_77 : decode cX4_areSound 77 = .ok (.aload_n 0, 1) := by decide +kernel
theorem dX4_areSound_78 : decode cX4_areSound 78 = .ok (.getfield 14, 3) := by decide +kernel
theorem dX4_areSound_81 : decode cX4_areSound 81 = .ok (.iload_n 2, 1) := by decide +kernel
theorem dX4_areSound_82 : decode cX4_areSound 82 = .ok (.iaload, 1) := by decide +kernel
theorem dX4_areSound_83 : decode cX4_areSound 83 = .ok (.aload_n 3, 1) := by decide +kernel
theorem dX4_areSound_84 : decode cX4_areSound 84 = .ok (.iconst 0, 1) := by decide +kernel
theorem dX4_areSound_85 : decode cX4_areSound 85 = .ok (.aload_n 0, 1) := by decide +kernel
theorem dX4_areSound_86 : decode cX4_areSound 86 = .ok (.getfield 14, 3) := by decide +kernel
theorem dX4_areSound_89 : decode cX4_areSound 89 = .ok (.iload_n 2, 1) := by decide +kernel
theorem dX4_areSound_90 : decode cX4_areSound 90 = .ok (.iaload, 1) := by decide +kernel
theorem dX4_areSound_91 : decode cX4_areSound 91 = .ok (.invokestatic 138, 3) := by decide +kernel
theorem dX4_areSound_94 : decode cX4_areSound 94 = .ok (.ifCond .ne 7, 3) := by decide +kernel
theorem dX4_areSound_97 : decode cX4_areSound 97 = .ok (.iconst 1, 1) := by decide +kernel
theorem dX4_areSound_98 : decode cX4_areSound 98 = .ok (.goto 4, 3) := by decide +kernel
theorem dX4_areSound_102 : decode cX4_areSound 102 = .ok (.iand, 1) := by decide +kernel
theorem dX4_areSound_103 : decode cX4_areSound 103 = .ok (.istore_n 1, 1) := by decide +kernel
theorem dX4_areSound_104 : decode cX4_areSound 104 = .ok (.aload_n 3, 1) := by decide +kernel
theorem dX4_areSound_105 : decode cX4_areSound 105 = .ok (.iconst 0, 1) := by decide +kernel
theorem dX4_areSound_106 : decode cX4_areSound 106 = .ok (.aload_n 0, 1) := by decide +kernel
theorem dX4_areSound_107 : decode cX4_areSound 107 = .ok (.getfield 14, 3) := by decide +kernel
theorem dX4_areSound_110 : decode cX4_areSound 110 = .ok (.iload_n 2, 1) := by decide +kernel
theorem dX4_areSound_111 : decode cX4_areSound 111 = .ok (.iaload, 1) := by decide +kernel
theorem dX4_areSound_112 : decode cX4_areSound 112 = .ok (.iconst 0, 1) := by decide +kernel
theorem dX4_areSound_113 : decode cX4_areSound 113 = .ok (.invokestatic 96, 3) := by decide +kernel
theorem dX4_areSound_116 : decode cX4_areSound 116 = .ok (.iconst 0, 1) := by decide +kernel
theorem dX4_areSound_117 : decode cX4_areSound 117 = .ok (.istore 4, 2) := by decide +kernel
theorem dX4_areSound_119 : decode cX4_areSound 119 = .ok (.iload 4, 2) := by decide +kernel
theorem dX4_areSound_121 : decode cX4_areSound 121 = .ok (.aload_n 0, 1) := by decide +kernel
theorem dX4_areSound_122 : decode cX4_areSound 122 = .ok (.getfield 14, 3) := by decide +kernel
theorem dX4_areSound_125 : decode cX4_areSound 125 = .ok (.iload_n 2, 1) := by decide +kernel
theorem dX4_areSound_126 : decode cX4_areSound 126 = .ok (.iaload, 1) := by decide +kernel
theorem dX4_areSound_127 : decode cX4_areSound 127 = .ok (.if_icmp .ge 88, 3) := by decide +kernel
theorem dX4_areSound_130 : decode cX4_areSound 130 = .ok (.iconst 0, 1) := by decide +kernel
theorem dX4_areSound_131 : decode cX4_areSound 131 = .ok (.istore 5, 2) := by decide +kernel
theorem dX4_areSound_133 : decode cX4_areSound 133 = .ok (.iconst 0, 1) := by decide +kernel
theorem dX4_areSound_134 : decode cX4_areSound 134 = .ok (.istore 6, 2) := by decide +kernel
theorem dX4_areSound_136 : decode cX4_areSound 136 = .ok (.iload 6, 2) := by decide +kernel
theorem dX4_areSound_138 : decode cX4_areSound 138 = .ok (.aload_n 0, 1) := by decide +kernel
theorem dX4_areSound_139 : decode cX4_areSound 139 = .ok (.getfield 14, 3) := by decide +kernel
theorem dX4_areSound_142 : decode cX4_areSound 142 = .ok (.iload_n 2, 1) := by decide +kernel
theorem dX4_areSound_143 : decode cX4_areSound 143 = .ok (.iaload, 1) := by decide +kernel
theorem dX4_areSound_144 : decode cX4_areSound 144 = .ok (.if_icmp .ge 38, 3) := by decide +kernel
theorem dX4_areSound_147 : decode cX4_areSound 147 = .ok (.iload 5, 2) := by decide +kernel
theorem dX4_areSound_149 : decode cX4_areSound 149 = .ok (.aload_n 3, 1) := by decide +kernel
theorem dX4_areSound_150 : decode cX4_areSound 150 = .ok (.iload 6, 2) := by decide +kernel
theorem dX4_areSound_152 : decode cX4_areSound 152 = .ok (.iaload, 1) := by decide +kernel
theorem dX4_areSound_153 : decode cX4_areSound 153 = .ok (.aload_n 0, 1) := by decide +kernel
theorem dX4_areSound_154 : decode cX4_areSound 154 = .ok (.getfield 11, 3) := by decide +kernel
theorem dX4_areSound_157 : decode cX4_areSound 157 = .ok (.iload_n 2, 1) := by decide +kernel
theorem dX4_areSound_158 : decode cX4_areSound 158 = .ok (.aaload, 1) := by decide +kernel
theorem dX4_areSound_159 : decode cX4_areSound 159 = .ok (.iload 4, 2) := by decide +kernel
theorem dX4_areSound_161 : decode cX4_areSound 161 = .ok (.iaload, 1) := by decide +kernel
theorem dX4_areSound_162 : decode cX4_areSound 162 = .ok (.if_icmp .ne 7, 3) := by decide +kernel
theorem dX4_areSound_165 : decode cX4_areSound 165 = .ok (.iconst 1, 1) := by decide +kernel
theorem dX4_areSound_166 : decode cX4_areSound 166 = .ok (.goto 4, 3) := by decide +kernel
theorem dX4_areSound_170 : decode cX4_areSound 170 = .ok (.invokestatic 128, 3) := by decide +kernel
theorem dX4_areSound_173 : decode cX4_areSound 173 = .ok (.iadd, 1) := by decide +kernel
theorem dX4_areSound_174 : decode cX4_areSound 174 = .ok (.istore 5, 2) := by decide +kernel
theorem dX4_areSound_176 : decode cX4_areSound 176 = .ok (.iinc 6 1, 3) := by decide +kernel
theorem dX4_areSound_179 : decode cX4_areSound 179 = .ok (.goto (-43), 3) := by decide +kernel
theorem dX4_areSound_182 : decode cX4_areSound 182 = .ok (.iload_n 1, 1) := by decide +kernel
theorem dX4_areSound_183 : decode cX4_areSound 183 = .ok (.iload 5, 2) := by decide +kernel
theorem dX4_areSound_185 : decode cX4_areSound 185 = .ok (.aload_n 0, 1) := by decide +kernel
theorem dX4_areSound_186 : decode cX4_areSound 186 = .ok (.iload_n 2, 1) := by decide +kernel
theorem dX4_areSound_187 : decode cX4_areSound 187 = .ok (.aload_n 0, 1) := by decide +kernel
theorem dX4_areSound_188 : decode cX4_areSound 188 = .ok (.getfield 11, 3) := by decide +kernel
theorem dX4_areSound_191 : decode cX4_areSound 191 = .ok (.iload_n 2, 1) := by decide +kernel
theorem dX4_areSound_192 : decode cX4_areSound 192 = .ok (.aaload, 1) := by decide +kernel
theorem dX4_areSound_193 : decode cX4_areSound 193 = .ok (.iload 4, 2) := by decide +kernel
theorem dX4_areSound_195 : decode cX4_areSound 195 = .ok (.iaload, 1) := by decide +kernel
theorem dX4_areSound_196 : decode cX4_areSound 196 = .ok (.invokevirtual 132, 3) := by decide +kernel
theorem dX4_areSound_199 : decode cX4_areSound 199 = .ok (.if_icmp .ne 7, 3) := by decide +kernel
theorem dX4_areSound_202 : decode cX4_areSound 202 = .ok (.iconst 1, 1) := by decide +kernel
theorem dX4_areSound_203 : decode cX4_areSound 203 = .ok (.goto 4, 3) := by decide +kernel
theorem dX4_areSound_207 : decode cX4_areSound 207 = .ok (.iand, 1) := by decide +kernel
theorem dX4_areSound_208 : decode cX4_areSound 208 = .ok (.istore_n 1, 1) := by decide +kernel
theorem dX4_areSound_209 : decode cX4_areSound 209 = .ok (.iinc 4 1, 3) := by decide +kernel
theorem dX4_areSound_212 : decode cX4_areSound 212 = .ok (.goto (-93), 3) := by decide +kernel
theorem dX4_areSound_215 : decode cX4_areSound 215 = .ok (.iload_n 1, 1) := by decide +kernel
theorem dX4_areSound_216 : decode cX4_areSound 216 = .ok (.aload_n 0, 1) := by decide +kernel
theorem dX4_areSound_217 : decode cX4_areSound 217 = .ok (.getfield 14, 3) := by decide +kernel
theorem dX4_areSound_220 : decode cX4_areSound 220 = .ok (.iload_n 2, 1) := by decide +kernel
theorem dX4_areSound_221 : decode cX4_areSound 221 = .ok (.iaload, 1) := by decide +kernel
theorem dX4_areSound_222 : decode cX4_areSound 222 = .ok (.ifCond .eq 18, 3) := by decide +kernel
theorem dX4_areSound_225 : decode cX4_areSound 225 = .ok (.aload_n 3, 1) := by decide +kernel
theorem dX4_areSound_226 : decode cX4_areSound 226 = .ok (.iconst 0, 1) := by decide +kernel
theorem dX4_areSound_227 : decode cX4_areSound 227 = .ok (.iaload, 1) := by decide +kernel
theorem dX4_areSound_228 : decode cX4_areSound 228 = .ok (.bipush 10, 2) := by decide +kernel
theorem dX4_areSound_230 : decode cX4_areSound 230 = .ok (.idiv, 1) := by decide +kernel
theorem dX4_areSound_231 : decode cX4_areSound 231 = .ok (.aload_n 0, 1) := by decide +kernel
theorem dX4_areSound_232 : decode cX4_areSound 232 = .ok (.iload_n 2, 1) := by decide +kernel
theorem dX4_areSound_233 : decode cX4_areSound 233 = .ok (.iconst 1, 1) := by decide +kernel
theorem dX4_areSound_234 : decode cX4_areSound 234 = .ok (.invokevirtual 156, 3) := by decide +kernel
theorem dX4_areSound_237 : decode cX4_areSound 237 = .ok (.if_icmp .ne 7, 3) := by decide +kernel
theorem dX4_areSound_240 : decode cX4_areSound 240 = .ok (.iconst 1, 1) := by decide +kernel
theorem dX4_areSound_241 : decode cX4_areSound 241 = .ok (.goto 4, 3) := by decide +kernel
theorem dX4_areSound_245 : decode cX4_areSound 245 = .ok (.iand, 1) := by decide +kernel
theorem dX4_areSound_246 : decode cX4_areSound 246 = .ok (.istore_n 1, 1) := by decide +kernel
theorem dX4_areSound_247 : decode cX4_areSound 247 = .ok (.iinc 2 1, 3) := by decide +kernel
theorem dX4_areSound_250 : decode cX4_areSound 250 = .ok (.goto (-246), 3) := by decide +kernel
theorem dX4_areSound_253 : decode cX4_areSound 253 = .ok (.iconst 0, 1) := by decide +kernel
theorem dX4_areSound_254 : decode cX4_areSound 254 = .ok (.istore_n 2, 1) := by decide +kernel
theorem dX4_areSound_255 : decode cX4_areSound 255 = .ok (.iload_n 2, 1) := by decide +kernel
theorem dX4_areSound_256 : decode cX4_areSound 256 = .ok (.iconst 3, 1) := by decide +kernel
theorem dX4_areSound_257 : decode cX4_areSound 257 = .ok (.if_icmp .ge 79, 3) := by decide +kernel
theorem dX4_areSound_260 : decode cX4_areSound 260 = .ok (.aload_n 0, 1) := by decide +kernel
theorem dX4_areSound_261 : decode cX4_areSound 261 = .ok (.getfield 24, 3) := by decide +kernel
theorem dX4_areSound_264 : decode cX4_areSound 264 = .ok (.iload_n 2, 1) := by decide +kernel
theorem dX4_areSound_265 : decode cX4_areSound 265 = .ok (.iaload, 1) := by decide +kernel
theorem dX4_areSound_266 : decode cX4_areSound 266 = .ok (.iconst (-1), 1) := by decide +kernel
theorem dX4_areSound_267 : decode cX4_areSound 267 = .ok (.if_icmp .eq 63, 3) := by decide +kernel
theorem dX4_areSound_270 : decode cX4_areSound 270 = .ok (.iload_n 1, 1) := by decide +kernel
theorem dX4_areSound_271 : decode cX4_areSound 271 = .ok (.aload_n 0, 1) := by decide +kernel
theorem dX4_areSound_272 : decode cX4_areSound 272 = .ok (.getfield 11, 3) := by decide +kernel
theorem dX4_areSound_275 : decode cX4_areSound 275 = .ok (.aload_n 0, 1) := by decide +kernel
theorem dX4_areSound_276 : decode cX4_areSound 276 = .ok (.getfield 24, 3) := by decide +kernel
theorem dX4_areSound_279 : decode cX4_areSound 279 = .ok (.iload_n 2, 1) := by decide +kernel
theorem dX4_areSound_280 : decode cX4_areSound 280 = .ok (.iaload, 1) := by decide +kernel
theorem dX4_areSound_281 : decode cX4_areSound 281 = .ok (.aaload, 1) := by decide +kernel
theorem dX4_areSound_282 : decode cX4_areSound 282 = .ok (.iconst 0, 1) := by decide +kernel
theorem dX4_areSound_283 : decode cX4_areSound 283 = .ok (.aload_n 0, 1) := by decide +kernel
theorem dX4_areSound_284 : decode cX4_areSound 284 = .ok (.getfield 14, 3) := by decide +kernel
theorem dX4_areSound_287 : decode cX4_areSound 287 = .ok (.aload_n 0, 1) := by decide +kernel
theorem dX4_areSound_288 : decode cX4_areSound 288 = .ok (.getfield 24, 3) := by decide +kernel
theorem dX4_areSound_291 : decode cX4_areSound 291 = .ok (.iload_n 2, 1) := by decide +kernel
theorem dX4_areSound_292 : decode cX4_areSound 292 = .ok (.iaload, 1) := by decide +kernel
theorem dX4_areSound_293 : decode cX4_areSound 293 = .ok (.iaload, 1) := by decide +kernel
theorem dX4_areSound_294 : decode cX4_areSound 294 = .ok (.aload_n 0, 1) := by decide +kernel
theorem dX4_areSound_295 : decode cX4_areSound 295 = .ok (.getfield 11, 3) := by decide +kernel
theorem dX4_areSound_298 : decode cX4_areSound 298 = .ok (.aload_n 0, 1) := by decide +kernel
theorem dX4_areSound_299 : decode cX4_areSound 299 = .ok (.getfield 24, 3) := by decide +kernel
theorem dX4_areSound_302 : decode cX4_areSound 302 = .ok (.iload_n 2, 1) := by decide +kernel
theorem dX4_areSound_303 : decode cX4_areSound 303 = .ok (.iaload, 1) := by decide +kernel
theorem dX4_areSound_304 : decode cX4_areSound 304 = .ok (.aaload, 1) := by decide +kernel
theorem dX4_areSound_305 : decode cX4_areSound 305 = .ok (.aload_n 0, 1) := by decide +kernel
theorem dX4_areSound_306 : decode cX4_areSound 306 = .ok (.getfield 27, 3) := by decide +kernel
theorem dX4_areSound_309 : decode cX4_areSound 309 = .ok (.iload_n 2, 1) := by decide +kernel
theorem dX4_areSound_310 : decode cX4_areSound 310 = .ok (.iaload, 1) := by decide +kernel
theorem dX4_areSound_311 : decode cX4_areSound 311 = .ok (.aload_n 0, 1) := by decide +kernel
theorem dX4_areSound_312 : decode cX4_areSound 312 = .ok (.getfield 30, 3) := by decide +kernel
theorem dX4_areSound_315 : decode cX4_areSound 315 = .ok (.iload_n 2, 1) := by decide +kernel
theorem dX4_areSound_316 : decode cX4_areSound 316 = .ok (.iaload, 1) := by decide +kernel
theorem dX4_areSound_317 : decode cX4_areSound 317 = .ok (.invokestatic 138, 3) := by decide +kernel
theorem dX4_areSound_320 : decode cX4_areSound 320 = .ok (.ifCond .lt 7, 3) := by decide +kernel
theorem dX4_areSound_323 : decode cX4_areSound 323 = .ok (.iconst 1, 1) := by decide +kernel
theorem dX4_areSound_324 : decode cX4_areSound 324 = .ok (.goto 4, 3) := by decide +kernel
theorem dX4_areSound_328 : decode cX4_areSound 328 = .ok (.iand, 1) := by decide +kernel
theorem dX4_areSound_329 : decode cX4_areSound 329 = .ok (.istore_n 1, 1) := by decide +kernel
theorem dX4_areSound_330 : decode cX4_areSound 330 = .ok (.iinc 2 1, 3) := by decide +kernel
theorem dX4_areSound_333 : decode cX4_areSound 333 = .ok (.goto (-78), 3) := by decide +kernel
theorem dX4_areSound_336 : decode cX4_areSound 336 = .ok (.iload_n 1, 1) := by decide +kernel
theorem dX4_areSound_337 : decode cX4_areSound 337 = .ok (.ireturn, 1) := by decide +kernel
theorem dX4_add__0 : decode cX4_add_ 0 = .ok (.lload_n 0, 1) := by decide +kernel
theorem dX4_add__1 : decode cX4_add_ 1 = .ok (.ldc2_w 209, 3) := by decide +kernel
theorem dX4_add__4 : decode cX4_add_ 4 = .ok (.lmul, 1) := by decide +kernel
theorem dX4_add__5 : decode cX4_add_ 5 = .ok (.lload_n 2, 1) := by decide +kernel
theorem dX4_add__6 : decode cX4_add_ 6 = .ok (.ladd, 1) := by decide +kernel
theorem dX4_add__7 : decode cX4_add_ 7 = .ok (.lreturn, 1) := by decide +kernel
theorem dX4_codes_0 : decode cX4_codes 0 = .ok (.lload_n 0, 1) := by decide +kernel
theorem dX4_codes_1 : decode cX4_codes 1 = .ok (.lstore_n 3, 1) := by decide +kernel
theorem dX4_codes_2 : decode cX4_codes 2 = .ok (.iconst 0, 1) := by decide +kernel
theorem dX4_codes_3 : decode cX4_codes 3 = .ok (.istore 5, 2) := by decide +kernel
theorem dX4_codes_5 : decode cX4_codes 5 = .ok (.iload 5, 2) := by decide +kernel
theorem dX4_codes_7 : decode cX4_codes 7 = .ok (.aload_n 2, 1) := by decide +kernel
theorem dX4_codes_8 : decode cX4_codes 8 = .ok (.invokevirtual 211, 3) := by decide +kernel
theorem dX4_codes_11 : decode cX4_codes 11 = .ok (.if_icmp .ge 21, 3) := by decide +kernel
theorem dX4_codes_14 : decode cX4_codes 14 = .ok (.lload_n 3, 1) := by decide +kernel
theorem dX4_codes_15 : decode cX4_codes 15 = .ok (.aload_n 2, 1) := by decide +kernel
theorem dX4_codes_16 : decode cX4_codes 16 = .ok (.iload 5, 2) := by decide +kernel
theorem dX4_codes_18 : decode cX4_codes 18 = .ok (.invokevirtual 217, 3) := by decide +kernel
theorem dX4_codes_21 : decode cX4_codes 21 = .ok (.i2l, 1) := by decide +kernel
theorem dX4_codes_22 : decode cX4_codes 22 = .ok (.invokestatic 221, 3) := by decide +kernel
theorem dX4_codes_25 : decode cX4_codes 25 = .ok (.lstore_n 3, 1) := by decide +kernel
theorem dX4_codes_26 : decode cX4_codes 26 = .ok (.iinc 5 1, 3) := by decide +kernel
theorem dX4_codes_29 : decode cX4_codes 29 = .ok (.goto (-24), 3) := by decide +kernel
theorem dX4_codes_32 : decode cX4_codes 32 = .ok (.lload_n 3, 1) := by decide +kernel
theorem dX4_codes_33 : decode cX4_codes 33 = .ok (.lreturn, 1) := by decide +kernel
theorem dX4_digest_0 : decode cX4_digest 0 = .ok (.aload_n 0, 1) := by decide +kernel
theorem dX4_digest_1 : decode cX4_digest 1 = .ok (.iconst 0, 1) := by decide +kernel
theorem dX4_digest_2 : decode cX4_digest 2 = .ok (.putfield 36, 3) := by decide +kernel
theorem dX4_digest_5 : decode cX4_digest 5 = .ok (.ldc2_w 225, 3) := by decide +kernel
theorem dX4_digest_8 : decode cX4_digest 8 = .ok (.lstore_n 1, 1) := by decide +kernel
theorem dX4_digest_9 : decode cX4_digest 9 = .ok (.iconst 0, 1) := by decide +kernel
theorem dX4_digest_10 : decode cX4_digest 10 = .ok (.istore_n 3, 1) := by decide +kernel
theorem dX4_digest_11 : decode cX4_digest 11 = .ok (.iload_n 3, 1) := by decide +kernel
theorem dX4_digest_12 : decode cX4_digest 12 = .ok (.iconst 4, 1) := by decide +kernel
theorem dX4_digest_13 : decode cX4_digest 13 = .ok (.if_icmp .ge 20, 3) := by decide +kernel
theorem dX4_digest_16 : decode cX4_digest 16 = .ok (.lload_n 1, 1) := by decide +kernel
theorem dX4_digest_17 : decode cX4_digest 17 = .ok (.aload_n 0, 1) := by decide +kernel
theorem dX4_digest_18 : decode cX4_digest 18 = .ok (.iload_n 3, 1) := by decide +kernel
theorem dX4_digest_19 : decode cX4_digest 19 = .ok (.invokevirtual 197, 3) := by decide +kernel
theorem dX4_digest_22 : decode cX4_digest 22 = .ok (.i2l, 1) := by decide +kernel
theorem dX4_digest_23 : decode cX4_digest 23 = .ok (.invokestatic 221, 3) := by decide +kernel
theorem dX4_digest_26 : decode cX4_digest 26 = .ok (.lstore_n 1, 1) := by decide +kernel
theorem dX4_digest_27 : decode cX4_digest 27 = .ok (.iinc 3 1, 3) := by decide +kernel
theorem dX4_digest_30 : decode cX4_digest 30 = .ok (.goto (-19), 3) := by decide +kernel
theorem dX4_digest_33 : decode cX4_digest 33 = .ok (.iconst 0, 1) := by decide +kernel
theorem dX4_digest_34 : decode cX4_digest 34 = .ok (.istore_n 3, 1) := by decide +kernel
theorem dX4_digest_35 : decode cX4_digest 35 = .ok (.iload_n 3, 1) := by decide +kernel
theorem dX4_digest_36 : decode cX4_digest 36 = .ok (.iconst 4, 1) := by decide +kernel
theorem dX4_digest_37 : decode cX4_digest 37 = .ok (.if_icmp .ge 67, 3) := by decide +kernel
theorem dX4_digest_40 : decode cX4_digest 40 = .ok (.lload_n 1, 1) := by decide +kernel
theorem dX4_digest_41 : decode cX4_digest 41 = .ok (.aload_n 0, 1) := by decide +kernel
theorem dX4_digest_42 : decode cX4_digest 42 = .ok (.iload_n 3, 1) := by decide +kernel
theorem dX4_digest_43 : decode cX4_digest 43 = .ok (.iconst 0, 1) := by decide +kernel
theorem dX4_digest_44 : decode cX4_digest 44 = .ok (.aload_n 0, 1) := by decide +kernel
theorem dX4_digest_45 : decode cX4_digest 45 = .ok (.getfield 14, 3) := by decide +kernel
theorem dX4_digest_48 : decode cX4_digest 48 = .ok (.iload_n 3, 1) := by decide +kernel
theorem dX4_digest_49 : decode cX4_digest 49 = .ok (.iaload, 1) := by decide +kernel
theorem dX4_digest_50 : decode cX4_digest 50 = .ok (.invokevirtual 124, 3) := by decide +kernel
theorem dX4_digest_53 : decode cX4_digest 53 = .ok (.invokestatic 227, 3) := by decide +kernel
theorem dX4_digest_56 : decode cX4_digest 56 = .ok (.aload_n 0, 1) := by decide +kernel
theorem dX4_digest_57 : decode cX4_digest 57 = .ok (.getfield 18, 3) := by decide +kernel
theorem dX4_digest_60 : decode cX4_digest 60 = .ok (.iload_n 3, 1) := by decide +kernel
theorem dX4_digest_61 : decode cX4_digest 61 = .ok (.iaload, 1) := by decide +kernel
theorem dX4_digest_62 : decode cX4_digest 62 = .ok (.i2l, 1) := by decide +kernel
theorem dX4_digest_63 : decode cX4_digest 63 = .ok (.invokestatic 221, 3) := by decide +kernel
theorem dX4_digest_66 : decode cX4_digest 66 = .ok (.lstore_n 1, 1) := by decide +kernel
theorem dX4_digest_67 : decode cX4_digest 67 = .ok (.lload_n 1, 1) := by decide +kernel
theorem dX4_digest_68 : decode cX4_digest 68 = .ok (.aload_n 0, 1) := by decide +kernel
theorem dX4_digest_69 : decode cX4_digest 69 = .ok (.iload_n 3, 1) := by decide +kernel
theorem dX4_digest_70 : decode cX4_digest 70 = .ok (.iconst 0, 1) := by decide +kernel
theorem dX4_digest_71 : decode cX4_digest 71 = .ok (.invokevirtual 156, 3) := by decide +kernel
theorem dX4_digest_74 : decode cX4_digest 74 = .ok (.i2l, 1) := by decide +kernel
theorem dX4_digest_75 : decode cX4_digest 75 = .ok (.invokestatic 221, 3) := by decide +kernel
theorem dX4_digest_78 : decode cX4_digest 78 = .ok (.aload_n 0, 1) := by decide +kernel
theorem dX4_digest_79 : decode cX4_digest 79 = .ok (.iload_n 3, 1) := by decide +kernel
theorem dX4_digest_80 : decode cX4_digest 80 = .ok (.iconst 1, 1) := by decide +kernel
theorem dX4_digest_81 : decode cX4_digest 81 = .ok (.invokevirtual 156, 3) := by decide +kernel
theorem dX4_digest_84 : decode cX4_digest 84 = .ok (.i2l, 1) := by decide +kernel
theorem dX4_digest_85 : decode cX4_digest 85 = .ok (.invokestatic 221, 3) := by decide +kernel
theorem dX4_digest_88 : decode cX4_digest 88 = .ok (.aload_n 0, 1) := by decide +kernel
theorem dX4_digest_89 : decode cX4_digest 89 = .ok (.iload_n 3, 1) := by decide +kernel
theorem dX4_digest_90 : decode cX4_digest 90 = .ok (.invokevirtual 191, 3) := by decide +kernel
theorem dX4_digest_93 : decode cX4_digest 93 = .ok (.i2l, 1) := by decide +kernel
theorem dX4_digest_94 : decode cX4_digest 94 = .ok (.invokestatic 221, 3) := by decide +kernel
theorem dX4_digest_97 : decode cX4_digest 97 = .ok (.lstore_n 1, 1) := by decide +kernel
theorem dX4_digest_98 : decode cX4_digest 98 = .ok (.iinc 3 1, 3) := by decide +kernel
theorem dX4_digest_101 : decode cX4_digest 101 = .ok (.goto (-66), 3) := by decide +kernel
theorem dX4_digest_104 : decode cX4_digest 104 = .ok (.iconst 0, 1) := by decide +kernel
theorem dX4_digest_105 : decode cX4_digest 105 = .ok (.istore_n 3, 1) := by decide +kernel
theorem dX4_digest_106 : decode cX4_digest 106 = .ok (.iload_n 3, 1) := by decide +kernel
theorem dX4_digest_107 : decode cX4_digest 107 = .ok (.iconst 4, 1) := by decide +kernel
theorem dX4_digest_108 : decode cX4_digest 108 = .ok (.if_icmp .ge 51, 3) := by decide +kernel
theorem dX4_digest_111 : decode cX4_digest 111 = .ok (.iconst 0, 1) := by decide +kernel
theorem dX4_digest_112 : decode cX4_digest 112 = .ok (.istore 4, 2) := by decide +kernel
theorem dX4_digest_114 : decode cX4_digest 114 = .ok (.iload 4, 2) := by decide +kernel
theorem dX4_digest_116 : decode cX4_digest 116 = .ok (.iconst 4, 1) := by decide +kernel
theorem dX4_digest_117 : decode cX4_digest 117 = .ok (.if_icmp .ge 36, 3) := by decide +kernel
theorem dX4_digest_120 : decode cX4_digest 120 = .ok (.lload_n 1, 1) := by decide +kernel
theorem dX4_digest_121 : decode cX4_digest 121 = .ok (.aload_n 0, 1) := by decide +kernel
theorem dX4_digest_122 : decode cX4_digest 122 = .ok (.iload_n 3, 1) := by decide +kernel
theorem dX4_digest_123 : decode cX4_digest 123 = .ok (.iload 4, 2) := by decide +kernel
theorem dX4_digest_125 : decode cX4_digest 125 = .ok (.invokevirtual 135, 3) := by decide +kernel
theorem dX4_digest_128 : decode cX4_digest 128 = .ok (.invokestatic 128, 3) := by decide +kernel
theorem dX4_digest_131 : decode cX4_digest 131 = .ok (.i2l, 1) := by decide +kernel
theorem dX4_digest_132 : decode cX4_digest 132 = .ok (.invokestatic 221, 3) := by decide +kernel
theorem dX4_digest_135 : decode cX4_digest 135 = .ok (.aload_n 0, 1) := by decide +kernel
theorem dX4_digest_136 : decode cX4_digest 136 = .ok (.iload_n 3, 1) := by decide +kernel
theorem dX4_digest_137 : decode cX4_digest 137 = .ok (.iload 4, 2) := by decide +kernel
theorem dX4_digest_139 : decode cX4_digest 139 = .ok (.invokevirtual 145, 3) := by decide +kernel
theorem dX4_digest_142 : decode cX4_digest 142 = .ok (.i2l, 1) := by decide +kernel
theorem dX4_digest_143 : decode cX4_digest 143 = .ok (.invokestatic 221, 3) := by decide +kernel
theorem dX4_digest_146 : decode cX4_digest 146 = .ok (.lstore_n 1, 1) := by decide +kernel
theorem dX4_digest_147 : decode cX4_digest 147 = .ok (.iinc 4 1, 3) := by decide +kernel
theorem dX4_digest_150 : decode cX4_digest 150 = .ok (.goto (-36), 3) := by decide +kernel
theorem dX4_digest_153 : decode cX4_digest 153 = .ok (.iinc 3 1, 3) := by decide +kernel
theorem dX4_digest_156 : decode cX4_digest 156 = .ok (.goto (-50), 3) := by decide +kernel
theorem dX4_digest_159 : decode cX4_digest 159 = .ok (.iconst 0, 1) := by decide +kernel
theorem dX4_digest_160 : decode cX4_digest 160 = .ok (.istore_n 3, 1) := by decide +kernel
theorem dX4_digest_161 : decode cX4_digest 161 = .ok (.iload_n 3, 1) := by decide +kernel
theorem dX4_digest_162 : decode cX4_digest 162 = .ok (.iconst 3, 1) := by decide +kernel
theorem dX4_digest_163 : decode cX4_digest 163 = .ok (.if_icmp .ge 19, 3) := by decide +kernel
theorem dX4_digest_166 : decode cX4_digest 166 = .ok (.lload_n 1, 1) := by decide +kernel
theorem dX4_digest_167 : decode cX4_digest 167 = .ok (.aload_n 0, 1) := by decide +kernel
theorem dX4_digest_168 : decode cX4_digest 168 = .ok (.iload_n 3, 1) := by decide +kernel
theorem dX4_digest_169 : decode cX4_digest 169 = .ok (.invokevirtual 181, 3) := by decide +kernel
theorem dX4_digest_172 : decode cX4_digest 172 = .ok (.invokestatic 227, 3) := by decide +kernel
theorem dX4_digest_175 : decode cX4_digest 175 = .ok (.lstore_n 1, 1) := by decide +kernel
theorem dX4_digest_176 : decode cX4_digest 176 = .ok (.iinc 3 1, 3) := by decide +kernel
theorem dX4_digest_179 : decode cX4_digest 179 = .ok (.goto (-18), 3) := by decide +kernel
theorem dX4_digest_182 : decode cX4_digest 182 = .ok (.lload_n 1, 1) := by decide +kernel
theorem dX4_digest_183 : decode cX4_digest 183 = .ok (.aload_n 0, 1) := by decide +kernel
theorem dX4_digest_184 : decode cX4_digest 184 = .ok (.invokevirtual 205, 3) := by decide +kernel
theorem dX4_digest_187 : decode cX4_digest 187 = .ok (.invokestatic 128, 3) := by decide +kernel
theorem dX4_digest_190 : decode cX4_digest 190 = .ok (.i2l, 1) := by decide +kernel
theorem dX4_digest_191 : decode cX4_digest 191 = .ok (.invokestatic 221, 3) := by decide +kernel
theorem dX4_digest_194 : decode cX4_digest 194 = .ok (.lreturn, 1) := by decide +kernel
theorem dJ5_init_d00df_0 : decode cJ5_init_d00df 0 = .ok (.aload_n 0, 1) := by decide +kernel
theorem dJ5_init_d00df_1 : decode cJ5_init_d00df 1 = .ok (.invokespecial 3, 3) := by decide +kernel
theorem dJ5_init_d00df_4 : decode cJ5_init_d00df 4 = .ok (.getstatic 18, 3) := by decide +kernel
theorem dJ5_init_d00df_7 : decode cJ5_init_d00df 7 = .ok (.ifCond .eq 18, 3) := by decide +kernel
theorem dJ5_init_d00df_10 : decode cJ5_init_d00df 10 = .ok (.aload_n 0, 1) := by decide +kernel
theorem dJ5_init_d00df_11 : decode cJ5_init_d00df 11 = .ok (.iload_n 1, 1) := by decide +kernel
theorem dJ5_init_d00df_12 : decode cJ5_init_d00df 12 = .ok (.newarray .byte, 2) := by decide +kernel
theorem dJ5_init_d00df_14 : decode cJ5_init_d00df 14 = .ok (.putfield 15, 3) := by decide +kernel
theorem dJ5_init_d00df_17 : decode cJ5_init_d00df 17 = .ok (.aload_n 0, 1) := by decide +kernel
theorem dJ5_init_d00df_18 : decode cJ5_init_d00df 18 = .ok (.iconst 0, 1) := by decide +kernel
theorem dJ5_init_d00df_19 : decode cJ5_init_d00df 19 = .ok (.putfield 22, 3) := by decide +kernel
theorem dJ5_init_d00df_22 : decode cJ5_init_d00df 22 = .ok (.goto 16, 3) := by decide +kernel
theorem dJ5_init_d00df_38 : decode cJ5_init_d00df 38 = .ok (.return_, 1) := by decide +kernel
theorem dJ5_length_8abf5_0 : decode cJ5_length_8abf5 0 = .ok (.aload_n 0, 1) := by decide +kernel
theorem dJ5_length_8abf5_1 : decode cJ5_length_8abf5 1 = .ok (.getfield 79, 3) := by decide +kernel
theorem dJ5_length_8abf5_4 : decode cJ5_length_8abf5 4 = .ok (.ireturn, 1) := by decide +kernel
theorem dJ5_ensureCapacityInternal_d00df_0 : decode cJ5_ensureCapacityInternal_d00df 0 = .ok (.aload_n 0, 1) := by decide +kernel
theorem dJ5_ensureCapacityInternal_d00df_1 : decode cJ5_ensureCapacityInternal_d00df 1 = .ok (.getfield 15, 3) := by decide +kernel
theorem dJ5_ensureCapacityInternal_d00df_4 : decode cJ5_ensureCapacityInternal_d00df 4 = .ok (.arraylength, 1) := by decide +kernel
theorem dJ5_ensureCapacityInternal_d00df_5 : decode cJ5_ensureCapacityInternal_d00df 5 = .ok (.aload_n 0, 1) := by decide +kernel
theorem dJ5_ensureCapacityInternal_d00df_6 : decode cJ5_ensureCapacityInternal_d00df 6 = .ok (.getfield 22, 3) := by decide +kernel
theorem dJ5_ensureCapacityInternal_d00df_9 : decode cJ5_ensureCapacityInternal_d00df 9 = .ok (.ishr, 1) := by decide +kernel
theorem dJ5_ensureCapacityInternal_d00df_10 : decode cJ5_ensureCapacityInternal_d00df 10 = .ok (.istore_n 2, 1) := by decide +kernel
theorem dJ5_ensureCapacityInternal_d00df_11 : decode cJ5_ensureCapacityInternal_d00df 11 = .ok (.iload_n 1, 1) := by decide +kernel
theorem dJ5_ensureCapacityInternal_d00df_12 : decode cJ5_ensureCapacityInternal_d00df 12 = .ok (.iload_n 2, 1) := by decide +kernel
theorem dJ5_ensureCapacityInternal_d00df_13 : decode cJ5_ensureCapacityInternal_d00df 13 = .ok (.isub, 1) := by decide +kernel
theorem dJ5_ensureCapacityInternal_d00df_14 : decode cJ5_ensureCapacityInternal_d00df 14 = .ok (.ifCond .le 24, 3) := by decide +kernel
theorem dJ5_ensureCapacityInternal_d00df_17 : decode cJ5_ensureCapacityInternal_d00df 17 = .ok (.aload_n 0, 1) := by decide +kernel
theorem dJ5_ensureCapacityInternal_d00df_18 : decode cJ5_ensureCapacityInternal_d00df 18 = .ok (.aload_n 0, 1) := by decide +kernel
theorem dJ5_ensureCapacityInternal_d00df_19 : decode cJ5_ensureCapacityInternal_d00df 19 = .ok (.getfield 15, 3) := by decide +kernel
theorem dJ5_ensureCapacityInternal_d00df_22 : decode cJ5_ensureCapacityInternal_d00df 22 = .ok (.aload_n 0, 1) := by decide +kernel
theorem dJ5_ensureCapacityInternal_d00df_23 : decode cJ5_ensureCapacityInternal_d00df 23 = .ok (.iload_n 1, 1) := by decide +kernel
theorem dJ5_ensureCapacityInternal_d00df_24 : decode cJ5_ensureCapacityInternal_d00df 24 = .ok (.invokevirtual 104, 3) := by decide +kernel
theorem dJ5_ensureCapacityInternal_d00df_27 : decode cJ5_ensureCapacityInternal_d00df 27 = .ok (.aload_n 0, 1) := by decide +kernel
theorem dJ5_ensureCapacityInternal_d00df_28 : decode cJ5_ensureCapacityInternal_d00df 28 = .ok (.getfield 22, 3) := by decide +kernel
theorem dJ5_ensureCapacityInternal_d00df_31 : decode cJ5_ensureCapacityInternal_d00df 31 = .ok (.ishl, 1) := by decide +kernel
theorem dJ5_ensureCapacityInternal_d00df_32 : decode cJ5_ensureCapacityInternal_d00df 32 = .ok (.invokestatic 108, 3) := by decide +kernel
theorem dJ5_ensureCapacityInternal_d00df_35 : decode cJ5_ensureCapacityInternal_d00df 35 = .ok (.putfield 15, 3) := by decide +kernel
theorem dJ5_ensureCapacityInternal_d00df_38 : decode cJ5_ensureCapacityInternal_d00df 38 = .ok (.return_, 1) := by decide +kernel
theorem dJ5_newCapacity_0f7a4_0 : decode cJ5_newCapacity_0f7a4 0 = .ok (.aload_n 0, 1) := by decide +kernel
theorem dJ5_newCapacity_0f7a4_1 : decode cJ5_newCapacity_0f7a4 1 = .ok (.getfield 15, 3) := by decide +kernel
theorem dJ5_newCapacity_0f7a4_4 : decode cJ5_newCapacity_0f7a4 4 = .ok (.arraylength, 1) := by decide +kernel
theorem dJ5_newCapacity_0f7a4_5 : decode cJ5_newCapacity_0f7a4 5 = .ok (.istore_n 2, 1) := by decide +kernel
theorem dJ5_newCapacity_0f7a4_6 : decode cJ5_newCapacity_0f7a4 6 = .ok (.iload_n 1, 1) := by decide +kernel
theorem dJ5_newCapacity_0f7a4_7 : decode cJ5_newCapacity_0f7a4 7 = .ok (.aload_n 0, 1) := by decide +kernel
theorem dJ5_newCapacity_0f7a4_8 : decode cJ5_newCapacity_0f7a4 8 = .ok (.getfield 22, 3) := by decide +kernel
theorem dJ5_newCapacity_0f7a4_11 : decode cJ5_newCapacity_0f7a4 11 = .ok (.ishl, 1) := by decide +kernel
theorem dJ5_newCapacity_0f7a4_12 : decode cJ5_newCapacity_0f7a4 12 = .ok (.istore_n 3, 1) := by decide +kernel
theorem dJ5_newCapacity_0f7a4_13 : decode cJ5_newCapacity_0f7a4 13 = .ok (.iload_n 3, 1) := by decide +kernel
theorem dJ5_newCapacity_0f7a4_14 : decode cJ5_newCapacity_0f7a4 14 = .ok (.iload_n 2, 1) := by decide +kernel
theorem dJ5_newCapacity_0f7a4_15 : decode cJ5_newCapacity_0f7a4 15 = .ok (.isub, 1) := by decide +kernel
theorem dJ5_newCapacity_0f7a4_16 : decode cJ5_newCapacity_0f7a4 16 = .ok (.istore 4, 2) := by decide +kernel
theorem dJ5_newCapacity_0f7a4_18 : decode cJ5_newCapacity_0f7a4 18 = .ok (.iload_n 2, 1) := by decide +kernel
theorem dJ5_newCapacity_0f7a4_19 : decode cJ5_newCapacity_0f7a4 19 = .ok (.iload 4, 2) := by decide +kernel
theorem dJ5_newCapacity_0f7a4_21 : decode cJ5_newCapacity_0f7a4 21 = .ok (.iload_n 2, 1) := by decide +kernel
theorem dJ5_newCapacity_0f7a4_22 : decode cJ5_newCapacity_0f7a4 22 = .ok (.iconst 2, 1) := by decide +kernel
theorem dJ5_newCapacity_0f7a4_23 : decode cJ5_newCapacity_0f7a4 23 = .ok (.aload_n 0, 1) := by decide +kernel
theorem dJ5_newCapacity_0f7a4_24 : decode cJ5_newCapacity_0f7a4 24 = .ok (.getfield 22, 3) := by decide +kernel
theorem dJ5_newCapacity_0f7a4_27 : decode cJ5_newCapacity_0f7a4 27 = .ok (.ishl, 1) := by decide +kernel
theorem dJ5_newCapacity_0f7a4_28 : decode cJ5_newCapacity_0f7a4 28 = .ok (.iadd, 1) := by decide +kernel
theorem dJ5_newCapacity_0f7a4_29 : decode cJ5_newCapacity_0f7a4 29 = .ok (.invokestatic 114, 3) := by decide +kernel
theorem dJ5_newCapacity_0f7a4_32 : decode cJ5_newCapacity_0f7a4 32 = .ok (.istore 5, 2) := by decide +kernel
theorem dJ5_newCapacity_0f7a4_34 : decode cJ5_newCapacity_0f7a4 34 = .ok (.iload 5, 2) := by decide +kernel
theorem dJ5_newCapacity_0f7a4_36 : decode cJ5_newCapacity_0f7a4 36 = .ok (.ldc 39, 2) := by decide +kernel
theorem dJ5_newCapacity_0f7a4_38 : decode cJ5_newCapacity_0f7a4 38 = .ok (.if_icmp .ne 13, 3) := by decide +kernel
theorem dJ5_newCapacity_0f7a4_51 : decode cJ5_newCapacity_0f7a4 51 = .ok (.iload 5, 2) := by decide +kernel
theorem dJ5_newCapacity_0f7a4_53 : decode cJ5_newCapacity_0f7a4 53 = .ok (.aload_n 0, 1) := by decide +kernel
theorem dJ5_newCapacity_0f7a4_54 : decode cJ5_newCapacity_0f7a4 54 = .ok (.getfield 22, 3) := by decide +kernel
theorem dJ5_newCapacity_0f7a4_57 : decode cJ5_newCapacity_0f7a4 57 = .ok (.ishr, 1) := by decide +kernel
theorem dJ5_newCapacity_0f7a4_58 : decode cJ5_newCapacity_0f7a4 58 = .ok (.ireturn, 1) := by decide +kernel
theorem dJ5_setLength_d00df_0 : decode cJ5_setLength_d00df 0 = .ok (.iload_n 1, 1) := by decide +kernel
theorem dJ5_setLength_d00df_1 : decode cJ5_setLength_d00df 1 = .ok (.ifCond .ge 12, 3) := by decide +kernel
theorem dJ5_setLength_d00df_13 : decode cJ5_setLength_d00df 13 = .ok (.aload_n 0, 1) := by decide +kernel
theorem dJ5_setLength_d00df_14 : decode cJ5_setLength_d00df 14 = .ok (.iload_n 1, 1) := by decide +kernel
theorem dJ5_setLength_d00df_15 : decode cJ5_setLength_d00df 15 = .ok (.invokevirtual 100, 3) := by decide +kernel
theorem dJ5_setLength_d00df_18 : decode cJ5_setLength_d00df 18 = .ok (.aload_n 0, 1) := by decide +kernel
theorem dJ5_setLength_d00df_19 : decode cJ5_setLength_d00df 19 = .ok (.getfield 79, 3) := by decide +kernel
theorem dJ5_setLength_d00df_22 : decode cJ5_setLength_d00df 22 = .ok (.iload_n 1, 1) := by decide +kernel
theorem dJ5_setLength_d00df_23 : decode cJ5_setLength_d00df 23 = .ok (.if_icmp .ge 40, 3) := by decide +kernel
theorem dJ5_setLength_d00df_63 : decode cJ5_setLength_d00df 63 = .ok (.aload_n 0, 1) := by decide +kernel
theorem dJ5_setLength_d00df_64 : decode cJ5_setLength_d00df 64 = .ok (.getfield 79, 3) := by decide +kernel
theorem dJ5_setLength_d00df_67 : decode cJ5_setLength_d00df 67 = .ok (.iload_n 1, 1) := by decide +kernel
theorem dJ5_setLength_d00df_68 : decode cJ5_setLength_d00df 68 = .ok (.if_icmp .le 8, 3) := by decide +kernel
theorem dJ5_setLength_d00df_71 : decode cJ5_setLength_d00df 71 = .ok (.aload_n 0, 1) := by decide +kernel
theorem dJ5_setLength_d00df_72 : decode cJ5_setLength_d00df 72 = .ok (.iconst 1, 1) := by decide +kernel
theorem dJ5_setLength_d00df_73 : decode cJ5_setLength_d00df 73 = .ok (.putfield 73, 3) := by decide +kernel
theorem dJ5_setLength_d00df_76 : decode cJ5_setLength_d00df 76 = .ok (.aload_n 0, 1) := by decide +kernel
theorem dJ5_setLength_d00df_77 : decode cJ5_setLength_d00df 77 = .ok (.iload_n 1, 1) := by decide +kernel
theorem dJ5_setLength_d00df_78 : decode cJ5_setLength_d00df 78 = .ok (.putfield 79, 3) := by decide +kernel
theorem dJ5_setLength_d00df_81 : decode cJ5_setLength_d00df 81 = .ok (.return_, 1) := by decide +kernel
theorem dJ5_charAt_5068e_0 : decode cJ5_charAt_5068e 0 = .ok (.aload_n 0, 1) := by decide +kernel
theorem dJ5_charAt_5068e_1 : decode cJ5_charAt_5068e 1 = .ok (.getfield 22, 3) := by decide +kernel
theorem dJ5_charAt_5068e_4 : decode cJ5_charAt_5068e 4 = .ok (.istore_n 2, 1) := by decide +kernel
theorem dJ5_charAt_5068e_5 : decode cJ5_charAt_5068e 5 = .ok (.aload_n 0, 1) := by decide +kernel
theorem dJ5_charAt_5068e_6 : decode cJ5_charAt_5068e 6 = .ok (.getfield 15, 3) := by decide +kernel
theorem dJ5_charAt_5068e_9 : decode cJ5_charAt_5068e 9 = .ok (.astore_n 3, 1) := by decide +kernel
theorem dJ5_charAt_5068e_10 : decode cJ5_charAt_5068e 10 = .ok (.aload_n 0, 1) := by decide +kernel
theorem dJ5_charAt_5068e_11 : decode cJ5_charAt_5068e 11 = .ok (.getfield 79, 3) := by decide +kernel
theorem dJ5_charAt_5068e_14 : decode cJ5_charAt_5068e 14 = .ok (.aload_n 3, 1) := by decide +kernel
theorem dJ5_charAt_5068e_15 : decode cJ5_charAt_5068e 15 = .ok (.arraylength, 1) := by decide +kernel
theorem dJ5_charAt_5068e_16 : decode cJ5_charAt_5068e 16 = .ok (.iload_n 2, 1) := by decide +kernel
theorem dJ5_charAt_5068e_17 : decode cJ5_charAt_5068e 17 = .ok (.ishr, 1) := by decide +kernel
theorem dJ5_charAt_5068e_18 : decode cJ5_charAt_5068e 18 = .ok (.invokestatic 138, 3) := by decide +kernel
theorem dJ5_charAt_5068e_21 : decode cJ5_charAt_5068e 21 = .ok (.istore 4, 2) := by decide +kernel
theorem dJ5_charAt_5068e_23 : decode cJ5_charAt_5068e 23 = .ok (.iload_n 1, 1) := by decide +kernel
theorem dJ5_charAt_5068e_24 : decode cJ5_charAt_5068e 24 = .ok (.iload 4, 2) := by decide +kernel
theorem dJ5_charAt_5068e_26 : decode cJ5_charAt_5068e 26 = .ok (.invokestatic 144, 3) := by decide +kernel
theorem dJ5_charAt_5068e_29 : decode cJ5_charAt_5068e 29 = .ok (.iload_n 2, 1) := by decide +kernel
theorem dJ5_charAt_5068e_30 : decode cJ5_charAt_5068e 30 = .ok (.ifCond .ne 12, 3) := by decide +kernel
theorem dJ5_charAt_5068e_33 : decode cJ5_charAt_5068e 33 = .ok (.aload_n 3, 1) := by decide +kernel
theorem dJ5_charAt_5068e_34 : decode cJ5_charAt_5068e 34 = .ok (.iload_n 1, 1) := by decide +kernel
theorem dJ5_charAt_5068e_35 : decode cJ5_charAt_5068e 35 = .ok (.baload, 1) := by decide +kernel
theorem dJ5_charAt_5068e_36 : decode cJ5_charAt_5068e 36 = .ok (.sipush 255, 3) := by decide +kernel
theorem dJ5_charAt_5068e_39 : decode cJ5_charAt_5068e 39 = .ok (.iand, 1) := by decide +kernel
theorem dJ5_charAt_5068e_40 : decode cJ5_charAt_5068e 40 = .ok (.i2c, 1) := by decide +kernel
theorem dJ5_charAt_5068e_41 : decode cJ5_charAt_5068e 41 = .ok (.ireturn, 1) := by decide +kernel
theorem dJ5_append_cf1ce_0 : decode cJ5_append_cf1ce 0 = .ok (.aload_n 1, 1) := by decide +kernel
theorem dJ5_append_cf1ce_1 : decode cJ5_append_cf1ce 1 = .ok (.ifnonnull 8, 3) := by decide +kernel
theorem dJ5_append_cf1ce_9 : decode cJ5_append_cf1ce 9 = .ok (.aload_n 1, 1) := by decide +kernel
theorem dJ5_append_cf1ce_10 : decode cJ5_append_cf1ce 10 = .ok (.invokevirtual 32, 3) := by decide +kernel
theorem dJ5_append_cf1ce_13 : decode cJ5_append_cf1ce 13 = .ok (.istore_n 2, 1) := by decide +kernel
theorem dJ5_append_cf1ce_14 : decode cJ5_append_cf1ce 14 = .ok (.aload_n 0, 1) := by decide +kernel
theorem dJ5_append_cf1ce_15 : decode cJ5_append_cf1ce 15 = .ok (.aload_n 0, 1) := by decide +kernel
theorem dJ5_append_cf1ce_16 : decode cJ5_append_cf1ce 16 = .ok (.getfield 79, 3) := by decide +kernel
theorem dJ5_append_cf1ce_19 : decode cJ5_append_cf1ce 19 = .ok (.iload_n 2, 1) := by decide +kernel
theorem dJ5_append_cf1ce_20 : decode cJ5_append_cf1ce 20 = .ok (.iadd, 1) := by decide +kernel
theorem dJ5_append_cf1ce_21 : decode cJ5_append_cf1ce 21 = .ok (.invokevirtual 100, 3) := by decide +kernel
theorem dJ5_append_cf1ce_24 : decode cJ5_append_cf1ce 24 = .ok (.aload_n 0, 1) := by decide +kernel
theorem dJ5_append_cf1ce_25 : decode cJ5_append_cf1ce 25 = .ok (.aload_n 0, 1) := by decide +kernel
theorem dJ5_append_cf1ce_26 : decode cJ5_append_cf1ce 26 = .ok (.getfield 79, 3) := by decide +kernel
theorem dJ5_append_cf1ce_29 : decode cJ5_append_cf1ce 29 = .ok (.aload_n 1, 1) := by decide +kernel
theorem dJ5_append_cf1ce_30 : decode cJ5_append_cf1ce 30 = .ok (.invokevirtual 208, 3) := by decide +kernel
theorem dJ5_append_cf1ce_33 : decode cJ5_append_cf1ce 33 = .ok (.aload_n 0, 1) := by decide +kernel
theorem dJ5_append_cf1ce_34 : decode cJ5_append_cf1ce 34 = .ok (.dup, 1) := by decide +kernel
theorem dJ5_append_cf1ce_35 : decode cJ5_append_cf1ce 35 = .ok (.getfield 79, 3) := by decide +kernel
theorem dJ5_append_cf1ce_38 : decode cJ5_append_cf1ce 38 = .ok (.iload_n 2, 1) := by decide +kernel
theorem dJ5_append_cf1ce_39 : decode cJ5_append_cf1ce 39 = .ok (.iadd, 1) := by decide +kernel
theorem dJ5_append_cf1ce_40 : decode cJ5_append_cf1ce 40 = .ok (.putfield 79, 3) := by decide +kernel
theorem dJ5_append_cf1ce_43 : decode cJ5_append_cf1ce 43 = .ok (.aload_n 0, 1) := by decide +kernel
theorem dJ5_append_cf1ce_44 : decode cJ5_append_cf1ce 44 = .ok (.areturn, 1) := by decide +kernel
theorem dJ5_append_3fe6f_0 : decode cJ5_append_3fe6f 0 = .ok (.aload_n 0, 1) := by decide +kernel
theorem dJ5_append_3fe6f_1 : decode cJ5_append_3fe6f 1 = .ok (.aload_n 0, 1) := by decide +kernel
theorem dJ5_append_3fe6f_2 : decode cJ5_append_3fe6f 2 = .ok (.getfield 79, 3) := by decide +kernel
theorem dJ5_append_3fe6f_5 : decode cJ5_append_3fe6f 5 = .ok (.iconst 1, 1) := by decide +kernel
theorem dJ5_append_3fe6f_6 : decode cJ5_append_3fe6f 6 = .ok (.iadd, 1) := by decide +kernel
theorem dJ5_append_3fe6f_7 : decode cJ5_append_3fe6f 7 = .ok (.invokevirtual 100, 3) := by decide +kernel
theorem dJ5_append_3fe6f_10 : decode cJ5_append_3fe6f 10 = .ok (.aload_n 0, 1) := by decide +kernel
theorem dJ5_append_3fe6f_11 : decode cJ5_append_3fe6f 11 = .ok (.invokevirtual 83, 3) := by decide +kernel
theorem dJ5_append_3fe6f_14 : decode cJ5_append_3fe6f 14 = .ok (.ifCond .eq 31, 3) := by decide +kernel
theorem dJ5_append_3fe6f_17 : decode cJ5_append_3fe6f 17 = .ok (.iload_n 1, 1) := by decide +kernel
theorem dJ5_append_3fe6f_18 : decode cJ5_append_3fe6f 18 = .ok (.invokestatic 191, 3) := by decide +kernel
theorem dJ5_append_3fe6f_21 : decode cJ5_append_3fe6f 21 = .ok (.ifCond .eq 24, 3) := by decide +kernel
theorem dJ5_append_3fe6f_24 : decode cJ5_append_3fe6f 24 = .ok (.aload_n 0, 1) := by decide +kernel
theorem dJ5_append_3fe6f_25 : decode cJ5_append_3fe6f 25 = .ok (.getfield 15, 3) := by decide +kernel
theorem dJ5_append_3fe6f_28 : decode cJ5_append_3fe6f 28 = .ok (.aload_n 0, 1) := by decide +kernel
theorem dJ5_append_3fe6f_29 : decode cJ5_append_3fe6f 29 = .ok (.dup, 1) := by decide +kernel
theorem dJ5_append_3fe6f_30 : decode cJ5_append_3fe6f 30 = .ok (.getfield 79, 3) := by decide +kernel
theorem dJ5_append_3fe6f_33 : decode cJ5_append_3fe6f 33 = .ok (.dup_x1, 1) := by decide +kernel
theorem dJ5_append_3fe6f_34 : decode cJ5_append_3fe6f 34 = .ok (.iconst 1, 1) := by decide +kernel
theorem dJ5_append_3fe6f_35 : decode cJ5_append_3fe6f 35 = .ok (.iadd, 1) := by decide +kernel
theorem dJ5_append_3fe6f_36 : decode cJ5_append_3fe6f 36 = .ok (.putfield 79, 3) := by decide +kernel
theorem dJ5_append_3fe6f_39 : decode cJ5_append_3fe6f 39 = .ok (.iload_n 1, 1) := by decide +kernel
theorem dJ5_append_3fe6f_40 : decode cJ5_append_3fe6f 40 = .ok (.i2b, 1) := by decide +kernel
theorem dJ5_append_3fe6f_41 : decode cJ5_append_3fe6f 41 = .ok (.bastore, 1) := by decide +kernel
theorem dJ5_append_3fe6f_42 : decode cJ5_append_3fe6f 42 = .ok (.goto 33, 3) := by decide +kernel
theorem dJ5_append_3fe6f_75 : decode cJ5_append_3fe6f 75 = .ok (.aload_n 0, 1) := by decide +kernel
theorem dJ5_append_3fe6f_76 : decode cJ5_append_3fe6f 76 = .ok (.areturn, 1) := by decide +kernel
theorem dJ5_append_c97b9_0 : decode cJ5_append_c97b9 0 = .ok (.aload_n 0, 1) := by decide +kernel
theorem dJ5_append_c97b9_1 : decode cJ5_append_c97b9 1 = .ok (.getfield 79, 3) := by decide +kernel
theorem dJ5_append_c97b9_4 : decode cJ5_append_c97b9 4 = .ok (.istore_n 2, 1) := by decide +kernel
theorem dJ5_append_c97b9_5 : decode cJ5_append_c97b9 5 = .ok (.iload_n 2, 1) := by decide +kernel
theorem dJ5_append_c97b9_6 : decode cJ5_append_c97b9 6 = .ok (.iload_n 1, 1) := by decide +kernel
theorem dJ5_append_c97b9_7 : decode cJ5_append_c97b9 7 = .ok (.invokestatic 245, 3) := by decide +kernel
theorem dJ5_append_c97b9_10 : decode cJ5_append_c97b9 10 = .ok (.iadd, 1) := by decide +kernel
theorem dJ5_append_c97b9_11 : decode cJ5_append_c97b9 11 = .ok (.istore_n 3, 1) := by decide +kernel
theorem dJ5_append_c97b9_12 : decode cJ5_append_c97b9 12 = .ok (.aload_n 0, 1) := by decide +kernel
theorem dJ5_append_c97b9_13 : decode cJ5_append_c97b9 13 = .ok (.iload_n 3, 1) := by decide +kernel
theorem dJ5_append_c97b9_14 : decode cJ5_append_c97b9 14 = .ok (.invokevirtual 100, 3) := by decide +kernel
theorem dJ5_append_c97b9_17 : decode cJ5_append_c97b9 17 = .ok (.aload_n 0, 1) := by decide +kernel
theorem dJ5_append_c97b9_18 : decode cJ5_append_c97b9 18 = .ok (.invokevirtual 83, 3) := by decide +kernel
theorem dJ5_append_c97b9_21 : decode cJ5_append_c97b9 21 = .ok (.ifCond .eq 16, 3) := by decide +kernel
theorem dJ5_append_c97b9_24 : decode cJ5_append_c97b9 24 = .ok (.iload_n 1, 1) := by decide +kernel
theorem dJ5_append_c97b9_25 : decode cJ5_append_c97b9 25 = .ok (.iload_n 3, 1) := by decide +kernel
theorem dJ5_append_c97b9_26 : decode cJ5_append_c97b9 26 = .ok (.aload_n 0, 1) := by decide +kernel
theorem dJ5_append_c97b9_27 : decode cJ5_append_c97b9 27 = .ok (.getfield 15, 3) := by decide +kernel
theorem dJ5_append_c97b9_30 : decode cJ5_append_c97b9 30 = .ok (.invokestatic 248, 3) := by decide +kernel
theorem dJ5_append_c97b9_33 : decode cJ5_append_c97b9 33 = .ok (.pop, 1) := by decide +kernel
theorem dJ5_append_c97b9_34 : decode cJ5_append_c97b9 34 = .ok (.goto 14, 3) := by decide +kernel
theorem dJ5_append_c97b9_48 : decode cJ5_append_c97b9 48 = .ok (.aload_n 0, 1) := by decide +kernel
theorem dJ5_append_c97b9_49 : decode cJ5_append_c97b9 49 = .ok (.iload_n 3, 1) := by decide +kernel
theorem dJ5_append_c97b9_50 : decode cJ5_append_c97b9 50 = .ok (.putfield 79, 3) := by decide +kernel
theorem dJ5_append_c97b9_53 : decode cJ5_append_c97b9 53 = .ok (.aload_n 0, 1) := by decide +kernel
theorem dJ5_append_c97b9_54 : decode cJ5_append_c97b9 54 = .ok (.areturn, 1) := by decide +kernel
theorem dJ5_getValue_6d5f1_0 : decode cJ5_getValue_6d5f1 0 = .ok (.aload_n 0, 1) := by decide +kernel
theorem dJ5_getValue_6d5f1_1 : decode cJ5_getValue_6d5f1 1 = .ok (.getfield 15, 3) := by decide +kernel
theorem dJ5_getValue_6d5f1_4 : decode cJ5_getValue_6d5f1 4 = .ok (.areturn, 1) := by decide +kernel
theorem dJ5_isLatin1_aae02_0 : decode cJ5_isLatin1_aae02 0 = .ok (.getstatic 18, 3) := by decide +kernel
theorem dJ5_isLatin1_aae02_3 : decode cJ5_isLatin1_aae02 3 = .ok (.ifCond .eq 14, 3) := by decide +kernel
theorem dJ5_isLatin1_aae02_6 : decode cJ5_isLatin1_aae02 6 = .ok (.aload_n 0, 1) := by decide +kernel
theorem dJ5_isLatin1_aae02_7 : decode cJ5_isLatin1_aae02 7 = .ok (.getfield 22, 3) := by decide +kernel
theorem dJ5_isLatin1_aae02_10 : decode cJ5_isLatin1_aae02 10 = .ok (.ifCond .ne 7, 3) := by decide +kernel
theorem dJ5_isLatin1_aae02_13 : decode cJ5_isLatin1_aae02 13 = .ok (.iconst 1, 1) := by decide +kernel
theorem dJ5_isLatin1_aae02_14 : decode cJ5_isLatin1_aae02 14 = .ok (.goto 4, 3) := by decide +kernel
theorem dJ5_isLatin1_aae02_18 : decode cJ5_isLatin1_aae02 18 = .ok (.ireturn, 1) := by decide +kernel
theorem dJ5_inflateIfNeededFor_a7421_0 : decode cJ5_inflateIfNeededFor_a7421 0 = .ok (.getstatic 18, 3) := by decide +kernel
theorem dJ5_inflateIfNeededFor_a7421_3 : decode cJ5_inflateIfNeededFor_a7421 3 = .ok (.ifCond .eq 18, 3) := by decide +kernel
theorem dJ5_inflateIfNeededFor_a7421_6 : decode cJ5_inflateIfNeededFor_a7421 6 = .ok (.aload_n 0, 1) := by decide +kernel
theorem dJ5_inflateIfNeededFor_a7421_7 : decode cJ5_inflateIfNeededFor_a7421 7 = .ok (.getfield 22, 3) := by decide +kernel
theorem dJ5_inflateIfNeededFor_a7421_10 : decode cJ5_inflateIfNeededFor_a7421 10 = .ok (.aload_n 1, 1) := by decide +kernel
theorem dJ5_inflateIfNeededFor_a7421_11 : decode cJ5_inflateIfNeededFor_a7421 11 = .ok (.invokevirtual 40, 3) := by decide +kernel
theorem dJ5_inflateIfNeededFor_a7421_14 : decode cJ5_inflateIfNeededFor_a7421 14 = .ok (.if_icmp .eq 7, 3) := by decide +kernel
theorem dJ5_inflateIfNeededFor_a7421_21 : decode cJ5_inflateIfNeededFor_a7421 21 = .ok (.return_, 1) := by decide +kernel
theorem dJ5_putStringAt_47b60_0 : decode cJ5_putStringAt_47b60 0 = .ok (.aload_n 0, 1) := by decide +kernel
theorem dJ5_putStringAt_47b60_1 : decode cJ5_putStringAt_47b60 1 = .ok (.aload_n 2, 1) := by decide +kernel
theorem dJ5_putStringAt_47b60_2 : decode cJ5_putStringAt_47b60 2 = .ok (.invokevirtual 397, 3) := by decide +kernel
theorem dJ5_putStringAt_47b60_5 : decode cJ5_putStringAt_47b60 5 = .ok (.aload_n 2, 1) := by decide +kernel
theorem dJ5_putStringAt_47b60_6 : decode cJ5_putStringAt_47b60 6 = .ok (.aload_n 0, 1) := by decide +kernel
theorem dJ5_putStringAt_47b60_7 : decode cJ5_putStringAt_47b60 7 = .ok (.getfield 15, 3) := by decide +kernel
theorem dJ5_putStringAt_47b60_10 : decode cJ5_putStringAt_47b60 10 = .ok (.iload_n 1, 1) := by decide +kernel
theorem dJ5_putStringAt_47b60_11 : decode cJ5_putStringAt_47b60 11 = .ok (.aload_n 0, 1) := by decide +kernel
theorem dJ5_putStringAt_47b60_12 : decode cJ5_putStringAt_47b60 12 = .ok (.getfield 22, 3) := by decide +kernel
theorem dJ5_putStringAt_47b60_15 : decode cJ5_putStringAt_47b60 15 = .ok (.invokevirtual 399, 3) := by decide +kernel
theorem dJ5_putStringAt_47b60_18 : decode cJ5_putStringAt_47b60 18 = .ok (.return_, 1) := by decide +kernel
theorem dJ6_getChars_ba4f3_0 : decode cJ6_getChars_ba4f3 0 = .ok (.iload_n 1, 1) := by decide +kernel
theorem dJ6_getChars_ba4f3_1 : decode cJ6_getChars_ba4f3 1 = .ok (.istore 5, 2) := by decide +kernel
theorem dJ6_getChars_ba4f3_3 : decode cJ6_getChars_ba4f3 3 = .ok (.iload_n 0, 1) := by decide +kernel
theorem dJ6_getChars_ba4f3_4 : decode cJ6_getChars_ba4f3 4 = .ok (.ifCond .ge 7, 3) := by decide +kernel
theorem dJ6_getChars_ba4f3_11 : decode cJ6_getChars_ba4f3 11 = .ok (.iconst 0, 1) := by decide +kernel
theorem dJ6_getChars_ba4f3_12 : decode cJ6_getChars_ba4f3 12 = .ok (.istore 6, 2) := by decide +kernel
theorem dJ6_getChars_ba4f3_14 : decode cJ6_getChars_ba4f3 14 = .ok (.iload 6, 2) := by decide +kernel
theorem dJ6_getChars_ba4f3_16 : decode cJ6_getChars_ba4f3 16 = .ok (.ifCond .ne 6, 3) := by decide +kernel
theorem dJ6_getChars_ba4f3_19 : decode cJ6_getChars_ba4f3 19 = .ok (.iload_n 0, 1) := by decide +kernel
theorem dJ6_getChars_ba4f3_20 : decode cJ6_getChars_ba4f3 20 = .ok (.ineg, 1) := by decide +kernel
theorem dJ6_getChars_ba4f3_21 : decode cJ6_getChars_ba4f3 21 = .ok (.istore_n 0, 1) := by decide +kernel
theorem dJ6_getChars_ba4f3_22 : decode cJ6_getChars_ba4f3 22 = .ok (.iload_n 0, 1) := by decide +kernel
theorem dJ6_getChars_ba4f3_23 : decode cJ6_getChars_ba4f3 23 = .ok (.bipush (-100), 2) := by decide +kernel
theorem dJ6_getChars_ba4f3_25 : decode cJ6_getChars_ba4f3 25 = .ok (.if_icmp .gt 47, 3) := by decide +kernel
theorem dJ6_getChars_ba4f3_72 : decode cJ6_getChars_ba4f3 72 = .ok (.aload_n 2, 1) := by decide +kernel
theorem dJ6_getChars_ba4f3_73 : decode cJ6_getChars_ba4f3 73 = .ok (.iinc 5 (-1), 3) := by decide +kernel
theorem dJ6_getChars_ba4f3_76 : decode cJ6_getChars_ba4f3 76 = .ok (.iload 5, 2) := by decide +kernel
theorem dJ6_getChars_ba4f3_78 : decode cJ6_getChars_ba4f3 78 = .ok (.getstatic 83, 3) := by decide +kernel
theorem dJ6_getChars_ba4f3_81 : decode cJ6_getChars_ba4f3 81 = .ok (.iload_n 0, 1) := by decide +kernel
theorem dJ6_getChars_ba4f3_82 : decode cJ6_getChars_ba4f3 82 = .ok (.ineg, 1) := by decide +kernel
theorem dJ6_getChars_ba4f3_83 : decode cJ6_getChars_ba4f3 83 = .ok (.baload, 1) := by decide +kernel
theorem dJ6_getChars_ba4f3_84 : decode cJ6_getChars_ba4f3 84 = .ok (.bastore, 1) := by decide +kernel
theorem dJ6_getChars_ba4f3_85 : decode cJ6_getChars_ba4f3 85 = .ok (.iload_n 0, 1) := by decide +kernel
theorem dJ6_getChars_ba4f3_86 : decode cJ6_getChars_ba4f3 86 = .ok (.bipush (-9), 2) := by decide +kernel
theorem dJ6_getChars_ba4f3_88 : decode cJ6_getChars_ba4f3 88 = .ok (.if_icmp .ge 16, 3) := by decide +kernel
theorem dJ6_getChars_ba4f3_91 : decode cJ6_getChars_ba4f3 91 = .ok (.aload_n 2, 1) := by decide +kernel
theorem dJ6_getChars_ba4f3_92 : decode cJ6_getChars_ba4f3 92 = .ok (.iinc 5 (-1), 3) := by decide +kernel
theorem dJ6_getChars_ba4f3_95 : decode cJ6_getChars_ba4f3 95 = .ok (.iload 5, 2) := by decide +kernel
theorem dJ6_getChars_ba4f3_97 : decode cJ6_getChars_ba4f3 97 = .ok (.getstatic 87, 3) := by decide +kernel
theorem dJ6_getChars_ba4f3_100 : decode cJ6_getChars_ba4f3 100 = .ok (.iload_n 0, 1) := by decide +kernel
theorem dJ6_getChars_ba4f3_101 : decode cJ6_getChars_ba4f3 101 = .ok (.ineg, 1) := by decide +kernel
theorem dJ6_getChars_ba4f3_102 : decode cJ6_getChars_ba4f3 102 = .ok (.baload, 1) := by decide +kernel
theorem dJ6_getChars_ba4f3_103 : decode cJ6_getChars_ba4f3 103 = .ok (.bastore, 1) := by decide +kernel
theorem dJ6_getChars_ba4f3_104 : decode cJ6_getChars_ba4f3 104 = .ok (.iload 6, 2) := by decide +kernel
theorem dJ6_getChars_ba4f3_106 : decode cJ6_getChars_ba4f3 106 = .ok (.ifCond .eq 12, 3) := by decide +kernel
theorem dJ6_getChars_ba4f3_118 : decode cJ6_getChars_ba4f3 118 = .ok (.iload 5, 2) := by decide +kernel
theorem dJ6_getChars_ba4f3_120 : decode cJ6_getChars_ba4f3 120 = .ok (.ireturn, 1) := by decide +kernel
theorem dJ6_stringSize_0f7a4_0 : decode cJ6_stringSize_0f7a4 0 = .ok (.iconst 1, 1) := by decide +kernel
theorem dJ6_stringSize_0f7a4_1 : decode cJ6_stringSize_0f7a4 1 = .ok (.istore_n 1, 1) := by decide +kernel
theorem dJ6_stringSize_0f7a4_2 : decode cJ6_stringSize_0f7a4 2 = .ok (.iload_n 0, 1) := by decide +kernel
theorem dJ6_stringSize_0f7a4_3 : decode cJ6_stringSize_0f7a4 3 = .ok (.ifCond .lt 8, 3) := by decide +kernel
theorem dJ6_stringSize_0f7a4_6 : decode cJ6_stringSize_0f7a4 6 = .ok (.iconst 0, 1) := by decide +kernel
theorem dJ6_stringSize_0f7a4_7 : decode cJ6_stringSize_0f7a4 7 = .ok (.istore_n 1, 1) := by decide +kernel
theorem dJ6_stringSize_0f7a4_8 : decode cJ6_stringSize_0f7a4 8 = .ok (.iload_n 0, 1) := by decide +kernel
theorem dJ6_stringSize_0f7a4_9 : decode cJ6_stringSize_0f7a4 9 = .ok (.ineg, 1) := by decide +kernel
theorem dJ6_stringSize_0f7a4_10 : decode cJ6_stringSize_0f7a4 10 = .ok (.istore_n 0, 1) := by decide +kernel
theorem dJ6_stringSize_0f7a4_11 : decode cJ6_stringSize_0f7a4 11 = .ok (.bipush (-10), 2) := by decide +kernel
theorem dJ6_stringSize_0f7a4_13 : decode cJ6_stringSize_0f7a4 13 = .ok (.istore_n 2, 1) := by decide +kernel
theorem dJ6_stringSize_0f7a4_14 : decode cJ6_stringSize_0f7a4 14 = .ok (.iconst 1, 1) := by decide +kernel
theorem dJ6_stringSize_0f7a4_15 : decode cJ6_stringSize_0f7a4 15 = .ok (.istore_n 3, 1) := by decide +kernel
theorem dJ6_stringSize_0f7a4_16 : decode cJ6_stringSize_0f7a4 16 = .ok (.iload_n 3, 1) := by decide +kernel
theorem dJ6_stringSize_0f7a4_17 : decode cJ6_stringSize_0f7a4 17 = .ok (.bipush 10, 2) := by decide +kernel
theorem dJ6_stringSize_0f7a4_19 : decode cJ6_stringSize_0f7a4 19 = .ok (.if_icmp .ge 23, 3) := by decide +kernel
theorem dJ6_stringSize_0f7a4_22 : decode cJ6_stringSize_0f7a4 22 = .ok (.iload_n 0, 1) := by decide +kernel
theorem dJ6_stringSize_0f7a4_23 : decode cJ6_stringSize_0f7a4 23 = .ok (.iload_n 2, 1) := by decide +kernel
theorem dJ6_stringSize_0f7a4_24 : decode cJ6_stringSize_0f7a4 24 = .ok (.if_icmp .le 7, 3) := by decide +kernel
theorem dJ6_stringSize_0f7a4_27 : decode cJ6_stringSize_0f7a4 27 = .ok (.iload_n 3, 1) := by decide +kernel
theorem dJ6_stringSize_0f7a4_28 : decode cJ6_stringSize_0f7a4 28 = .ok (.iload_n 1, 1) := by decide +kernel
theorem dJ6_stringSize_0f7a4_29 : decode cJ6_stringSize_0f7a4 29 = .ok (.iadd, 1) := by decide +kernel
theorem dJ6_stringSize_0f7a4_30 : decode cJ6_stringSize_0f7a4 30 = .ok (.ireturn, 1) := by decide +kernel
theorem dJ6_stringSize_0f7a4_31 : decode cJ6_stringSize_0f7a4 31 = .ok (.bipush 10, 2) := by decide +kernel
theorem dJ6_stringSize_0f7a4_33 : decode cJ6_stringSize_0f7a4 33 = .ok (.iload_n 2, 1) := by decide +kernel
theorem dJ6_stringSize_0f7a4_34 : decode cJ6_stringSize_0f7a4 34 = .ok (.imul, 1) := by decide +kernel
theorem dJ6_stringSize_0f7a4_35 : decode cJ6_stringSize_0f7a4 35 = .ok (.istore_n 2, 1) := by decide +kernel
theorem dJ6_stringSize_0f7a4_36 : decode cJ6_stringSize_0f7a4 36 = .ok (.iinc 3 1, 3) := by decide +kernel
theorem dJ6_stringSize_0f7a4_39 : decode cJ6_stringSize_0f7a4 39 = .ok (.goto (-23), 3) := by decide +kernel
theorem dJ9_floorMod_7cf53_0 : decode cJ9_floorMod_7cf53 0 = .ok (.iload_n 0, 1) := by decide +kernel
theorem dJ9_floorMod_7cf53_1 : decode cJ9_floorMod_7cf53 1 = .ok (.iload_n 1, 1) := by decide +kernel
theorem dJ9_floorMod_7cf53_2 : decode cJ9_floorMod_7cf53 2 = .ok (.irem, 1) := by decide +kernel
theorem dJ9_floorMod_7cf53_3 : decode cJ9_floorMod_7cf53 3 = .ok (.istore_n 2, 1) := by decide +kernel
theorem dJ9_floorMod_7cf53_4 : decode cJ9_floorMod_7cf53 4 = .ok (.iload_n 0, 1) := by decide +kernel
theorem dJ9_floorMod_7cf53_5 : decode cJ9_floorMod_7cf53 5 = .ok (.iload_n 1, 1) := by decide +kernel
theorem dJ9_floorMod_7cf53_6 : decode cJ9_floorMod_7cf53 6 = .ok (.ixor, 1) := by decide +kernel
theorem dJ9_floorMod_7cf53_7 : decode cJ9_floorMod_7cf53 7 = .ok (.ifCond .ge 11, 3) := by decide +kernel
theorem dJ9_floorMod_7cf53_10 : decode cJ9_floorMod_7cf53 10 = .ok (.iload_n 2, 1) := by decide +kernel
theorem dJ9_floorMod_7cf53_11 : decode cJ9_floorMod_7cf53 11 = .ok (.ifCond .eq 7, 3) := by decide +kernel
theorem dJ9_floorMod_7cf53_14 : decode cJ9_floorMod_7cf53 14 = .ok (.iload_n 2, 1) := by decide +kernel
theorem dJ9_floorMod_7cf53_15 : decode cJ9_floorMod_7cf53 15 = .ok (.iload_n 1, 1) := by decide +kernel
theorem dJ9_floorMod_7cf53_16 : decode cJ9_floorMod_7cf53 16 = .ok (.iadd, 1) := by decide +kernel
theorem dJ9_floorMod_7cf53_17 : decode cJ9_floorMod_7cf53 17 = .ok (.ireturn, 1) := by decide +kernel
theorem dJ9_floorMod_7cf53_18 : decode cJ9_floorMod_7cf53 18 = .ok (.iload_n 2, 1) := by decide +kernel
theorem dJ9_floorMod_7cf53_19 : decode cJ9_floorMod_7cf53 19 = .ok (.ireturn, 1) := by decide +kernel
theorem dJ9_max_7cf53_0 : decode cJ9_max_7cf53 0 = .ok (.iload_n 0, 1) := by decide +kernel
theorem dJ9_max_7cf53_1 : decode cJ9_max_7cf53 1 = .ok (.iload_n 1, 1) := by decide +kernel
theorem dJ9_max_7cf53_2 : decode cJ9_max_7cf53 2 = .ok (.if_icmp .lt 7, 3) := by decide +kernel
theorem dJ9_max_7cf53_5 : decode cJ9_max_7cf53 5 = .ok (.iload_n 0, 1) := by decide +kernel
theorem dJ9_max_7cf53_6 : decode cJ9_max_7cf53 6 = .ok (.goto 4, 3) := by decide +kernel
theorem dJ9_max_7cf53_9 : decode cJ9_max_7cf53 9 = .ok (.iload_n 1, 1) := by decide +kernel
theorem dJ9_max_7cf53_10 : decode cJ9_max_7cf53 10 = .ok (.ireturn, 1) := by decide +kernel
theorem dJ9_min_7cf53_0 : decode cJ9_min_7cf53 0 = .ok (.iload_n 0, 1) := by decide +kernel
theorem dJ9_min_7cf53_1 : decode cJ9_min_7cf53 1 = .ok (.iload_n 1, 1) := by decide +kernel
theorem dJ9_min_7cf53_2 : decode cJ9_min_7cf53 2 = .ok (.if_icmp .gt 7, 3) := by decide +kernel
theorem dJ9_min_7cf53_5 : decode cJ9_min_7cf53 5 = .ok (.iload_n 0, 1) := by decide +kernel
theorem dJ9_min_7cf53_6 : decode cJ9_min_7cf53 6 = .ok (.goto 4, 3) := by decide +kernel
theorem dJ9_min_7cf53_9 : decode cJ9_min_7cf53 9 = .ok (.iload_n 1, 1) := by decide +kernel
theorem dJ9_min_7cf53_10 : decode cJ9_min_7cf53 10 = .ok (.ireturn, 1) := by decide +kernel
theorem dJ0_init_81219_0 : decode cJ0_init_81219 0 = .ok (.aload_n 0, 1) := by decide +kernel
theorem dJ0_init_81219_1 : decode cJ0_init_81219 1 = .ok (.aload_n 1, 1) := by decide +kernel
theorem dJ0_init_81219_2 : decode cJ0_init_81219 2 = .ok (.aconst_null, 1) := by decide +kernel
theorem dJ0_init_81219_3 : decode cJ0_init_81219 3 = .ok (.invokespecial 489, 3) := by decide +kernel
theorem dJ0_init_81219_6 : decode cJ0_init_81219 6 = .ok (.return_, 1) := by decide +kernel
theorem dJ0_length_8abf5_0 : decode cJ0_length_8abf5 0 = .ok (.aload_n 0, 1) := by decide +kernel
theorem dJ0_length_8abf5_1 : decode cJ0_length_8abf5 1 = .ok (.getfield 9, 3) := by decide +kernel
theorem dJ0_length_8abf5_4 : decode cJ0_length_8abf5 4 = .ok (.arraylength, 1) := by decide +kernel
theorem dJ0_length_8abf5_5 : decode cJ0_length_8abf5 5 = .ok (.aload_n 0, 1) := by decide +kernel
theorem dJ0_length_8abf5_6 : decode cJ0_length_8abf5 6 = .ok (.invokevirtual 335, 3) := by decide +kernel
theorem dJ0_length_8abf5_9 : decode cJ0_length_8abf5 9 = .ok (.ishr, 1) := by decide +kernel
theorem dJ0_length_8abf5_10 : decode cJ0_length_8abf5 10 = .ok (.ireturn, 1) := by decide +kernel
theorem dJ0_charAt_5068e_0 : decode cJ0_charAt_5068e 0 = .ok (.aload_n 0, 1) := by decide +kernel
theorem dJ0_charAt_5068e_1 : decode cJ0_charAt_5068e 1 = .ok (.invokevirtual 492, 3) := by decide +kernel
theorem dJ0_charAt_5068e_4 : decode cJ0_charAt_5068e 4 = .ok (.ifCond .eq 12, 3) := by decide +kernel
theorem dJ0_charAt_5068e_7 : decode cJ0_charAt_5068e 7 = .ok (.aload_n 0, 1) := by decide +kernel
theorem dJ0_charAt_5068e_8 : decode cJ0_charAt_5068e 8 = .ok (.getfield 9, 3) := by decide +kernel
theorem dJ0_charAt_5068e_11 : decode cJ0_charAt_5068e 11 = .ok (.iload_n 1, 1) := by decide +kernel
theorem dJ0_charAt_5068e_12 : decode cJ0_charAt_5068e 12 = .ok (.invokestatic 495, 3) := by decide +kernel
theorem dJ0_charAt_5068e_15 : decode cJ0_charAt_5068e 15 = .ok (.ireturn, 1) := by decide +kernel
theorem dJ0_getBytes_840e7_0 : decode cJ0_getBytes_840e7 0 = .ok (.aload_n 0, 1) := by decide +kernel
theorem dJ0_getBytes_840e7_1 : decode cJ0_getBytes_840e7 1 = .ok (.invokevirtual 335, 3) := by decide +kernel
theorem dJ0_getBytes_840e7_4 : decode cJ0_getBytes_840e7 4 = .ok (.iload_n 3, 1) := by decide +kernel
theorem dJ0_getBytes_840e7_5 : decode cJ0_getBytes_840e7 5 = .ok (.if_icmp .ne 23, 3) := by decide +kernel
theorem dJ0_getBytes_840e7_8 : decode cJ0_getBytes_840e7 8 = .ok (.aload_n 0, 1) := by decide +kernel
theorem dJ0_getBytes_840e7_9 : decode cJ0_getBytes_840e7 9 = .ok (.getfield 9, 3) := by decide +kernel
theorem dJ0_getBytes_840e7_12 : decode cJ0_getBytes_840e7 12 = .ok (.iconst 0, 1) := by decide +kernel
theorem dJ0_getBytes_840e7_13 : decode cJ0_getBytes_840e7 13 = .ok (.aload_n 1, 1) := by decide +kernel
theorem dJ0_getBytes_840e7_14 : decode cJ0_getBytes_840e7 14 = .ok (.iload_n 2, 1) := by decide +kernel
theorem dJ0_getBytes_840e7_15 : decode cJ0_getBytes_840e7 15 = .ok (.iload_n 3, 1) := by decide +kernel
theorem dJ0_getBytes_840e7_16 : decode cJ0_getBytes_840e7 16 = .ok (.ishl, 1) := by decide +kernel
theorem dJ0_getBytes_840e7_17 : decode cJ0_getBytes_840e7 17 = .ok (.aload_n 0, 1) := by decide +kernel
theorem dJ0_getBytes_840e7_18 : decode cJ0_getBytes_840e7 18 = .ok (.getfield 9, 3) := by decide +kernel
theorem dJ0_getBytes_840e7_21 : decode cJ0_getBytes_840e7 21 = .ok (.arraylength, 1) := by decide +kernel
theorem dJ0_getBytes_840e7_22 : decode cJ0_getBytes_840e7 22 = .ok (.invokestatic 212, 3) := by decide +kernel
theorem dJ0_getBytes_840e7_25 : decode cJ0_getBytes_840e7 25 = .ok (.goto 18, 3) := by decide +kernel
theorem dJ0_getBytes_840e7_43 : decode cJ0_getBytes_840e7 43 = .ok (.return_, 1) := by decide +kernel
theorem dJ0_init_db425_0 : decode cJ0_init_db425 0 = .ok (.aload_n 0, 1) := by decide +kernel
theorem dJ0_init_db425_1 : decode cJ0_init_db425 1 = .ok (.invokespecial 1, 3) := by decide +kernel
theorem dJ0_init_db425_4 : decode cJ0_init_db425 4 = .ok (.aload_n 1, 1) := by decide +kernel
theorem dJ0_init_db425_5 : decode cJ0_init_db425 5 = .ok (.invokevirtual 552, 3) := by decide +kernel
theorem dJ0_init_db425_8 : decode cJ0_init_db425 8 = .ok (.astore_n 3, 1) := by decide +kernel
theorem dJ0_init_db425_9 : decode cJ0_init_db425 9 = .ok (.aload_n 1, 1) := by decide +kernel
theorem dJ0_init_db425_10 : decode cJ0_init_db425 10 = .ok (.invokevirtual 549, 3) := by decide +kernel
theorem dJ0_init_db425_13 : decode cJ0_init_db425 13 = .ok (.istore 4, 2) := by decide +kernel
theorem dJ0_init_db425_15 : decode cJ0_init_db425 15 = .ok (.aload_n 1, 1) := by decide +kernel
theorem dJ0_init_db425_16 : decode cJ0_init_db425 16 = .ok (.invokevirtual 1047, 3) := by decide +kernel
theorem dJ0_init_db425_19 : decode cJ0_init_db425 19 = .ok (.ifCond .eq 22, 3) := by decide +kernel
theorem dJ0_init_db425_22 : decode cJ0_init_db425 22 = .ok (.aload_n 0, 1) := by decide +kernel
theorem dJ0_init_db425_23 : decode cJ0_init_db425 23 = .ok (.iconst 0, 1) := by decide +kernel
theorem dJ0_init_db425_24 : decode cJ0_init_db425 24 = .ok (.putfield 15, 3) := by decide +kernel
theorem dJ0_init_db425_27 : decode cJ0_init_db425 27 = .ok (.aload_n 0, 1) := by decide +kernel
theorem dJ0_init_db425_28 : decode cJ0_init_db425 28 = .ok (.aload_n 3, 1) := by decide +kernel
theorem dJ0_init_db425_29 : decode cJ0_init_db425 29 = .ok (.iconst 0, 1) := by decide +kernel
theorem dJ0_init_db425_30 : decode cJ0_init_db425 30 = .ok (.iload 4, 2) := by decide +kernel
theorem dJ0_init_db425_32 : decode cJ0_init_db425 32 = .ok (.invokestatic 54, 3) := by decide +kernel
theorem dJ0_init_db425_35 : decode cJ0_init_db425 35 = .ok (.putfield 9, 3) := by decide +kernel
theorem dJ0_init_db425_38 : decode cJ0_init_db425 38 = .ok (.goto 59, 3) := by decide +kernel
theorem dJ0_init_db425_97 : decode cJ0_init_db425 97 = .ok (.return_, 1) := by decide +kernel
theorem dJ0_coder_7d493_0 : decode cJ0_coder_7d493 0 = .ok (.getstatic 38, 3) := by decide +kernel
theorem dJ0_coder_7d493_3 : decode cJ0_coder_7d493 3 = .ok (.ifCond .eq 10, 3) := by decide +kernel
theorem dJ0_coder_7d493_6 : decode cJ0_coder_7d493 6 = .ok (.aload_n 0, 1) := by decide +kernel
theorem dJ0_coder_7d493_7 : decode cJ0_coder_7d493 7 = .ok (.getfield 15, 3) := by decide +kernel
theorem dJ0_coder_7d493_10 : decode cJ0_coder_7d493 10 = .ok (.goto 4, 3) := by decide +kernel
theorem dJ0_coder_7d493_14 : decode cJ0_coder_7d493 14 = .ok (.ireturn, 1) := by decide +kernel
theorem dJ0_isLatin1_aae02_0 : decode cJ0_isLatin1_aae02 0 = .ok (.getstatic 38, 3) := by decide +kernel
theorem dJ0_isLatin1_aae02_3 : decode cJ0_isLatin1_aae02 3 = .ok (.ifCond .eq 14, 3) := by decide +kernel
theorem dJ0_isLatin1_aae02_6 : decode cJ0_isLatin1_aae02 6 = .ok (.aload_n 0, 1) := by decide +kernel
theorem dJ0_isLatin1_aae02_7 : decode cJ0_isLatin1_aae02 7 = .ok (.getfield 15, 3) := by decide +kernel
theorem dJ0_isLatin1_aae02_10 : decode cJ0_isLatin1_aae02 10 = .ok (.ifCond .ne 7, 3) := by decide +kernel
theorem dJ0_isLatin1_aae02_13 : decode cJ0_isLatin1_aae02 13 = .ok (.iconst 1, 1) := by decide +kernel
theorem dJ0_isLatin1_aae02_14 : decode cJ0_isLatin1_aae02 14 = .ok (.goto 4, 3) := by decide +kernel
theorem dJ0_isLatin1_aae02_18 : decode cJ0_isLatin1_aae02 18 = .ok (.ireturn, 1) := by decide +kernel
theorem dJ0_checkIndex_df160_0 : decode cJ0_checkIndex_df160 0 = .ok (.iload_n 0, 1) := by decide +kernel
theorem dJ0_checkIndex_df160_1 : decode cJ0_checkIndex_df160 1 = .ok (.iload_n 1, 1) := by decide +kernel
theorem dJ0_checkIndex_df160_2 : decode cJ0_checkIndex_df160 2 = .ok (.getstatic 1053, 3) := by decide +kernel
theorem dJ0_checkIndex_df160_5 : decode cJ0_checkIndex_df160 5 = .ok (.invokestatic 1059, 3) := by decide +kernel
theorem dJ0_checkIndex_df160_8 : decode cJ0_checkIndex_df160 8 = .ok (.pop, 1) := by decide +kernel
theorem dJ0_checkIndex_df160_9 : decode cJ0_checkIndex_df160 9 = .ok (.return_, 1) := by decide +kernel
theorem dJ4_init_da8c8_0 : decode cJ4_init_da8c8 0 = .ok (.aload_n 0, 1) := by decide +kernel
theorem dJ4_init_da8c8_1 : decode cJ4_init_da8c8 1 = .ok (.bipush 16, 2) := by decide +kernel
theorem dJ4_init_da8c8_3 : decode cJ4_init_da8c8 3 = .ok (.invokespecial 1, 3) := by decide +kernel
theorem dJ4_init_da8c8_6 : decode cJ4_init_da8c8 6 = .ok (.return_, 1) := by decide +kernel
theorem dJ4_append_15ec4_0 : decode cJ4_append_15ec4 0 = .ok (.aload_n 0, 1) := by decide +kernel
theorem dJ4_append_15ec4_1 : decode cJ4_append_15ec4 1 = .ok (.aload_n 1, 1) := by decide +kernel
theorem dJ4_append_15ec4_2 : decode cJ4_append_15ec4 2 = .ok (.invokespecial 29, 3) := by decide +kernel
theorem dJ4_append_15ec4_5 : decode cJ4_append_15ec4 5 = .ok (.pop, 1) := by decide +kernel
theorem dJ4_append_15ec4_6 : decode cJ4_append_15ec4 6 = .ok (.aload_n 0, 1) := by decide +kernel
theorem dJ4_append_15ec4_7 : decode cJ4_append_15ec4 7 = .ok (.areturn, 1) := by decide +kernel
theorem dJ4_append_cf468_0 : decode cJ4_append_cf468 0 = .ok (.aload_n 0, 1) := by decide +kernel
theorem dJ4_append_cf468_1 : decode cJ4_append_cf468 1 = .ok (.iload_n 1, 1) := by decide +kernel
theorem dJ4_append_cf468_2 : decode cJ4_append_cf468 2 = .ok (.invokespecial 50, 3) := by decide +kernel
theorem dJ4_append_cf468_5 : decode cJ4_append_cf468 5 = .ok (.pop, 1) := by decide +kernel
theorem dJ4_append_cf468_6 : decode cJ4_append_cf468 6 = .ok (.aload_n 0, 1) := by decide +kernel
theorem dJ4_append_cf468_7 : decode cJ4_append_cf468 7 = .ok (.areturn, 1) := by decide +kernel
theorem dJ4_append_bf812_0 : decode cJ4_append_bf812 0 = .ok (.aload_n 0, 1) := by decide +kernel
theorem dJ4_append_bf812_1 : decode cJ4_append_bf812 1 = .ok (.iload_n 1, 1) := by decide +kernel
theorem dJ4_append_bf812_2 : decode cJ4_append_bf812 2 = .ok (.invokespecial 53, 3) := by decide +kernel
theorem dJ4_append_bf812_5 : decode cJ4_append_bf812 5 = .ok (.pop, 1) := by decide +kernel
theorem dJ4_append_bf812_6 : decode cJ4_append_bf812 6 = .ok (.aload_n 0, 1) := by decide +kernel
theorem dJ4_append_bf812_7 : decode cJ4_append_bf812 7 = .ok (.areturn, 1) := by decide +kernel
theorem dJ4_toString_0e30d_0 : decode cJ4_toString_0e30d 0 = .ok (.new 18, 3) := by decide +kernel
theorem dJ4_toString_0e30d_3 : decode cJ4_toString_0e30d 3 = .ok (.dup, 1) := by decide +kernel
theorem dJ4_toString_0e30d_4 : decode cJ4_toString_0e30d 4 = .ok (.aload_n 0, 1) := by decide +kernel
theorem dJ4_toString_0e30d_5 : decode cJ4_toString_0e30d 5 = .ok (.invokespecial 137, 3) := by decide +kernel
theorem dJ4_toString_0e30d_8 : decode cJ4_toString_0e30d 8 = .ok (.areturn, 1) := by decide +kernel
theorem dJ4_charAt_5068e_0 : decode cJ4_charAt_5068e 0 = .ok (.aload_n 0, 1) := by decide +kernel
theorem dJ4_charAt_5068e_1 : decode cJ4_charAt_5068e 1 = .ok (.iload_n 1, 1) := by decide +kernel
theorem dJ4_charAt_5068e_2 : decode cJ4_charAt_5068e 2 = .ok (.invokespecial 329, 3) := by decide +kernel
theorem dJ4_charAt_5068e_5 : decode cJ4_charAt_5068e 5 = .ok (.ireturn, 1) := by decide +kernel
theorem dJ4_setLength_d00df_0 : decode cJ4_setLength_d00df 0 = .ok (.aload_n 0, 1) := by decide +kernel
theorem dJ4_setLength_d00df_1 : decode cJ4_setLength_d00df 1 = .ok (.iload_n 1, 1) := by decide +kernel
theorem dJ4_setLength_d00df_2 : decode cJ4_setLength_d00df 2 = .ok (.invokespecial 333, 3) := by decide +kernel
theorem dJ4_setLength_d00df_5 : decode cJ4_setLength_d00df 5 = .ok (.return_, 1) := by decide +kernel
theorem dJ4_length_8abf5_0 : decode cJ4_length_8abf5 0 = .ok (.aload_n 0, 1) := by decide +kernel
theorem dJ4_length_8abf5_1 : decode cJ4_length_8abf5 1 = .ok (.invokespecial 343, 3) := by decide +kernel
theorem dJ4_length_8abf5_4 : decode cJ4_length_8abf5 4 = .ok (.ireturn, 1) := by decide +kernel
theorem dJ1_charAt_3b067_0 : decode cJ1_charAt_3b067 0 = .ok (.iload_n 1, 1) := by decide +kernel
theorem dJ1_charAt_3b067_1 : decode cJ1_charAt_3b067 1 = .ok (.aload_n 0, 1) := by decide +kernel
theorem dJ1_charAt_3b067_2 : decode cJ1_charAt_3b067 2 = .ok (.arraylength, 1) := by decide +kernel
theorem dJ1_charAt_3b067_3 : decode cJ1_charAt_3b067 3 = .ok (.invokestatic 9, 3) := by decide +kernel
theorem dJ1_charAt_3b067_6 : decode cJ1_charAt_3b067 6 = .ok (.aload_n 0, 1) := by decide +kernel
theorem dJ1_charAt_3b067_7 : decode cJ1_charAt_3b067 7 = .ok (.iload_n 1, 1) := by decide +kernel
theorem dJ1_charAt_3b067_8 : decode cJ1_charAt_3b067 8 = .ok (.baload, 1) := by decide +kernel
theorem dJ1_charAt_3b067_9 : decode cJ1_charAt_3b067 9 = .ok (.sipush 255, 3) := by decide +kernel
theorem dJ1_charAt_3b067_12 : decode cJ1_charAt_3b067 12 = .ok (.iand, 1) := by decide +kernel
theorem dJ1_charAt_3b067_13 : decode cJ1_charAt_3b067 13 = .ok (.i2c, 1) := by decide +kernel
theorem dJ1_charAt_3b067_14 : decode cJ1_charAt_3b067 14 = .ok (.ireturn, 1) := by decide +kernel
theorem dJ1_canEncode_fc78d_0 : decode cJ1_canEncode_fc78d 0 = .ok (.iload_n 0, 1) := by decide +kernel
theorem dJ1_canEncode_fc78d_1 : decode cJ1_canEncode_fc78d 1 = .ok (.sipush 255, 3) := by decide +kernel
theorem dJ1_canEncode_fc78d_4 : decode cJ1_canEncode_fc78d 4 = .ok (.if_icmp .gt 7, 3) := by decide +kernel
theorem dJ1_canEncode_fc78d_7 : decode cJ1_canEncode_fc78d 7 = .ok (.iconst 1, 1) := by decide +kernel
theorem dJ1_canEncode_fc78d_8 : decode cJ1_canEncode_fc78d 8 = .ok (.goto 4, 3) := by decide +kernel
theorem dJ1_canEncode_fc78d_12 : decode cJ1_canEncode_fc78d 12 = .ok (.ireturn, 1) := by decide +kernel
theorem dJ7_copyOf_9075b_0 : decode cJ7_copyOf_9075b 0 = .ok (.iload_n 1, 1) := by decide +kernel
theorem dJ7_copyOf_9075b_1 : decode cJ7_copyOf_9075b 1 = .ok (.aload_n 0, 1) := by decide +kernel
theorem dJ7_copyOf_9075b_2 : decode cJ7_copyOf_9075b 2 = .ok (.arraylength, 1) := by decide +kernel
theorem dJ7_copyOf_9075b_3 : decode cJ7_copyOf_9075b 3 = .ok (.if_icmp .ne 11, 3) := by decide +kernel
theorem dJ7_copyOf_9075b_14 : decode cJ7_copyOf_9075b 14 = .ok (.iload_n 1, 1) := by decide +kernel
theorem dJ7_copyOf_9075b_15 : decode cJ7_copyOf_9075b 15 = .ok (.newarray .byte, 2) := by decide +kernel
theorem dJ7_copyOf_9075b_17 : decode cJ7_copyOf_9075b 17 = .ok (.astore_n 2, 1) := by decide +kernel
theorem dJ7_copyOf_9075b_18 : decode cJ7_copyOf_9075b 18 = .ok (.aload_n 0, 1) := by decide +kernel
theorem dJ7_copyOf_9075b_19 : decode cJ7_copyOf_9075b 19 = .ok (.iconst 0, 1) := by decide +kernel
theorem dJ7_copyOf_9075b_20 : decode cJ7_copyOf_9075b 20 = .ok (.aload_n 2, 1) := by decide +kernel
theorem dJ7_copyOf_9075b_21 : decode cJ7_copyOf_9075b 21 = .ok (.iconst 0, 1) := by decide +kernel
theorem dJ7_copyOf_9075b_22 : decode cJ7_copyOf_9075b 22 = .ok (.aload_n 0, 1) := by decide +kernel
theorem dJ7_copyOf_9075b_23 : decode cJ7_copyOf_9075b 23 = .ok (.arraylength, 1) := by decide +kernel
theorem dJ7_copyOf_9075b_24 : decode cJ7_copyOf_9075b 24 = .ok (.iload_n 1, 1) := by decide +kernel
theorem dJ7_copyOf_9075b_25 : decode cJ7_copyOf_9075b 25 = .ok (.invokestatic 304, 3) := by decide +kernel
theorem dJ7_copyOf_9075b_28 : decode cJ7_copyOf_9075b 28 = .ok (.invokestatic 150, 3) := by decide +kernel
theorem dJ7_copyOf_9075b_31 : decode cJ7_copyOf_9075b 31 = .ok (.aload_n 2, 1) := by decide +kernel
theorem dJ7_copyOf_9075b_32 : decode cJ7_copyOf_9075b 32 = .ok (.areturn, 1) := by decide +kernel
theorem dJ7_checkLength_df160_0 : decode cJ7_checkLength_df160 0 = .ok (.iload_n 1, 1) := by decide +kernel
theorem dJ7_checkLength_df160_1 : decode cJ7_checkLength_df160 1 = .ok (.iload_n 0, 1) := by decide +kernel
theorem dJ7_checkLength_df160_2 : decode cJ7_checkLength_df160 2 = .ok (.if_icmp .ge 35, 3) := by decide +kernel
theorem dJ7_checkLength_df160_37 : decode cJ7_checkLength_df160 37 = .ok (.return_, 1) := by decide +kernel
theorem dJ7_copyOfRange_39247_0 : decode cJ7_copyOfRange_39247 0 = .ok (.iload_n 1, 1) := by decide +kernel
theorem dJ7_copyOfRange_39247_1 : decode cJ7_copyOfRange_39247 1 = .ok (.ifCond .ne 9, 3) := by decide +kernel
theorem dJ7_copyOfRange_39247_4 : decode cJ7_copyOfRange_39247 4 = .ok (.iload_n 2, 1) := by decide +kernel
theorem dJ7_copyOfRange_39247_5 : decode cJ7_copyOfRange_39247 5 = .ok (.aload_n 0, 1) := by decide +kernel
theorem dJ7_copyOfRange_39247_6 : decode cJ7_copyOfRange_39247 6 = .ok (.arraylength, 1) := by decide +kernel
theorem dJ7_copyOfRange_39247_7 : decode cJ7_copyOfRange_39247 7 = .ok (.if_icmp .eq 10, 3) := by decide +kernel
theorem dJ7_copyOfRange_39247_10 : decode cJ7_copyOfRange_39247 10 = .ok (.aload_n 0, 1) := by decide +kernel
theorem dJ7_copyOfRange_39247_11 : decode cJ7_copyOfRange_39247 11 = .ok (.iload_n 1, 1) := by decide +kernel
theorem dJ7_copyOfRange_39247_12 : decode cJ7_copyOfRange_39247 12 = .ok (.iload_n 2, 1) := by decide +kernel
theorem dJ7_copyOfRange_39247_13 : decode cJ7_copyOfRange_39247 13 = .ok (.invokestatic 339, 3) := by decide +kernel
theorem dJ7_copyOfRange_39247_16 : decode cJ7_copyOfRange_39247 16 = .ok (.areturn, 1) := by decide +kernel
theorem dJ7_copyOfRangeByte_39247_0 : decode cJ7_copyOfRangeByte_39247 0 = .ok (.iload_n 1, 1) := by decide +kernel
theorem dJ7_copyOfRangeByte_39247_1 : decode cJ7_copyOfRangeByte_39247 1 = .ok (.iload_n 2, 1) := by decide +kernel
theorem dJ7_copyOfRangeByte_39247_2 : decode cJ7_copyOfRangeByte_39247 2 = .ok (.invokestatic 343, 3) := by decide +kernel
theorem dJ7_copyOfRangeByte_39247_5 : decode cJ7_copyOfRangeByte_39247 5 = .ok (.iload_n 2, 1) := by decide +kernel
theorem dJ7_copyOfRangeByte_39247_6 : decode cJ7_copyOfRangeByte_39247 6 = .ok (.iload_n 1, 1) := by decide +kernel
theorem dJ7_copyOfRangeByte_39247_7 : decode cJ7_copyOfRangeByte_39247 7 = .ok (.isub, 1) := by decide +kernel
theorem dJ7_copyOfRangeByte_39247_8 : decode cJ7_copyOfRangeByte_39247 8 = .ok (.istore_n 3, 1) := by decide +kernel
theorem dJ7_copyOfRangeByte_39247_9 : decode cJ7_copyOfRangeByte_39247 9 = .ok (.iload_n 3, 1) := by decide +kernel
theorem dJ7_copyOfRangeByte_39247_10 : decode cJ7_copyOfRangeByte_39247 10 = .ok (.newarray .byte, 2) := by decide +kernel
theorem dJ7_copyOfRangeByte_39247_12 : decode cJ7_copyOfRangeByte_39247 12 = .ok (.astore 4, 2) := by decide +kernel
theorem dJ7_copyOfRangeByte_39247_14 : decode cJ7_copyOfRangeByte_39247 14 = .ok (.aload_n 0, 1) := by decide +kernel
theorem dJ7_copyOfRangeByte_39247_15 : decode cJ7_copyOfRangeByte_39247 15 = .ok (.iload_n 1, 1) := by decide +kernel
theorem dJ7_copyOfRangeByte_39247_16 : decode cJ7_copyOfRangeByte_39247 16 = .ok (.aload 4, 2) := by decide +kernel
theorem dJ7_copyOfRangeByte_39247_18 : decode cJ7_copyOfRangeByte_39247 18 = .ok (.iconst 0, 1) := by decide +kernel
theorem dJ7_copyOfRangeByte_39247_19 : decode cJ7_copyOfRangeByte_39247 19 = .ok (.aload_n 0, 1) := by decide +kernel
theorem dJ7_copyOfRangeByte_39247_20 : decode cJ7_copyOfRangeByte_39247 20 = .ok (.arraylength, 1) := by decide +kernel
theorem dJ7_copyOfRangeByte_39247_21 : decode cJ7_copyOfRangeByte_39247 21 = .ok (.iload_n 1, 1) := by decide +kernel
theorem dJ7_copyOfRangeByte_39247_22 : decode cJ7_copyOfRangeByte_39247 22 = .ok (.isub, 1) := by decide +kernel
theorem dJ7_copyOfRangeByte_39247_23 : decode cJ7_copyOfRangeByte_39247 23 = .ok (.iload_n 3, 1) := by decide +kernel
theorem dJ7_copyOfRangeByte_39247_24 : decode cJ7_copyOfRangeByte_39247 24 = .ok (.invokestatic 304, 3) := by decide +kernel
theorem dJ7_copyOfRangeByte_39247_27 : decode cJ7_copyOfRangeByte_39247 27 = .ok (.invokestatic 150, 3) := by decide +kernel
theorem dJ7_copyOfRangeByte_39247_30 : decode cJ7_copyOfRangeByte_39247 30 = .ok (.aload 4, 2) := by decide +kernel
theorem dJ7_copyOfRangeByte_39247_32 : decode cJ7_copyOfRangeByte_39247 32 = .ok (.areturn, 1) := by decide +kernel
theorem dJ8_newLength_cabcc_0 : decode cJ8_newLength_cabcc 0 = .ok (.iload_n 0, 1) := by decide +kernel
theorem dJ8_newLength_cabcc_1 : decode cJ8_newLength_cabcc 1 = .ok (.iload_n 1, 1) := by decide +kernel
theorem dJ8_newLength_cabcc_2 : decode cJ8_newLength_cabcc 2 = .ok (.iload_n 2, 1) := by decide +kernel
theorem dJ8_newLength_cabcc_3 : decode cJ8_newLength_cabcc 3 = .ok (.invokestatic 194, 3) := by decide +kernel
theorem dJ8_newLength_cabcc_6 : decode cJ8_newLength_cabcc 6 = .ok (.iadd, 1) := by decide +kernel
theorem dJ8_newLength_cabcc_7 : decode cJ8_newLength_cabcc 7 = .ok (.istore_n 3, 1) := by decide +kernel
theorem dJ8_newLength_cabcc_8 : decode cJ8_newLength_cabcc 8 = .ok (.iconst 0, 1) := by decide +kernel
theorem dJ8_newLength_cabcc_9 : decode cJ8_newLength_cabcc 9 = .ok (.iload_n 3, 1) := by decide +kernel
theorem dJ8_newLength_cabcc_10 : decode cJ8_newLength_cabcc 10 = .ok (.if_icmp .ge 11, 3) := by decide +kernel
theorem dJ8_newLength_cabcc_13 : decode cJ8_newLength_cabcc 13 = .ok (.iload_n 3, 1) := by decide +kernel
theorem dJ8_newLength_cabcc_14 : decode cJ8_newLength_cabcc 14 = .ok (.ldc 200, 2) := by decide +kernel
theorem dJ8_newLength_cabcc_16 : decode cJ8_newLength_cabcc 16 = .ok (.if_icmp .gt 5, 3) := by decide +kernel
theorem dJ8_newLength_cabcc_19 : decode cJ8_newLength_cabcc 19 = .ok (.iload_n 3, 1) := by decide +kernel
theorem dJ8_newLength_cabcc_20 : decode cJ8_newLength_cabcc 20 = .ok (.ireturn, 1) := by decide +kernel
theorem dJ3_checkIndex_8e157_0 : decode cJ3_checkIndex_8e157 0 = .ok (.iload_n 0, 1) := by decide +kernel
theorem dJ3_checkIndex_8e157_1 : decode cJ3_checkIndex_8e157 1 = .ok (.ifCond .lt 8, 3) := by decide +kernel
theorem dJ3_checkIndex_8e157_4 : decode cJ3_checkIndex_8e157 4 = .ok (.iload_n 0, 1) := by decide +kernel
theorem dJ3_checkIndex_8e157_5 : decode cJ3_checkIndex_8e157 5 = .ok (.iload_n 1, 1) := by decide +kernel
theorem dJ3_checkIndex_8e157_6 : decode cJ3_checkIndex_8e157 6 = .ok (.if_icmp .lt 10, 3) := by decide +kernel
theorem dJ3_checkIndex_8e157_16 : decode cJ3_checkIndex_8e157 16 = .ok (.iload_n 0, 1) := by decide +kernel
theorem dJ3_checkIndex_8e157_17 : decode cJ3_checkIndex_8e157 17 = .ok (.ireturn, 1) := by decide +kernel
theorem dL_addCopies_0 : decode cL_addCopies 0 = .ok (.aload 5, 2) := by decide +kernel
theorem dL_addCopies_2 : decode cL_addCopies 2 = .ok (.aload_n 0, 1) := by decide +kernel
theorem dL_addCopies_3 : decode cL_addCopies 3 = .ok (.iload_n 1, 1) := by decide +kernel
theorem dL_addCopies_4 : decode cL_addCopies 4 = .ok (.iload_n 2, 1) := by decide +kernel
theorem dL_addCopies_5 : decode cL_addCopies 5 = .ok (.iload_n 3, 1) := by decide +kernel
theorem dL_addCopies_6 : decode cL_addCopies 6 = .ok (.iload 4, 2) := by decide +kernel
theorem dL_addCopies_8 : decode cL_addCopies 8 = .ok (.invokevirtual 44, 3) := by decide +kernel
theorem dL_addCopies_11 : decode cL_addCopies 11 = .ok (.i2l, 1) := by decide +kernel
theorem dL_addCopies_12 : decode cL_addCopies 12 = .ok (.putfield 13, 3) := by decide +kernel
theorem dL_addCopies_15 : decode cL_addCopies 15 = .ok (.goto 15, 3) := by decide +kernel
theorem dL_addCopies_30 : decode cL_addCopies 30 = .ok (.iconst 0, 1) := by decide +kernel
theorem dL_addCopies_31 : decode cL_addCopies 31 = .ok (.ireturn, 1) := by decide +kernel
theorem dL_part_0 : decode cL_part 0 = .ok (.aload 5, 2) := by decide +kernel
theorem dL_part_2 : decode cL_part 2 = .ok (.aload_n 0, 1) := by decide +kernel
theorem dL_part_3 : decode cL_part 3 = .ok (.iload_n 1, 1) := by decide +kernel
theorem dL_part_4 : decode cL_part 4 = .ok (.iload_n 2, 1) := by decide +kernel
theorem dL_part_5 : decode cL_part 5 = .ok (.iload_n 3, 1) := by decide +kernel
theorem dL_part_6 : decode cL_part 6 = .ok (.iload 4, 2) := by decide +kernel
theorem dL_part_8 : decode cL_part 8 = .ok (.invokevirtual 123, 3) := by decide +kernel
theorem dL_part_11 : decode cL_part 11 = .ok (.i2l, 1) := by decide +kernel
theorem dL_part_12 : decode cL_part 12 = .ok (.putfield 13, 3) := by decide +kernel
theorem dL_part_15 : decode cL_part 15 = .ok (.goto 7, 3) := by decide +kernel
theorem dL_part_22 : decode cL_part 22 = .ok (.iconst 0, 1) := by decide +kernel
theorem dL_part_23 : decode cL_part 23 = .ok (.ireturn, 1) := by decide +kernel
theorem dL_law_0 : decode cL_law 0 = .ok (.new 8, 3) := by decide +kernel
theorem dL_law_3 : decode cL_law 3 = .ok (.dup, 1) := by decide +kernel
theorem dL_law_4 : decode cL_law 4 = .ok (.invokespecial 180, 3) := by decide +kernel
theorem dL_law_7 : decode cL_law 7 = .ok (.astore_n 1, 1) := by decide +kernel
theorem dL_law_8 : decode cL_law 8 = .ok (.new 181, 3) := by decide +kernel
theorem dL_law_11 : decode cL_law 11 = .ok (.dup, 1) := by decide +kernel
theorem dL_law_12 : decode cL_law 12 = .ok (.invokespecial 183, 3) := by decide +kernel
theorem dL_law_15 : decode cL_law 15 = .ok (.astore_n 2, 1) := by decide +kernel
theorem dL_law_16 : decode cL_law 16 = .ok (.new 14, 3) := by decide +kernel
theorem dL_law_19 : decode cL_law 19 = .ok (.dup, 1) := by decide +kernel
theorem dL_law_20 : decode cL_law 20 = .ok (.invokespecial 184, 3) := by decide +kernel
theorem dL_law_23 : decode cL_law 23 = .ok (.astore_n 3, 1) := by decide +kernel
theorem dL_law_24 : decode cL_law 24 = .ok (.iconst 0, 1) := by decide +kernel
theorem dL_law_25 : decode cL_law 25 = .ok (.istore 4, 2) := by decide +kernel
theorem dL_law_27 : decode cL_law 27 = .ok (.iload 4, 2) := by decide +kernel
theorem dL_law_29 : decode cL_law 29 = .ok (.aload_n 0, 1) := by decide +kernel
theorem dL_law_30 : decode cL_law 30 = .ok (.arraylength, 1) := by decide +kernel
theorem dL_law_31 : decode cL_law 31 = .ok (.bipush 6, 2) := by decide +kernel
theorem dL_law_33 : decode cL_law 33 = .ok (.isub, 1) := by decide +kernel
theorem dL_law_34 : decode cL_law 34 = .ok (.if_icmp .gt 2500, 3) := by decide +kernel
theorem dL_law_37 : decode cL_law 37 = .ok (.aload_n 0, 1) := by decide +kernel
theorem dL_law_38 : decode cL_law 38 = .ok (.iload 4, 2) := by decide +kernel
theorem dL_law_40 : decode cL_law 40 = .ok (.iaload, 1) := by decide +kernel
theorem dL_law_41 : decode cL_law 41 = .ok (.bipush 63, 2) := by decide +kernel
theorem dL_law_43 : decode cL_law 43 = .ok (.iand, 1) := by decide +kernel
theorem dL_law_44 : decode cL_law 44 = .ok (.tableswitch 2484 0 50 #[220, 301, 365, 405, 469, 497, 573, 637, 677, 717, 769, 845, 873, 913, 965, 1021, 1049, 1077, 1145, 1197, 1277, 1317, 1357, 1397, 1453, 1509, 1549, 1577, 1617, 1681, 1745, 1809, 1837, 1865, 1929, 1957, 1997, 2049, 2077, 2105, 2133, 2201, 2253, 2281, 2333, 2361, 2389, 2417, 2445, 2458, 2471], 220) := by decide +kernel
theorem dL_law_617 : decode cL_law 617 = .ok (.aload_n 1, 1) := by decide +kernel
theorem dL_law_618 : decode cL_law 618 = .ok (.aload_n 0, 1) := by decide +kernel
theorem dL_law_619 : decode cL_law 619 = .ok (.iload 4, 2) := by decide +kernel
theorem dL_law_621 : decode cL_law 621 = .ok (.iconst 1, 1) := by decide +kernel
theorem dL_law_622 : decode cL_law 622 = .ok (.iadd, 1) := by decide +kernel
theorem dL_law_623 : decode cL_law 623 = .ok (.iaload, 1) := by decide +kernel
theorem dL_law_624 : decode cL_law 624 = .ok (.aload_n 0, 1) := by decide +kernel
theorem dL_law_625 : decode cL_law 625 = .ok (.iload 4, 2) := by decide +kernel
theorem dL_law_627 : decode cL_law 627 = .ok (.iconst 2, 1) := by decide +kernel
theorem dL_law_628 : decode cL_law 628 = .ok (.iadd, 1) := by decide +kernel
theorem dL_law_629 : decode cL_law 629 = .ok (.iaload, 1) := by decide +kernel
theorem dL_law_630 : decode cL_law 630 = .ok (.aload_n 0, 1) := by decide +kernel
theorem dL_law_631 : decode cL_law 631 = .ok (.iload 4, 2) := by decide +kernel
theorem dL_law_633 : decode cL_law 633 = .ok (.iconst 3, 1) := by decide +kernel
theorem dL_law_634 : decode cL_law 634 = .ok (.iadd, 1) := by decide +kernel
theorem dL_law_635 : decode cL_law 635 = .ok (.iaload, 1) := by decide +kernel
theorem dL_law_636 : decode cL_law 636 = .ok (.aload_n 0, 1) := by decide +kernel
theorem dL_law_637 : decode cL_law 637 = .ok (.iload 4, 2) := by decide +kernel
theorem dL_law_639 : decode cL_law 639 = .ok (.iconst 4, 1) := by decide +kernel
theorem dL_law_640 : decode cL_law 640 = .ok (.iadd, 1) := by decide +kernel
theorem dL_law_641 : decode cL_law 641 = .ok (.iaload, 1) := by decide +kernel
theorem dL_law_642 : decode cL_law 642 = .ok (.aload_n 3, 1) := by decide +kernel
theorem dL_law_643 : decode cL_law 643 = .ok (.invokestatic 214, 3) := by decide +kernel
theorem dL_law_646 : decode cL_law 646 = .ok (.istore 5, 2) := by decide +kernel
theorem dL_law_648 : decode cL_law 648 = .ok (.aload_n 2, 1) := by decide +kernel
theorem dL_law_649 : decode cL_law 649 = .ok (.aload_n 0, 1) := by decide +kernel
theorem dL_law_650 : decode cL_law 650 = .ok (.iload 4, 2) := by decide +kernel
theorem dL_law_652 : decode cL_law 652 = .ok (.iconst 1, 1) := by decide +kernel
theorem dL_law_653 : decode cL_law 653 = .ok (.iadd, 1) := by decide +kernel
theorem dL_law_654 : decode cL_law 654 = .ok (.iaload, 1) := by decide +kernel
theorem dL_law_655 : decode cL_law 655 = .ok (.aload_n 0, 1) := by decide +kernel
theorem dL_law_656 : decode cL_law 656 = .ok (.iload 4, 2) := by decide +kernel
theorem dL_law_658 : decode cL_law 658 = .ok (.iconst 2, 1) := by decide +kernel
theorem dL_law_659 : decode cL_law 659 = .ok (.iadd, 1) := by decide +kernel
theorem dL_law_660 : decode cL_law 660 = .ok (.iaload, 1) := by decide +kernel
theorem dL_law_661 : decode cL_law 661 = .ok (.aload_n 0, 1) := by decide +kernel
theorem dL_law_662 : decode cL_law 662 = .ok (.iload 4, 2) := by decide +kernel
theorem dL_law_664 : decode cL_law 664 = .ok (.iconst 3, 1) := by decide +kernel
theorem dL_law_665 : decode cL_law 665 = .ok (.iadd, 1) := by decide +kernel
theorem dL_law_666 : decode cL_law 666 = .ok (.iaload, 1) := by decide +kernel
theorem dL_law_667 : decode cL_law 667 = .ok (.aload_n 0, 1) := by decide +kernel
theorem dL_law_668 : decode cL_law 668 = .ok (.iload 4, 2) := by decide +kernel
theorem dL_law_670 : decode cL_law 670 = .ok (.iconst 4, 1) := by decide +kernel
theorem dL_law_671 : decode cL_law 671 = .ok (.iadd, 1) := by decide +kernel
theorem dL_law_672 : decode cL_law 672 = .ok (.iaload, 1) := by decide +kernel
theorem dL_law_673 : decode cL_law 673 = .ok (.invokevirtual 216, 3) := by decide +kernel
theorem dL_law_676 : decode cL_law 676 = .ok (.istore 6, 2) := by decide +kernel
theorem dL_law_678 : decode cL_law 678 = .ok (.goto 1850, 3) := by decide +kernel
theorem dL_law_1730 : decode cL_law 1730 = .ok (.iadd, 1) := by decide +kernel
theorem dL_law_1731 : decode cL_law 1731 = .ok (.iaload, 1) := by decide +kernel
theorem dL_law_1732 : decode cL_law 1732 = .ok (.aload_n 0, 1) := by decide +kernel
theorem dL_law_1733 : decode cL_law 1733 = .ok (.iload 4, 2) := by decide +kernel
theorem dL_law_1735 : decode cL_law 1735 = .ok (.iconst 2, 1) := by decide +kernel
theorem dL_law_1736 : decode cL_law 1736 = .ok (.iadd, 1) := by decide +kernel
theorem dL_law_1737 : decode cL_law 1737 = .ok (.iaload, 1) := by decide +kernel
theorem dL_law_1738 : decode cL_law 1738 = .ok (.aload_n 0, 1) := by decide +kernel
theorem dL_law_1739 : decode cL_law 1739 = .ok (.iload 4, 2) := by decide +kernel
theorem dL_law_1741 : decode cL_law 1741 = .ok (.iconst 3, 1) := by decide +kernel
theorem dL_law_1742 : decode cL_law 1742 = .ok (.iadd, 1) := by decide +kernel
theorem dL_law_1743 : decode cL_law 1743 = .ok (.iaload, 1) := by decide +kernel
theorem dL_law_1744 : decode cL_law 1744 = .ok (.aload_n 0, 1) := by decide +kernel
theorem dL_law_1745 : decode cL_law 1745 = .ok (.iload 4, 2) := by decide +kernel
theorem dL_law_1747 : decode cL_law 1747 = .ok (.iconst 4, 1) := by decide +kernel
theorem dL_law_1748 : decode cL_law 1748 = .ok (.iadd, 1) := by decide +kernel
theorem dL_law_1749 : decode cL_law 1749 = .ok (.iaload, 1) := by decide +kernel
theorem dL_law_1750 : decode cL_law 1750 = .ok (.aload_n 3, 1) := by decide +kernel
theorem dL_law_1751 : decode cL_law 1751 = .ok (.invokestatic 286, 3) := by decide +kernel
theorem dL_law_1754 : decode cL_law 1754 = .ok (.istore 5, 2) := by decide +kernel
theorem dL_law_1756 : decode cL_law 1756 = .ok (.aload_n 2, 1) := by decide +kernel
theorem dL_law_1757 : decode cL_law 1757 = .ok (.aload_n 0, 1) := by decide +kernel
theorem dL_law_1758 : decode cL_law 1758 = .ok (.iload 4, 2) := by decide +kernel
theorem dL_law_1760 : decode cL_law 1760 = .ok (.iconst 1, 1) := by decide +kernel
theorem dL_law_1761 : decode cL_law 1761 = .ok (.iadd, 1) := by decide +kernel
theorem dL_law_1762 : decode cL_law 1762 = .ok (.iaload, 1) := by decide +kernel
theorem dL_law_1763 : decode cL_law 1763 = .ok (.aload_n 0, 1) := by decide +kernel
theorem dL_law_1764 : decode cL_law 1764 = .ok (.iload 4, 2) := by decide +kernel
theorem dL_law_1766 : decode cL_law 1766 = .ok (.iconst 2, 1) := by decide +kernel
theorem dL_law_1767 : decode cL_law 1767 = .ok (.iadd, 1) := by decide +kernel
theorem dL_law_1768 : decode cL_law 1768 = .ok (.iaload, 1) := by decide +kernel
theorem dL_law_1769 : decode cL_law 1769 = .ok (.aload_n 0, 1) := by decide +kernel
theorem dL_law_1770 : decode cL_law 1770 = .ok (.iload 4, 2) := by decide +kernel
theorem dL_law_1772 : decode cL_law 1772 = .ok (.iconst 3, 1) := by decide +kernel
theorem dL_law_1773 : decode cL_law 1773 = .ok (.iadd, 1) := by decide +kernel
theorem dL_law_1774 : decode cL_law 1774 = .ok (.iaload, 1) := by decide +kernel
theorem dL_law_1775 : decode cL_law 1775 = .ok (.aload_n 0, 1) := by decide +kernel
theorem dL_law_1776 : decode cL_law 1776 = .ok (.iload 4, 2) := by decide +kernel
theorem dL_law_1778 : decode cL_law 1778 = .ok (.iconst 4, 1) := by decide +kernel
theorem dL_law_1779 : decode cL_law 1779 = .ok (.iadd, 1) := by decide +kernel
theorem dL_law_1780 : decode cL_law 1780 = .ok (.iaload, 1) := by decide +kernel
theorem dL_law_1781 : decode cL_law 1781 = .ok (.invokevirtual 288, 3) := by decide +kernel
theorem dL_law_1784 : decode cL_law 1784 = .ok (.istore 6, 2) := by decide +kernel
theorem dL_law_1786 : decode cL_law 1786 = .ok (.goto 742, 3) := by decide +kernel
theorem dL_law_1789 : decode cL_law 1789 = .ok (.aload_n 1, 1) := by decide +kernel
theorem dL_law_1790 : decode cL_law 1790 = .ok (.aload_n 0, 1) := by decide +kernel
theorem dL_law_1791 : decode cL_law 1791 = .ok (.iload 4, 2) := by decide +kernel
theorem dL_law_1793 : decode cL_law 1793 = .ok (.iconst 1, 1) := by decide +kernel
theorem dL_law_1794 : decode cL_law 1794 = .ok (.iadd, 1) := by decide +kernel
theorem dL_law_1795 : decode cL_law 1795 = .ok (.iaload, 1) := by decide +kernel
theorem dL_law_1796 : decode cL_law 1796 = .ok (.aload_n 0, 1) := by decide +kernel
theorem dL_law_1797 : decode cL_law 1797 = .ok (.iload 4, 2) := by decide +kernel
theorem dL_law_1799 : decode cL_law 1799 = .ok (.iconst 2, 1) := by decide +kernel
theorem dL_law_1800 : decode cL_law 1800 = .ok (.iadd, 1) := by decide +kernel
theorem dL_law_1801 : decode cL_law 1801 = .ok (.iaload, 1) := by decide +kernel
theorem dL_law_1802 : decode cL_law 1802 = .ok (.aload_n 0, 1) := by decide +kernel
theorem dL_law_1803 : decode cL_law 1803 = .ok (.iload 4, 2) := by decide +kernel
theorem dL_law_1805 : decode cL_law 1805 = .ok (.iconst 3, 1) := by decide +kernel
theorem dL_law_1806 : decode cL_law 1806 = .ok (.iadd, 1) := by decide +kernel
theorem dL_law_1807 : decode cL_law 1807 = .ok (.iaload, 1) := by decide +kernel
theorem dL_law_1808 : decode cL_law 1808 = .ok (.aload_n 0, 1) := by decide +kernel
theorem dL_law_1809 : decode cL_law 1809 = .ok (.iload 4, 2) := by decide +kernel
theorem dL_law_1811 : decode cL_law 1811 = .ok (.iconst 4, 1) := by decide +kernel
theorem dL_law_1812 : decode cL_law 1812 = .ok (.iadd, 1) := by decide +kernel
theorem dL_law_1813 : decode cL_law 1813 = .ok (.iaload, 1) := by decide +kernel
theorem dL_law_1814 : decode cL_law 1814 = .ok (.aload_n 3, 1) := by decide +kernel
theorem dL_law_1815 : decode cL_law 1815 = .ok (.invokestatic 289, 3) := by decide +kernel
theorem dL_law_1818 : decode cL_law 1818 = .ok (.istore 5, 2) := by decide +kernel
theorem dL_law_1820 : decode cL_law 1820 = .ok (.aload_n 2, 1) := by decide +kernel
theorem dL_law_1821 : decode cL_law 1821 = .ok (.aload_n 0, 1) := by decide +kernel
theorem dL_law_1822 : decode cL_law 1822 = .ok (.iload 4, 2) := by decide +kernel
theorem dL_law_1824 : decode cL_law 1824 = .ok (.iconst 1, 1) := by decide +kernel
theorem dL_law_1825 : decode cL_law 1825 = .ok (.iadd, 1) := by decide +kernel
theorem dL_law_1826 : decode cL_law 1826 = .ok (.iaload, 1) := by decide +kernel
theorem dL_law_1827 : decode cL_law 1827 = .ok (.aload_n 0, 1) := by decide +kernel
theorem dL_law_1828 : decode cL_law 1828 = .ok (.iload 4, 2) := by decide +kernel
theorem dL_law_2502 : decode cL_law 2502 = .ok (.aload_n 1, 1) := by decide +kernel
theorem dL_law_2503 : decode cL_law 2503 = .ok (.invokevirtual 347, 3) := by decide +kernel
theorem dL_law_2506 : decode cL_law 2506 = .ok (.pop, 1) := by decide +kernel
theorem dL_law_2507 : decode cL_law 2507 = .ok (.aload_n 2, 1) := by decide +kernel
theorem dL_law_2508 : decode cL_law 2508 = .ok (.invokevirtual 351, 3) := by decide +kernel
theorem dL_law_2511 : decode cL_law 2511 = .ok (.pop, 1) := by decide +kernel
theorem dL_law_2512 : decode cL_law 2512 = .ok (.goto 16, 3) := by decide +kernel
theorem dL_law_2515 : decode cL_law 2515 = .ok (.aload_n 1, 1) := by decide +kernel
theorem dL_law_2516 : decode cL_law 2516 = .ok (.invokevirtual 352, 3) := by decide +kernel
theorem dL_law_2519 : decode cL_law 2519 = .ok (.pop2, 1) := by decide +kernel
theorem dL_law_2520 : decode cL_law 2520 = .ok (.aload_n 2, 1) := by decide +kernel
theorem dL_law_2521 : decode cL_law 2521 = .ok (.invokevirtual 356, 3) := by decide +kernel
theorem dL_law_2524 : decode cL_law 2524 = .ok (.pop2, 1) := by decide +kernel
theorem dL_law_2525 : decode cL_law 2525 = .ok (.goto 3, 3) := by decide +kernel
theorem dL_law_2528 : decode cL_law 2528 = .ok (.iinc 4 6, 3) := by decide +kernel
theorem dL_law_2531 : decode cL_law 2531 = .ok (.goto (-2504), 3) := by decide +kernel
theorem dL_law_2534 : decode cL_law 2534 = .ok (.iconst 1, 1) := by decide +kernel
theorem dL_law_2535 : decode cL_law 2535 = .ok (.ireturn, 1) := by decide +kernel
abbrev vwCl : List vw_C := [(RJ0, TJ0, 4), (RJ4, TJ4, 4), (RJx00060, TJx00060, 6), (RJx7c733, TJx7c733, 6), (RX0, TX0, 4), (RX1, TX1, 4), (RX2, TX2, 4), (RX3, TX3, 2), (RX4, TX4, 10)]
end
section
/-! A SMALL EVALUATOR of bytecode over numbered cells, for the kernel: every piece forces its numbers before it goes on.
A value is a number: 4 n an int (n of 32 bits), 4 n + 1 a long (n of 64 bits), 4 i + 2 the cell i, 3 null, 11 one reference of which nothing more is known, 7 nothing (an unset local, a long's second half).
A cell is a list: its kind, then its slots: 0 ints, 1 bytes, 2 + t an array of references (type t), 16 + c an object of the class c. -/
abbrev ev_R : Type := Nat × List Nat × List Nat × List (List Nat) × List (List Nat) × Nat
abbrev ev_G : Type := Nat → List Nat → List Nat → List (List Nat) → List (List Nat) → Nat → Option ev_R
abbrev ev_V : Type := List Nat × List (List Nat) × List (List Nat) × Nat
abbrev ev_C : Type := Nat → List Nat → List (List Nat) → List (List Nat) → Nat → Option ev_V
abbrev ev_I : Type := ev_C → ev_G → ev_G
noncomputable def ev_nf {α : Type} (n : Nat) (k : Nat → α) : α := @Nat.rec (fun _ => α) (k 0) (fun m _ => k (Nat.succ m)) n
noncomputable def ev_b {α : Type} (b : Bool) (x y : α) : α := @Bool.rec (fun _ => α) y x b
noncomputable def ev_get {α : Type} (d : Nat) (l : List Nat) : Nat → (Nat → α) → α := @List.rec Nat (fun _ => Nat → (Nat → α) → α) (fun _ k => k d) (fun a _ ih i k => @Nat.rec (fun _ => α) (k a) (fun j _ => ih j k) i) l
noncomputable def ev_set {α : Type} (v : Nat) (l : List Nat) : Nat → (List Nat → α) → α := @List.rec Nat (fun _ => Nat → (List Nat → α) → α) (fun _ k => k []) (fun a t ih i k => @Nat.rec (fun _ => α) (k (v :: t)) (fun j _ => ih j (fun t' => k (a :: t'))) i) l
noncomputable def ev_cell {α : Type} (l : List (List Nat)) : Nat → (List Nat → α) → α := @List.rec (List Nat) (fun _ => Nat → (List Nat → α) → α) (fun _ k => k []) (fun a _ ih i k => @Nat.rec (fun _ => α) (k a) (fun j _ => ih j k) i) l
noncomputable def ev_cset {α : Type} (v : List Nat) (l : List (List Nat)) : Nat → (List (List Nat) → α) → α := @List.rec (List Nat) (fun _ => Nat → (List (List Nat) → α) → α) (fun _ k => k []) (fun a t ih i k => @Nat.rec (fun _ => α) (k (v :: t)) (fun j _ => ih j (fun t' => k (a :: t'))) i) l
noncomputable def ev_len {α : Type} (l : List Nat) : Nat → (Nat → α) → α := @List.rec Nat (fun _ => Nat → (Nat → α) → α) (fun n k => ev_nf n k) (fun _ _ ih n k => ev_nf (Nat.succ n) (fun m => ih m k)) l
/-- N cells lie in the first list -/
noncomputable def ev_at {α : Type} (N : Nat) (B F : List (List Nat)) (top id : Nat) (k : List Nat → Option α) : Option α := ev_b (Nat.blt id N) (ev_cell B id k) (ev_b (Nat.blt id top) (ev_cell F (Nat.sub (Nat.pred top) id) k) none)
noncomputable def ev_put {α : Type} (N : Nat) (B F : List (List Nat)) (top id : Nat) (v : List Nat) (k : List (List Nat) → List (List Nat) → α) : α := ev_b (Nat.blt id N) (ev_cset v B id fun B' => k B' F) (ev_cset v F (Nat.sub (Nat.pred top) id) fun F' => k B F')
/-- the head, the tail -/
noncomputable def ev_uc {α β : Type} (l : List β) (k : β → List β → Option α) : Option α := @List.rec β (fun _ => Option α) none (fun a t _ => k a t) l
noncomputable def ev_rep {α : Type} (v : Nat) (n : Nat) : List Nat → (List Nat → α) → α := @Nat.rec (fun _ => List Nat → (List Nat → α) → α) (fun t k => k t) (fun _ ih t k => ih (v :: t) k) n
/-- an int, a cell -/
noncomputable def ev_i {α : Type} (v : Nat) (x : Option α) : Option α := ev_b (Nat.beq (Nat.mod v 4) 0) x none
noncomputable def ev_l {α : Type} (v : Nat) (x : Option α) : Option α := ev_b (Nat.beq (Nat.mod v 4) 1) x none
noncomputable def ev_r {α : Type} (v : Nat) (k : Nat → Option α) : Option α := ev_b (Nat.beq (Nat.mod v 4) 2) (ev_nf (Nat.div v 4) k) none
def ev_M : Nat := 17179869184
def ev_H : Nat := 8589934592
def ev_ML : Nat := 18446744073709551616
noncomputable def ev_lt (u v : Nat) : Bool := Nat.blt (Nat.mod (Nat.add u ev_H) ev_M) (Nat.mod (Nat.add v ev_H) ev_M)
-- ===== the instructions: nx is where the next one stands =====
noncomputable def eo_iload (nx i : Nat) : ev_I := fun _ go _ ls st B F top => ev_get 7 ls i fun v => ev_i v (go nx ls (v :: st) B F top)
noncomputable def eo_lload (nx i : Nat) : ev_I := fun _ go _ ls st B F top => ev_get 7 ls i fun v => ev_l v (go nx ls (v :: st) B F top)
noncomputable def eo_aload (nx i : Nat) : ev_I := fun _ go _ ls st B F top => ev_get 7 ls i fun v => ev_b (Nat.beq (Nat.mod v 4) 2) (go nx ls (v :: st) B F top) (ev_b (Nat.beq v 3) (go nx ls (v :: st) B F top) (ev_b (Nat.beq v 11) (go nx ls (v :: st) B F top) none))
noncomputable def eo_istore (nx i : Nat) : ev_I := fun _ go _ ls st B F top => ev_uc st fun v r => ev_i v (ev_get 7 ls (Nat.pred i) fun u => ev_b (Nat.beq (Nat.mod u 4) 1) none (ev_set v ls i fun ls' => go nx ls' r B F top))
noncomputable def eo_astore (nx i : Nat) : ev_I := fun _ go _ ls st B F top => ev_uc st fun v r => ev_b (Nat.beq (Nat.mod v 4) 2) (ev_get 7 ls (Nat.pred i) fun u => ev_b (Nat.beq (Nat.mod u 4) 1) none (ev_set v ls i fun ls' => go nx ls' r B F top)) (ev_b (Nat.beq v 3) (ev_get 7 ls (Nat.pred i) fun u => ev_b (Nat.beq (Nat.mod u 4) 1) none (ev_set v ls i fun ls' => go nx ls' r B F top)) none)
noncomputable def eo_lstore (nx i : Nat) : ev_I := fun _ go _ ls st B F top => ev_uc st fun v r => ev_l v (ev_get 7 ls (Nat.pred i) fun u => ev_b (Nat.beq (Nat.mod u 4) 1) none (ev_set v ls i fun l1 => ev_set 7 l1 (Nat.succ i) fun l2 => go nx l2 r B F top))
noncomputable def eo_push (nx v : Nat) : ev_I := fun _ go _ ls st B F top => go nx ls (v :: st) B F top
noncomputable def eo_iadd (nx : Nat) : ev_I := fun _ go _ ls st B F top => ev_uc st fun v s1 => ev_uc s1 fun u r => ev_i v (ev_i u (ev_nf (Nat.mod (Nat.add u v) ev_M) fun w => go nx ls (w :: r) B F top))
noncomputable def eo_isub (nx : Nat) : ev_I := fun _ go _ ls st B F top => ev_uc st fun v s1 => ev_uc s1 fun u r => ev_i v (ev_i u (ev_b (Nat.blt v ev_M) (ev_nf (Nat.mod (Nat.sub (Nat.add u ev_M) v) ev_M) fun w => go nx ls (w :: r) B F top) none))
noncomputable def eo_imul (nx : Nat) : ev_I := fun _ go _ ls st B F top => ev_uc st fun v s1 => ev_uc s1 fun u r => ev_i v (ev_i u (ev_nf (Nat.mod (Nat.mul (Nat.div u 4) v) ev_M) fun w => go nx ls (w :: r) B F top))
noncomputable def eo_idiv (nx : Nat) : ev_I := fun _ go _ ls st B F top => ev_uc st fun v s1 => ev_uc s1 fun u r => ev_i v (ev_i u (ev_b (Nat.blt u ev_H) (ev_b (Nat.blt v ev_H) (ev_b (Nat.beq v 0) none (ev_nf (Nat.mul 4 (Nat.div u v)) fun w => go nx ls (w :: r) B F top)) none) none))
noncomputable def eo_irem (nx : Nat) : ev_I := fun _ go _ ls st B F top => ev_uc st fun v s1 => ev_uc s1 fun u r => ev_i v (ev_i u (ev_b (Nat.blt v ev_H) (ev_b (Nat.beq v 0) none (ev_b (Nat.blt u ev_H) (ev_nf (Nat.mul 4 (Nat.mod (Nat.div u 4) (Nat.div v 4))) fun w => go nx ls (w :: r) B F top) (ev_b (Nat.blt ev_H u) (ev_b (Nat.blt u ev_M) (ev_nf (Nat.mod (Nat.div (Nat.sub ev_M u) 4) (Nat.div v 4)) fun q => ev_nf (Nat.mod (Nat.sub ev_M (Nat.mul 4 q)) ev_M) fun w => go nx ls (w :: r) B F top) none) none))) none))
noncomputable def eo_iand (nx : Nat) : ev_I := fun _ go _ ls st B F top => ev_uc st fun v s1 => ev_uc s1 fun u r => ev_i v (ev_i u (ev_nf (Nat.land u v) fun w => go nx ls (w :: r) B F top))
noncomputable def eo_ixor (nx : Nat) : ev_I := fun _ go _ ls st B F top => ev_uc st fun v s1 => ev_uc s1 fun u r => ev_i v (ev_i u (ev_nf (Nat.xor u v) fun w => go nx ls (w :: r) B F top))
/-- a shift by 0 alone -/
noncomputable def eo_ish0 (nx : Nat) : ev_I := fun _ go _ ls st B F top => ev_uc st fun v s1 => ev_uc s1 fun u r => ev_i u (ev_b (Nat.beq v 0) (go nx ls (u :: r) B F top) none)
noncomputable def eo_ineg (nx : Nat) : ev_I := fun _ go _ ls st B F top => ev_uc st fun u r => ev_i u (ev_b (Nat.ble u ev_M) (ev_nf (Nat.mod (Nat.sub ev_M u) ev_M) fun w => go nx ls (w :: r) B F top) none)
noncomputable def eo_ladd (nx : Nat) : ev_I := fun _ go _ ls st B F top => ev_uc st fun v s1 => ev_uc s1 fun u r => ev_l v (ev_l u (ev_nf (Nat.succ (Nat.mul 4 (Nat.mod (Nat.add (Nat.div u 4) (Nat.div v 4)) ev_ML))) fun w => go nx ls (w :: r) B F top))
noncomputable def eo_lmul (nx : Nat) : ev_I := fun _ go _ ls st B F top => ev_uc st fun v s1 => ev_uc s1 fun u r => ev_l v (ev_l u (ev_nf (Nat.succ (Nat.mul 4 (Nat.mod (Nat.mul (Nat.div u 4) (Nat.div v 4)) ev_ML))) fun w => go nx ls (w :: r) B F top))
/-- what is not negative stays as it is; an int below 0 is wanted too -/
noncomputable def eo_i2l (nx : Nat) : ev_I := fun _ go _ ls st B F top => ev_uc st fun u r => ev_i u (ev_b (Nat.blt u ev_H) (ev_nf (Nat.succ u) fun w => go nx ls (w :: r) B F top) (ev_b (Nat.blt u ev_M) (ev_nf (Nat.succ (Nat.mul 4 (Nat.sub (Nat.add (Nat.div u 4) ev_ML) 4294967296))) fun w => go nx ls (w :: r) B F top) none))
noncomputable def eo_lrem (nx : Nat) : ev_I := fun _ go _ ls st B F top => ev_uc st fun v s1 => ev_uc s1 fun u r => ev_l v (ev_l u (ev_b (Nat.blt v ev_M) (ev_b (Nat.beq v 1) none (ev_b (Nat.blt u ev_M) (ev_nf (Nat.succ (Nat.mul 4 (Nat.mod (Nat.div u 4) (Nat.div v 4)))) fun w => go nx ls (w :: r) B F top)
  (ev_b (Nat.blt 73786976277658337280 u) (ev_b (Nat.blt u 73786976294838206464) (ev_nf (Nat.mod (Nat.sub ev_ML (Nat.div u 4)) (Nat.div v 4)) fun q => ev_nf (Nat.succ (Nat.mul 4 (Nat.mod (Nat.sub ev_ML q) ev_ML))) fun w => go nx ls (w :: r) B F top) none) none))) none))
noncomputable def eo_l2i (nx : Nat) : ev_I := fun _ go _ ls st B F top => ev_uc st fun u r => ev_l u (ev_nf (Nat.mod (Nat.mul 4 (Nat.div u 4)) ev_M) fun w => go nx ls (w :: r) B F top)
/-- to a byte, to a char: what is below 128 stays -/
noncomputable def eo_small (nx : Nat) : ev_I := fun _ go _ ls st B F top => ev_uc st fun u r => ev_i u (ev_b (Nat.blt u 512) (go nx ls (u :: r) B F top) none)
noncomputable def eo_iinc (nx i d : Nat) : ev_I := fun _ go _ ls st B F top => ev_get 7 ls i fun v => ev_i v (ev_nf (Nat.mod (Nat.add v d) ev_M) fun w => ev_set w ls i fun ls' => go nx ls' st B F top)
noncomputable def eo_goto (tg : Nat) : ev_I := fun _ go _ ls st B F top => go tg ls st B F top
noncomputable def eo_eq (nx tg : Nat) : ev_I := fun _ go _ ls st B F top => ev_uc st fun u r => ev_i u (ev_b (Nat.beq (Nat.mod u ev_M) 0) (go tg ls r B F top) (go nx ls r B F top))
noncomputable def eo_ne (nx tg : Nat) : ev_I := fun _ go _ ls st B F top => ev_uc st fun u r => ev_i u (ev_b (Nat.beq (Nat.mod u ev_M) 0) (go nx ls r B F top) (go tg ls r B F top))
noncomputable def eo_lt (nx tg : Nat) : ev_I := fun _ go _ ls st B F top => ev_uc st fun u r => ev_i u (ev_b (Nat.blt (Nat.mod u ev_M) ev_H) (go nx ls r B F top) (go tg ls r B F top))
noncomputable def eo_ge (nx tg : Nat) : ev_I := fun _ go _ ls st B F top => ev_uc st fun u r => ev_i u (ev_b (Nat.blt (Nat.mod u ev_M) ev_H) (go tg ls r B F top) (go nx ls r B F top))
noncomputable def eo_gt (nx tg : Nat) : ev_I := fun _ go _ ls st B F top => ev_uc st fun u r => ev_i u (ev_b (Nat.blt (Nat.mod u ev_M) ev_H) (ev_b (Nat.beq (Nat.mod u ev_M) 0) (go nx ls r B F top) (go tg ls r B F top)) (go nx ls r B F top))
noncomputable def eo_le (nx tg : Nat) : ev_I := fun _ go _ ls st B F top => ev_uc st fun u r => ev_i u (ev_b (Nat.blt (Nat.mod u ev_M) ev_H) (ev_b (Nat.beq (Nat.mod u ev_M) 0) (go tg ls r B F top) (go nx ls r B F top)) (go tg ls r B F top))
noncomputable def eo_ceq (nx tg : Nat) : ev_I := fun _ go _ ls st B F top => ev_uc st fun v s1 => ev_uc s1 fun u r => ev_i v (ev_i u (ev_b (Nat.beq (Nat.mod u ev_M) (Nat.mod v ev_M)) (go tg ls r B F top) (go nx ls r B F top)))
noncomputable def eo_cne (nx tg : Nat) : ev_I := fun _ go _ ls st B F top => ev_uc st fun v s1 => ev_uc s1 fun u r => ev_i v (ev_i u (ev_b (Nat.beq (Nat.mod u ev_M) (Nat.mod v ev_M)) (go nx ls r B F top) (go tg ls r B F top)))
noncomputable def eo_clt (nx tg : Nat) : ev_I := fun _ go _ ls st B F top => ev_uc st fun v s1 => ev_uc s1 fun u r => ev_i v (ev_i u (ev_b (ev_lt u v) (go tg ls r B F top) (go nx ls r B F top)))
noncomputable def eo_cge (nx tg : Nat) : ev_I := fun _ go _ ls st B F top => ev_uc st fun v s1 => ev_uc s1 fun u r => ev_i v (ev_i u (ev_b (ev_lt u v) (go nx ls r B F top) (go tg ls r B F top)))
noncomputable def eo_cgt (nx tg : Nat) : ev_I := fun _ go _ ls st B F top => ev_uc st fun v s1 => ev_uc s1 fun u r => ev_i v (ev_i u (ev_b (ev_lt v u) (go tg ls r B F top) (go nx ls r B F top)))
noncomputable def eo_cle (nx tg : Nat) : ev_I := fun _ go _ ls st B F top => ev_uc st fun v s1 => ev_uc s1 fun u r => ev_i v (ev_i u (ev_b (ev_lt v u) (go nx ls r B F top) (go tg ls r B F top)))
noncomputable def eo_null (nx tg : Nat) : ev_I := fun _ go _ ls st B F top => ev_uc st fun u r => ev_b (Nat.beq (Nat.mod u 4) 2) (go nx ls r B F top) (ev_b (Nat.beq u 3) (go tg ls r B F top) none)
noncomputable def eo_nonnull (nx tg : Nat) : ev_I := fun _ go _ ls st B F top => ev_uc st fun u r => ev_b (Nat.beq (Nat.mod u 4) 2) (go tg ls r B F top) (ev_b (Nat.beq u 3) (go nx ls r B F top) none)
noncomputable def eo_ane (nx tg : Nat) : ev_I := fun _ go _ ls st B F top => ev_uc st fun v s1 => ev_uc s1 fun u r => ev_r v fun _ => ev_r u fun _ => ev_b (Nat.beq u v) (go nx ls r B F top) (go tg ls r B F top)
/-- the field k of an object of the class c -/
noncomputable def eo_getf (N nx c k : Nat) : ev_I := fun _ go _ ls st B F top => ev_uc st fun u r => ev_r u fun id => ev_at N B F top id fun cell => ev_uc cell fun kd fs => ev_b (Nat.beq kd (Nat.add 16 c)) (ev_get 7 fs k fun v => ev_b (Nat.beq v 7) none (go nx ls (v :: r) B F top)) none
/-- a field of an int (j = 0), a reference (j = 2), null (j = 3) -/
noncomputable def eo_putf (N nx c k j : Nat) : ev_I := fun _ go _ ls st B F top => ev_uc st fun v s1 => ev_uc s1 fun u r => ev_b (Nat.beq (Nat.mod v 4) j) (ev_r u fun id => ev_at N B F top id fun cell => ev_uc cell fun kd fs => ev_b (Nat.beq kd (Nat.add 16 c)) (ev_get 7 fs k fun o => ev_b (Nat.beq o 7) none (ev_set v fs k fun fs' => ev_put N B F top id (kd :: fs') fun B' F' => go nx ls r B' F' top)) none) none
/-- a field of 0 or 1 -/
noncomputable def eo_putz (N nx c k : Nat) : ev_I := fun call go pc ls st B F top => ev_uc st fun v _ => ev_b (Nat.ble v 4) (eo_putf N nx c k 0 call go pc ls st B F top) none
noncomputable def eo_ald (N nx q : Nat) : ev_I := fun _ go _ ls st B F top => ev_uc st fun v s1 => ev_uc s1 fun u r => ev_i v (ev_b (Nat.blt v ev_H) (ev_r u fun id => ev_at N B F top id fun cell => ev_uc cell fun kd fs => ev_b (Nat.beq kd q) (ev_get 7 fs (Nat.div v 4) fun x => ev_i x (go nx ls (x :: r) B F top)) none) none)
/-- out of an array of references -/
noncomputable def eo_aldr (N nx q : Nat) : ev_I := fun _ go _ ls st B F top => ev_uc st fun v s1 => ev_uc s1 fun u r => ev_i v (ev_b (Nat.blt v ev_H) (ev_r u fun id => ev_at N B F top id fun cell => ev_uc cell fun kd fs => ev_b (Nat.beq kd q) (ev_get 7 fs (Nat.div v 4) fun x => ev_b (Nat.beq (Nat.mod x 4) 2) (go nx ls (x :: r) B F top) (ev_b (Nat.beq x 3) (go nx ls (x :: r) B F top) none)) none) none)
noncomputable def eo_ast (N nx q : Nat) : ev_I := fun _ go _ ls st B F top => ev_uc st fun x s0 => ev_uc s0 fun v s1 => ev_uc s1 fun u r => ev_i x (ev_i v (ev_b (Nat.blt v ev_H) (ev_r u fun id => ev_at N B F top id fun cell => ev_uc cell fun kd fs => ev_b (Nat.beq kd q) (ev_get 7 fs (Nat.div v 4) fun y => ev_b (Nat.beq y 7) none (ev_set x fs (Nat.div v 4) fun fs' => ev_put N B F top id (kd :: fs') fun B' F' => go nx ls r B' F' top)) none) none))
/-- bytes below 128 -/
noncomputable def eo_astb (N nx : Nat) : ev_I := fun call go pc ls st B F top => ev_uc st fun x _ => ev_b (Nat.blt x 512) (eo_ast N nx 1 call go pc ls st B F top) none
/-- a reference into an array of references -/
noncomputable def eo_astr (N nx q c : Nat) : ev_I := fun _ go _ ls st B F top => ev_uc st fun x s0 => ev_uc s0 fun v s1 => ev_uc s1 fun u r => ev_i v (ev_b (Nat.blt v ev_H) (ev_r x fun xd => ev_at N B F top xd fun cx => ev_uc cx fun kx _ => ev_b (Nat.beq kx (Nat.add 16 c)) (ev_r u fun id => ev_at N B F top id fun cell => ev_uc cell fun kd fs => ev_b (Nat.beq kd q) (ev_get 7 fs (Nat.div v 4) fun y => ev_b (Nat.beq y 7) none (ev_set x fs (Nat.div v 4) fun fs' => ev_put N B F top id (kd :: fs') fun B' F' => go nx ls r B' F' top)) none) none) none)
noncomputable def eo_len (N nx q : Nat) : ev_I := fun _ go _ ls st B F top => ev_uc st fun u r => ev_r u fun id => ev_at N B F top id fun cell => ev_uc cell fun kd fs => ev_b (Nat.beq kd q) (ev_len fs 0 fun n => ev_nf (Nat.mul 4 n) fun w => go nx ls (w :: r) B F top) none
/-- a new array of the kind q, of at most 4000 places, each v -/
noncomputable def eo_newa (nx q v : Nat) : ev_I := fun _ go _ ls st B F top => ev_uc st fun n r => ev_i n (ev_b (Nat.ble n 16000) (ev_nf (Nat.div n 4) fun m => ev_rep v m [] fun fs => ev_nf (Nat.add (Nat.mul 4 top) 2) fun w => ev_nf (Nat.succ top) fun top' => go nx ls (w :: r) B ((q :: fs) :: F) top') none)
noncomputable def eo_new (nx c : Nat) (fs : List Nat) : ev_I := fun _ go _ ls st B F top => ev_nf (Nat.add (Nat.mul 4 top) 2) fun w => ev_nf (Nat.succ top) fun top' => go nx ls (w :: st) B (((Nat.add 16 c) :: fs) :: F) top'
noncomputable def eo_dup (nx : Nat) : ev_I := fun _ go _ ls st B F top => ev_uc st fun u r => ev_b (Nat.beq (Nat.mod u 4) 1) none (go nx ls (u :: u :: r) B F top)
noncomputable def eo_dupx1 (nx : Nat) : ev_I := fun _ go _ ls st B F top => ev_uc st fun v s1 => ev_uc s1 fun u r => ev_b (Nat.beq (Nat.mod u 4) 1) none (ev_b (Nat.beq (Nat.mod v 4) 1) none (go nx ls (v :: u :: v :: r) B F top))
noncomputable def eo_dup2 (nx : Nat) : ev_I := fun _ go _ ls st B F top => ev_uc st fun v s1 => ev_uc s1 fun u r => ev_b (Nat.beq (Nat.mod u 4) 1) none (ev_b (Nat.beq (Nat.mod v 4) 1) none (go nx ls (v :: u :: v :: u :: r) B F top))
noncomputable def eo_pop (nx : Nat) : ev_I := fun _ go _ ls st B F top => ev_uc st fun u r => ev_b (Nat.beq (Nat.mod u 4) 1) none (go nx ls r B F top)
noncomputable def eo_no : ev_I := fun _ _ _ _ _ _ _ _ => none
noncomputable def eo_nop (nx : Nat) : ev_I := fun _ go _ ls st B F top => go nx ls st B F top
noncomputable def eo_ret : ev_I := fun _ _ pc ls st B F top => some (pc, ls, st, B, F, top)
noncomputable def ev_upto {α : Type} (n : Nat) (st : List Nat) (x : Option α) : Option α := @Nat.rec (fun _ => List Nat → Option α) (fun st => @List.rec Nat (fun _ => Option α) x (fun _ _ _ => none) st) (fun _ ih st => @List.rec Nat (fun _ => Option α) x (fun _ t _ => ih t) st) n st
/-- Object's constructor -/
noncomputable def eo_oinit (nx : Nat) : ev_I := fun _ go _ ls st B F top => ev_uc st fun u r => ev_r u fun _ => ev_upto 4 r (go nx ls r B F top)
noncomputable def ev_take {α : Type} (n : Nat) : List Nat → List Nat → (List Nat → List Nat → Option α) → Option α := @Nat.rec (fun _ => List Nat → List Nat → (List Nat → List Nat → Option α) → Option α) (fun st as k => k as st) (fun _ ih st as k => ev_uc st fun a r => ev_b (Nat.beq a 7) none (ih r (ev_b (Nat.beq (Nat.mod a 4) 1) (a :: 7 :: as) (a :: as)) k)) n
noncomputable def ev_app {α : Type} (t l : List Nat) : (List Nat → α) → α := @List.rec Nat (fun _ => (List Nat → α) → α) (fun k => k t) (fun a _ ih k => ih (fun r => k (a :: r))) l
/-- a call of the method mi with n values from the stack (the receiver among them, if there is one) -/
noncomputable def eo_call (nx mi n : Nat) : ev_I := fun call go _ ls st B F top => ev_take n st [] fun as r => ev_upto 4 r (@Option.rec ev_V (fun _ => Option ev_R) none (fun q => ev_app r q.1 fun st' => go nx ls st' q.2.1 q.2.2.1 q.2.2.2) (call mi as B F top))
/-- the receiver is of the class c -/
noncomputable def eo_callv (N nx mi n c : Nat) : ev_I := fun call go _ ls st B F top => ev_take n st [] fun as r => ev_uc as fun u _ => ev_r u fun id => ev_at N B F top id fun cell => ev_uc cell fun kd _ => ev_b (Nat.beq kd (Nat.add 16 c)) (ev_upto 4 r (@Option.rec ev_V (fun _ => Option ev_R) none (fun q => ev_app r q.1 fun st' => go nx ls st' q.2.1 q.2.2.1 q.2.2.2) (call mi as B F top))) none
noncomputable def ev_drop {α : Type} (l : List Nat) : Nat → (List Nat → α) → α := @List.rec Nat (fun _ => Nat → (List Nat → α) → α) (fun _ k => k []) (fun a t ih i k => @Nat.rec (fun _ => α) (k (a :: t)) (fun j _ => ih j k) i) l
/-- n places of src, each below 128, laid over dst -/
noncomputable def ev_lay {α : Type} (n : Nat) : List Nat → List Nat → (List Nat → Option α) → Option α := @Nat.rec (fun _ => List Nat → List Nat → (List Nat → Option α) → Option α) (fun _ dst k => k dst) (fun _ ih src dst k => ev_uc src fun a s' => ev_b (Nat.blt a 512) (ev_uc dst fun _ d' => ih s' d' (fun t => k (a :: t))) none) n
noncomputable def ev_over {α : Type} (n : Nat) (src : List Nat) (dst : List Nat) : Nat → (List Nat → Option α) → Option α := @List.rec Nat (fun _ => Nat → (List Nat → Option α) → Option α) (fun i k => @Nat.rec (fun _ => Option α) (ev_lay n src [] k) (fun _ _ => none) i) (fun a t ih i k => @Nat.rec (fun _ => Option α) (ev_lay n src (a :: t) k) (fun j _ => ih j (fun t' => k (a :: t'))) i) dst
/-- System.arraycopy of bytes between two different arrays -/
noncomputable def eo_acopy (N nx : Nat) : ev_I := fun _ go _ ls st B F top => ev_uc st fun n s1 => ev_uc s1 fun dp s2 => ev_uc s2 fun d s3 => ev_uc s3 fun sp s4 => ev_uc s4 fun u r => ev_i n (ev_i dp (ev_i sp (ev_b (Nat.blt n ev_H) (ev_b (Nat.blt dp ev_H) (ev_b (Nat.blt sp ev_H) (ev_b (Nat.ble sp (Nat.mul 1000000 n)) (ev_upto 4 r (ev_r d fun di => ev_r u fun si => ev_b (Nat.beq di si) none (ev_at N B F top si fun cs => ev_at N B F top di fun cd => ev_uc cs fun k1 fs => ev_uc cd fun k2 fd => ev_b (Nat.beq k1 1) (ev_b (Nat.beq k2 1) (ev_drop fs (Nat.div sp 4) fun src => ev_over (Nat.div n 4) src fd (Nat.div dp 4) fun fd' => ev_put N B F top di (1 :: fd') fun B' F' => go nx ls r B' F' top) none) none))) none) none) none) none)))
/-- a copy of an array of ints -/
noncomputable def eo_clone (N nx q : Nat) : ev_I := fun _ go _ ls st B F top => ev_uc st fun u r => ev_upto 4 r (ev_r u fun id => ev_at N B F top id fun cell => ev_uc cell fun kd fs => ev_b (Nat.beq kd q) (ev_len fs 0 fun n => ev_b (Nat.ble n 4000) (ev_nf (Nat.add (Nat.mul 4 top) 2) fun w => ev_nf (Nat.succ top) fun top' => go nx ls (w :: r) B (cell :: F) top') none) none)
/-- a cast of an array of the kind q -/
noncomputable def eo_cast (N nx q : Nat) : ev_I := fun _ go _ ls st B F top => ev_uc st fun u r => ev_r u fun id => ev_at N B F top id fun cell => ev_uc cell fun kd _ => ev_b (Nat.beq kd q) (go nx ls (u :: r) B F top) none
/-- four new rows of rk ints, and the array over them -/
noncomputable def eo_mna (nx rk : Nat) : ev_I := fun _ go _ ls st B F top => ev_uc st fun k s1 => ev_uc s1 fun n r => ev_b (Nat.beq k (Nat.mul 4 rk)) (ev_b (Nat.beq n 16) (ev_rep 0 rk [] fun fs => ev_nf (Nat.add (Nat.mul 4 top) 2) fun w => ev_nf (Nat.add w 4) fun w1 => ev_nf (Nat.add w 8) fun w2 => ev_nf (Nat.add w 12) fun w3 => ev_nf (Nat.add w 16) fun w4 => ev_nf (Nat.add top 5) fun top' => go nx ls (w :: r) B ((0 :: fs) :: (0 :: fs) :: (0 :: fs) :: (0 :: fs) :: [4, w1, w2, w3, w4] :: F) top') none) none
noncomputable def eo_pop2 (nx : Nat) : ev_I := fun _ go _ ls st B F top => ev_uc st fun u r => ev_l u (go nx ls r B F top)
-- ===== the loop and the calls =====
/-- found without what follows, so that the kernel remembers it -/
noncomputable def ev_look (code : List (List ev_I)) (pc : Nat) : Option ev_I := @List.rec (List ev_I) (fun _ => Nat → Option ev_I) (fun _ => none) (fun a _ ih i => @Nat.rec (fun _ => Option ev_I) (@List.rec ev_I (fun _ => Nat → Option ev_I) (fun _ => none) (fun f _ ih2 j => @Nat.rec (fun _ => Option ev_I) (some f) (fun j' _ => ih2 j') j) a (Nat.mod pc 16)) (fun j _ => ih j) i) code (Nat.div pc 16)
noncomputable def ev_fetch (code : List (List ev_I)) (pc : Nat) (k : ev_I → Option ev_R) : Option ev_R := @Option.rec ev_I (fun _ => Option ev_R) none k (ev_look code pc)
noncomputable def ev_loop (code : List (List ev_I)) (stop : Nat) (call : ev_C) (f : Nat) : ev_G := @Nat.rec (fun _ => ev_G) (fun _ _ _ _ _ _ => none) (fun _ go pc ls st B F top => ev_fetch code pc fun ins => ins call (fun pc' ls' st' B' F' top' => ev_nf pc' fun q => ev_b (Nat.beq q stop) (some (q, ls', st', B', F', top')) (go q ls' st' B' F' top')) pc ls st B F top) f
/-- a method: its code, how many locals, what it tells: 0 nothing, 1 an int, 2 a truth, 3 a byte or char, 4 a long, 5 a reference -/
abbrev ev_P : Type := List (List ev_I) × Nat × Nat
noncomputable def ev_mlook (tab : List ev_P) : Nat → Option ev_P := @List.rec ev_P (fun _ => Nat → Option ev_P) (fun _ => none) (fun a _ ih i => @Nat.rec (fun _ => Option ev_P) (some a) (fun j _ => ih j) i) tab
noncomputable def ev_meth {α : Type} (tab : List ev_P) (i : Nat) (k : ev_P → Option α) : Option α := @Option.rec ev_P (fun _ => Option α) none k (ev_mlook tab i)
noncomputable def ev_pad {α : Type} (n : Nat) : List Nat → (List Nat → Option α) → Option α := @Nat.rec (fun _ => List Nat → (List Nat → Option α) → Option α) (fun l k => @List.rec Nat (fun _ => Option α) (k []) (fun _ _ _ => none) l) (fun _ ih l k => @List.rec Nat (fun _ => Option α) (ih [] (fun t => k (7 :: t))) (fun a t _ => ih t (fun t' => k (a :: t'))) l) n
def ev_fuel : Nat := 100000
noncomputable def ev_nil {α β : Type} (l : List β) (x : Option α) : Option α := @List.rec β (fun _ => Option α) x (fun _ _ _ => none) l
noncomputable def ev_tell {α : Type} (kind : Nat) (st : List Nat) (k : List Nat → Option α) : Option α := ev_b (Nat.beq kind 0) (ev_nil st (k [])) (ev_uc st fun v t => ev_nil t (ev_b (Nat.beq kind 1) (ev_i v (k [v])) (ev_b (Nat.beq kind 2) (ev_i v (ev_b (Nat.ble v 4) (k [v]) none)) (ev_b (Nat.beq kind 3) (ev_i v (ev_b (Nat.blt v 512) (k [v]) none)) (ev_b (Nat.beq kind 4) (ev_l v (k [v])) (ev_b (Nat.beq (Nat.mod v 4) 2) (k [v]) (ev_b (Nat.beq v 3) (k [v]) none)))))))
noncomputable def ev_run (tab : List ev_P) (d : Nat) : ev_C := @Nat.rec (fun _ => ev_C) (fun _ _ _ _ _ => none) (fun _ call mi as B F top => ev_meth tab mi fun q => ev_pad q.2.1 as fun ls => @Option.rec ev_R (fun _ => Option ev_V) none (fun r => ev_b (Nat.beq r.1 99999) none (ev_tell q.2.2 r.2.2.1 fun l => some (l, r.2.2.2.1, r.2.2.2.2.1, r.2.2.2.2.2))) (ev_loop q.1 99999 call ev_fuel 0 ls [] B F top)) d
end
section
/-! what the evaluator's pieces are -/
theorem ev_nf_eq {α : Type} (n : Nat) (k : Nat → α) : ev_nf n k = k n := by cases n <;> rfl
theorem ev_b_eq {α : Type} (b : Bool) (x y : α) : ev_b b x y = if b = true then x else y := by cases b <;> rfl
theorem ev_get_eq {α : Type} (d : Nat) : ∀ (l : List Nat) (i : Nat) (k : Nat → α), ev_get d l i k = k (l.getD i d)
  | [], _, _ => rfl
  | _ :: _, 0, _ => rfl
  | _ :: t, i + 1, k => ev_get_eq d t i k
theorem ev_set_eq {α : Type} (v : Nat) : ∀ (l : List Nat) (i : Nat) (k : List Nat → α), ev_set v l i k = k (l.set i v)
  | [], _, _ => rfl
  | _ :: _, 0, _ => rfl
  | a :: t, i + 1, k => ev_set_eq v t i (fun t' => k (a :: t'))
theorem ev_cell_eq {α : Type} : ∀ (l : List (List Nat)) (i : Nat) (k : List Nat → α), ev_cell l i k = k (l.getD i [])
  | [], _, _ => rfl
  | _ :: _, 0, _ => rfl
  | _ :: t, i + 1, k => ev_cell_eq t i k
theorem ev_cset_eq {α : Type} (v : List Nat) : ∀ (l : List (List Nat)) (i : Nat) (k : List (List Nat) → α), ev_cset v l i k = k (l.set i v)
  | [], _, _ => rfl
  | _ :: _, 0, _ => rfl
  | a :: t, i + 1, k => ev_cset_eq v t i (fun t' => k (a :: t'))
theorem ev_len_eq {α : Type} : ∀ (l : List Nat) (n : Nat) (k : Nat → α), ev_len l n k = k (n + l.length)
  | [], n, k => ev_nf_eq n k
  | a :: t, n, k => by
    show ev_nf (Nat.succ n) (fun m => ev_len t m k) = _
    rw [ev_nf_eq, ev_len_eq t (Nat.succ n) k]
    exact congrArg k (by simp only [List.length_cons]; omega)
theorem ev_uc_some {α β : Type} {l : List β} {k : β → List β → Option α} {r : α} (h : ev_uc l k = some r) : ∃ a t, l = a :: t ∧ k a t = some r := by
  cases l with
  | nil => cases h
  | cons a t => exact ⟨a, t, rfl, h⟩
theorem ev_rep_eq {α : Type} (v : Nat) : ∀ (n : Nat) (t : List Nat) (k : List Nat → α), ev_rep v n t k = k (List.replicate n v ++ t)
  | 0, _, _ => rfl
  | n + 1, t, k => by
    show ev_rep v n (v :: t) k = _
    rw [ev_rep_eq v n (v :: t) k, List.replicate_succ']
    exact congrArg k (by simp)
theorem ev_b_some {α : Type} {b : Bool} {x : Option α} {r : α} (h : ev_b b x none = some r) : b = true ∧ x = some r := by
  cases b with
  | false => cases h
  | true => exact ⟨rfl, h⟩
theorem ev_b_none {α : Type} {b : Bool} {x : Option α} {r : α} (h : ev_b b none x = some r) : b = false ∧ x = some r := by
  cases b with
  | true => cases h
  | false => exact ⟨rfl, h⟩
theorem ev_b_or {α : Type} {b : Bool} {x y : Option α} {r : α} (h : ev_b b x y = some r) : (b = true ∧ x = some r) ∨ (b = false ∧ y = some r) := by
  cases b with
  | true => exact Or.inl ⟨rfl, h⟩
  | false => exact Or.inr ⟨rfl, h⟩
theorem ev_i_some {α : Type} {v : Nat} {x : Option α} {r : α} (h : ev_i v x = some r) : v % 4 = 0 ∧ x = some r := by
  obtain ⟨h1, h2⟩ := ev_b_some h
  exact ⟨Nat.eq_of_beq_eq_true h1, h2⟩
theorem ev_l_some {α : Type} {v : Nat} {x : Option α} {r : α} (h : ev_l v x = some r) : v % 4 = 1 ∧ x = some r := by
  obtain ⟨h1, h2⟩ := ev_b_some h
  exact ⟨Nat.eq_of_beq_eq_true h1, h2⟩
theorem ev_r_some {α : Type} {v : Nat} {k : Nat → Option α} {r : α} (h : ev_r v k = some r) : v % 4 = 2 ∧ k (v / 4) = some r := by
  obtain ⟨h1, h2⟩ := ev_b_some h
  exact ⟨Nat.eq_of_beq_eq_true h1, by rw [ev_nf_eq] at h2; exact h2⟩
theorem ev_if {α : Type} {c : Bool} {P : Prop} (hc : c = true ↔ P) {x y : Option α} {r : α} (h : ev_b c x y = some r) : (P ∧ x = some r) ∨ (¬ P ∧ y = some r) := by
  cases c with
  | true => exact Or.inl ⟨hc.mp rfl, h⟩
  | false => exact Or.inr ⟨fun q => absurd (hc.mpr q) (by decide), h⟩
theorem zb_eq {a b : Nat} : Nat.beq a b = true ↔ a = b := ⟨Nat.eq_of_beq_eq_true, fun h => by subst h; exact Nat.beq_refl a⟩
theorem zb_lt {a b : Nat} : Nat.blt a b = true ↔ a < b := by
  show Nat.ble (a + 1) b = true ↔ a < b
  exact ⟨fun h => Nat.le_of_ble_eq_true h, fun h => Nat.ble_eq_true_of_le h⟩
theorem zb_le {a b : Nat} : Nat.ble a b = true ↔ a ≤ b := ⟨Nat.le_of_ble_eq_true, Nat.ble_eq_true_of_le⟩
theorem zb_ne {a b : Nat} (h : Nat.beq a b = false) : a ≠ b := fun q => by subst q; rw [Nat.beq_refl] at h; cases h
/-- a long takes two places among the locals -/
def zl1 (v : Nat) : List Nat := if v % 4 = 1 then [v, 7] else [v]
theorem ev_take_some {α : Type} : ∀ (n : Nat) (st as : List Nat) (k : List Nat → List Nat → Option α) (r : α), ev_take n st as k = some r → ∃ a b, st = a ++ b ∧ a.length = n ∧ (∀ x ∈ a, x ≠ 7) ∧ k (a.reverse.flatMap zl1 ++ as) b = some r
  | 0, st, as, k, r, h => ⟨[], st, rfl, rfl, fun _ z => absurd z List.not_mem_nil, h⟩
  | n + 1, st, as, k, r, h => by
    replace h : ev_uc st (fun a t => ev_b (Nat.beq a 7) none (ev_take n t (ev_b (Nat.beq (Nat.mod a 4) 1) (a :: 7 :: as) (a :: as)) k)) = some r := h
    replace h := ev_uc_some h
    obtain ⟨a, t, rfl, h2⟩ := h
    obtain ⟨h7, h2⟩ := ev_b_none h2
    have h7 := zb_ne h7
    obtain ⟨a', b, rfl, hl, hx, h3⟩ := ev_take_some n t _ k r h2
    refine ⟨a :: a', b, rfl, by simp [hl], fun x hm => ?_, ?_⟩
    · rcases List.mem_cons.mp hm with rfl | hm
      · exact h7
      · exact hx x hm
    rw [← h3]
    congr 1
    rw [List.reverse_cons, List.flatMap_append, List.append_assoc]
    congr 1
    rw [ev_b_eq]
    by_cases q : a % 4 = 1
    · rw [if_pos (show Nat.beq (Nat.mod a 4) 1 = true from zb_eq.mpr q)]
      simp [zl1, q]
    · rw [if_neg (show ¬ Nat.beq (Nat.mod a 4) 1 = true from fun z => q (zb_eq.mp z))]
      simp [zl1, q]
theorem ev_app_eq {α : Type} (t : List Nat) : ∀ (l : List Nat) (k : List Nat → α), ev_app t l k = k (l ++ t)
  | [], _ => rfl
  | a :: l, k => ev_app_eq t l (fun r => k (a :: r))
theorem ev_upto_some {α : Type} : ∀ (n : Nat) (st : List Nat) (x : Option α) (r : α), ev_upto n st x = some r → st.length ≤ n ∧ x = some r
  | 0, [], _, _, h => ⟨Nat.le_refl _, h⟩
  | 0, _ :: _, _, _, h => by cases h
  | _ + 1, [], _, _, h => ⟨Nat.zero_le _, h⟩
  | n + 1, _ :: t, x, r, h => by
    obtain ⟨h1, h2⟩ := ev_upto_some n t x r h
    exact ⟨by simp only [List.length_cons]; omega, h2⟩
theorem ev_drop_eq {α : Type} : ∀ (l : List Nat) (i : Nat) (k : List Nat → α), ev_drop l i k = k (l.drop i)
  | [], i, k => by cases i <;> rfl
  | _ :: _, 0, _ => rfl
  | _ :: t, i + 1, k => ev_drop_eq t i k
theorem ev_lay_some {α : Type} : ∀ (n : Nat) (src dst : List Nat) (k : List Nat → Option α) (r : α), ev_lay n src dst k = some r → n ≤ src.length ∧ n ≤ dst.length ∧ (∀ x ∈ src.take n, x < 512) ∧ k (src.take n ++ dst.drop n) = some r
  | 0, _, _, _, _, h => ⟨Nat.zero_le _, Nat.zero_le _, (fun x hx => by rw [List.take_zero] at hx; cases hx), h⟩
  | n + 1, src, dst, k, r, h => by
    replace h : ev_uc src (fun a s' => ev_b (Nat.blt a 512) (ev_uc dst fun _ d' => ev_lay n s' d' (fun t => k (a :: t))) none) = some r := h
    replace h := ev_uc_some h
    obtain ⟨a, s', rfl, h⟩ := h
    replace h := ev_b_some h
    obtain ⟨ha, h⟩ := h
    replace h := ev_uc_some h
    obtain ⟨b, d', rfl, h⟩ := h
    obtain ⟨h1, h2, hx, h3⟩ := ev_lay_some n s' d' _ r h
    refine ⟨by simp only [List.length_cons]; omega, by simp only [List.length_cons]; omega, fun x h4 => ?_, h3⟩
    rw [List.take_succ_cons] at h4
    rcases List.mem_cons.mp h4 with rfl | h4
    · exact zb_lt.mp ha
    · exact hx x h4
theorem ev_over_some {α : Type} (n : Nat) (src : List Nat) : ∀ (dst : List Nat) (i : Nat) (k : List Nat → Option α) (r : α), ev_over n src dst i k = some r → n ≤ src.length ∧ i + n ≤ dst.length ∧ (∀ x ∈ src.take n, x < 512) ∧ k (dst.take i ++ (src.take n ++ dst.drop (i + n))) = some r
  | [], 0, k, r, h => by
    obtain ⟨h1, h2, hx, h3⟩ := ev_lay_some n src [] k r h
    exact ⟨h1, by omega, hx, by simpa using h3⟩
  | [], _ + 1, _, _, h => by cases h
  | a :: t, 0, k, r, h => by
    obtain ⟨h1, h2, hx, h3⟩ := ev_lay_some n src (a :: t) k r h
    exact ⟨h1, by omega, hx, by simpa using h3⟩
  | a :: t, i + 1, k, r, h => by
    obtain ⟨h1, h2, hx, h3⟩ := ev_over_some n src t i (fun t' => k (a :: t')) r h
    refine ⟨h1, by simp only [List.length_cons]; omega, hx, ?_⟩
    have e : i + 1 + n = (i + n) + 1 := by omega
    rw [e, List.drop_succ_cons, List.take_succ_cons]
    exact h3
theorem ev_pad_some {α : Type} : ∀ (n : Nat) (l : List Nat) (k : List Nat → Option α) (r : α), ev_pad n l k = some r → l.length ≤ n ∧ k (l ++ List.replicate (n - l.length) 7) = some r
  | 0, [], _, _, h => ⟨Nat.le_refl _, h⟩
  | 0, _ :: _, _, _, h => by cases h
  | n + 1, [], k, r, h => by
    obtain ⟨-, h2⟩ := ev_pad_some n [] (fun t => k (7 :: t)) r h
    exact ⟨Nat.zero_le _, h2⟩
  | n + 1, a :: t, k, r, h => by
    obtain ⟨h1, h2⟩ := ev_pad_some n t (fun t' => k (a :: t')) r h
    refine ⟨by simp only [List.length_cons]; omega, ?_⟩
    rw [List.length_cons, Nat.add_sub_add_right]
    exact h2
/-- where an instruction is found -/
def zcode (code : List (List ev_I)) (pc : Nat) : Option ev_I := (code[pc / 16]?).bind fun r => r[pc % 16]?
theorem ev_look_eq (code : List (List ev_I)) (pc : Nat) : ev_look code pc = zcode code pc := by
  have key2 : ∀ (a : List ev_I) (j : Nat), @List.rec ev_I (fun _ => Nat → Option ev_I) (fun _ => none) (fun f _ ih2 j => @Nat.rec (fun _ => Option ev_I) (some f) (fun j' _ => ih2 j') j) a j = a[j]? := by
    intro a
    induction a with
    | nil => intro j; rfl
    | cons f t ih =>
      intro j
      cases j with
      | zero => rfl
      | succ j => exact (ih j).trans (by simp)
  have key : ∀ (c : List (List ev_I)) (i j : Nat), @List.rec (List ev_I) (fun _ => Nat → Option ev_I) (fun _ => none) (fun a _ ih i => @Nat.rec (fun _ => Option ev_I) (@List.rec ev_I (fun _ => Nat → Option ev_I) (fun _ => none) (fun f _ ih2 j => @Nat.rec (fun _ => Option ev_I) (some f) (fun j' _ => ih2 j') j) a j) (fun j' _ => ih j') i) c i = (c[i]?).bind (fun q => q[j]?) := by
    intro c
    induction c with
    | nil => intro i j; rfl
    | cons a t ih =>
      intro i j
      cases i with
      | zero => exact key2 a j
      | succ i => exact (ih i j).trans (by simp)
  exact key code (pc / 16) (pc % 16)
theorem ev_fetch_some {code : List (List ev_I)} {pc : Nat} {k : ev_I → Option ev_R} {r : ev_R} (h : ev_fetch code pc k = some r) : ∃ ins, zcode code pc = some ins ∧ k ins = some r := by
  unfold ev_fetch at h
  rw [ev_look_eq] at h
  cases hc : zcode code pc with
  | none => rw [hc] at h; cases h
  | some ins => rw [hc] at h; exact ⟨ins, rfl, h⟩
theorem ev_mlook_eq : ∀ (tab : List ev_P) (i : Nat), ev_mlook tab i = tab[i]?
  | [], _ => rfl
  | _ :: _, 0 => rfl
  | _ :: t, i + 1 => (ev_mlook_eq t i).trans (by simp)
theorem ev_meth_some {α : Type} {k : ev_P → Option α} {r : α} {tab : List ev_P} {i : Nat} (h : ev_meth tab i k = some r) : ∃ q, tab[i]? = some q ∧ k q = some r := by
  unfold ev_meth at h
  rw [ev_mlook_eq] at h
  cases hc : tab[i]? with
  | none => rw [hc] at h; cases h
  | some q => rw [hc] at h; exact ⟨q, rfl, h⟩
/-! the cells -/
def zI (N : Nat) (B F : List (List Nat)) (top : Nat) : Prop := B.length = N ∧ top = N + F.length
theorem ev_at_some {α : Type} {N top id : Nat} {B F : List (List Nat)} {k : List Nat → Option α} {r : α} (hI : zI N B F top) (h : ev_at N B F top id k = some r) : ∃ c, (B ++ F.reverse)[id]? = some c ∧ k c = some r := by
  obtain ⟨hB, ht⟩ := hI
  rcases ev_if zb_lt h with ⟨h1, h2⟩ | ⟨h1, h2⟩
  · rw [ev_cell_eq] at h2
    refine ⟨_, ?_, h2⟩
    rw [List.getElem?_append_left (by omega), List.getD_eq_getElem?_getD]
    rw [List.getElem?_eq_getElem (by omega)]
    rfl
  · obtain ⟨h3, h4⟩ := ev_b_some h2
    have h3 := zb_lt.mp h3
    rw [ev_cell_eq] at h4
    refine ⟨_, ?_, h4⟩
    rw [List.getElem?_append_right (by omega), List.getElem?_reverse (by omega), List.getD_eq_getElem?_getD]
    have e : F.length - 1 - (id - B.length) = Nat.sub (Nat.pred top) id := by
      show _ = top - 1 - id
      omega
    rw [e, List.getElem?_eq_getElem (by show top - 1 - id < _; omega)]
    rfl
theorem ev_put_some {α : Type} {N top id : Nat} {B F : List (List Nat)} {v : List Nat} {k : List (List Nat) → List (List Nat) → Option α} {r : α} (hI : zI N B F top) (hid : id < top) (h : ev_put N B F top id v k = some r) :
    ∃ B' F', zI N B' F' top ∧ B' ++ F'.reverse = (B ++ F.reverse).set id v ∧ k B' F' = some r := by
  obtain ⟨hB, ht⟩ := hI
  rcases ev_if zb_lt h with ⟨h1, h2⟩ | ⟨h1, h2⟩
  · rw [ev_cset_eq] at h2
    refine ⟨_, _, ⟨by simp [hB], ht⟩, ?_, h2⟩
    rw [List.set_append_left _ _ (by omega)]
  · rw [ev_cset_eq] at h2
    refine ⟨_, _, ⟨hB, by simp [ht]⟩, ?_, h2⟩
    rw [List.set_append_right _ _ (by omega)]
    congr 1
    apply List.ext_getElem?
    intro i
    by_cases hi : i < F.length
    · rw [List.getElem?_reverse (by simpa using hi), List.getElem?_set, List.getElem?_set, List.length_set]
      have e2 : Nat.sub (Nat.pred top) id = top - 1 - id := rfl
      rw [e2, List.getElem?_reverse hi, List.length_reverse]
      by_cases q : id - B.length = i
      · rw [if_pos (by omega), if_pos q, if_pos (by omega), if_pos (by omega)]
      · rw [if_neg (by omega), if_neg q]
    · rw [List.getElem?_eq_none (by simp; omega), List.getElem?_eq_none (by simp; omega)]
theorem zI.len {N top : Nat} {B F : List (List Nat)} (h : zI N B F top) : (B ++ F.reverse).length = top := by
  simp [h.1, h.2]
theorem zI.push {N top : Nat} {B F : List (List Nat)} (h : zI N B F top) (c : List Nat) : zI N B (c :: F) (top + 1) ∧ B ++ (c :: F).reverse = (B ++ F.reverse) ++ [c] := ⟨⟨h.1, by simp [h.2]; omega⟩, by simp⟩
end
section
/-! what the numbers stand for: al gives a cell's address, tf the one reference of which nothing is known, gm the classes of arrays -/
def zv (al : Nat → Nat) (tf : Nat × Nat) (v : Nat) : Value := if v % 4 = 0 then .int (nI (v / 4)) else if v % 4 = 1 then .long (lN (v / 4)) else if v % 4 = 2 then .ref (al (v / 4)) else if v = 11 then .ref tf.1 else .null
def zr (al : Nat → Nat) (v : Nat) : Option Nat := if v % 4 = 2 then some (al (v / 4)) else none
theorem zv_i {al : Nat → Nat} {tf : Nat × Nat} {v : Nat} (h : v % 4 = 0) : zv al tf v = .int (nI (v / 4)) := if_pos h
theorem zv_l {al : Nat → Nat} {tf : Nat × Nat} {v : Nat} (h : v % 4 = 1) : zv al tf v = .long (lN (v / 4)) := by
  unfold zv
  rw [if_neg (by omega), if_pos h]
theorem zv_r {al : Nat → Nat} {tf : Nat × Nat} {v : Nat} (h : v % 4 = 2) : zv al tf v = .ref (al (v / 4)) := by
  unfold zv
  rw [if_neg (by omega), if_neg (by omega), if_pos h]
theorem zv_f {al : Nat → Nat} {tf : Nat × Nat} : zv al tf 11 = .ref tf.1 := rfl
theorem zv_n {al : Nat → Nat} {tf : Nat × Nat} : zv al tf 3 = .null := rfl
theorem zv_c1 {al : Nat → Nat} {tf : Nat × Nat} {v : Nat} (h : v % 4 ≠ 1) : (zv al tf v).category = 1 := by
  unfold zv
  by_cases h0 : v % 4 = 0
  · rw [if_pos h0]; rfl
  rw [if_neg h0, if_neg h]
  by_cases h2 : v % 4 = 2
  · rw [if_pos h2]; rfl
  rw [if_neg h2]
  by_cases h3 : v = 11
  · rw [if_pos h3]; rfl
  · rw [if_neg h3]; rfl
theorem zv_c {al : Nat → Nat} {tf : Nat × Nat} {v : Nat} : (zv al tf v).category ≤ 2 := by
  rcases lv_cat (zv al tf v) with h | h <;> omega
theorem zv_k {al : Nat → Nat} {tf : Nat × Nat} (n : Nat) : zv al tf (4 * n) = .int (nI n) := by
  rw [zv_i (by omega)]
  congr 2
  omega
theorem zv_kl {al : Nat → Nat} {tf : Nat × Nat} (n : Nat) : zv al tf (4 * n + 1) = .long (lN n) := by
  rw [zv_l (by omega)]
  congr 2
  omega
theorem zv_kr {al : Nat → Nat} {tf : Nat × Nat} (n : Nat) : zv al tf (4 * n + 2) = .ref (al n) := by
  rw [zv_r (by omega)]
  congr 2
  omega
/-! numbers -/
theorem zn_mod (n : Nat) : nI (n % 4294967296) = nI n := by
  apply Int32.toBitVec_inj.mp
  show BitVec.ofNat 32 (n % 4294967296) = BitVec.ofNat 32 n
  apply BitVec.eq_of_toNat_eq
  simp only [BitVec.toNat_ofNat]
  omega
theorem zl_mod (n : Nat) : lN (n % 18446744073709551616) = lN n := by
  apply Int64.toBitVec_inj.mp
  show BitVec.ofNat 64 (n % 18446744073709551616) = BitVec.ofNat 64 n
  apply BitVec.eq_of_toNat_eq
  simp only [BitVec.toNat_ofNat]
  omega
theorem zn_inj {a b : Nat} (ha : a < 4294967296) (hb : b < 4294967296) (h : nI a = nI b) : a = b := by
  have h1 := congrArg (fun x : Int32 => x.toBitVec.toNat) h
  have e : ∀ n, n < 4294967296 → (nI n).toBitVec.toNat = n := fun n hn => by
    show (BitVec.ofNat 32 n).toNat = n
    rw [BitVec.toNat_ofNat]
    omega
  simp only [e a ha, e b hb] at h1
  exact h1
theorem zn_toInt {n : Nat} (h : n < 4294967296) : (nI n).toInt = if n < 2147483648 then (n : Int) else (n : Int) - 4294967296 := by
  show (BitVec.ofNat 32 n).toInt = _
  rw [BitVec.toInt_eq_toNat_cond, BitVec.toNat_ofNat]
  have e : n % 2 ^ 32 = n := Nat.mod_eq_of_lt (by omega)
  rw [e]
  by_cases q : n < 2147483648
  · rw [if_pos (by omega), if_pos q]
  · rw [if_neg (by omega), if_neg q]
    rfl
theorem zn_lt {a b : Nat} (ha : a < 4294967296) (hb : b < 4294967296) : nI a < nI b ↔ (a + 2147483648) % 4294967296 < (b + 2147483648) % 4294967296 := by
  rw [Int32.lt_iff_toInt_lt, zn_toInt ha, zn_toInt hb]
  split <;> split <;> omega
theorem zn_le {a b : Nat} (ha : a < 4294967296) (hb : b < 4294967296) : nI a ≤ nI b ↔ ¬ (b + 2147483648) % 4294967296 < (a + 2147483648) % 4294967296 := by
  rw [Int32.le_iff_toInt_le, zn_toInt ha, zn_toInt hb]
  split <;> split <;> omega
theorem zn_lt0 {a : Nat} (ha : a < 4294967296) : nI a < 0 ↔ ¬ a < 2147483648 := by
  have h := zn_lt ha (show 0 < 4294967296 by omega)
  rw [nI_0] at h
  rw [h]
  omega
theorem zn_le0 {a : Nat} (ha : a < 4294967296) : nI a ≤ 0 ↔ a = 0 ∨ ¬ a < 2147483648 := by
  have h := zn_le ha (show 0 < 4294967296 by omega)
  rw [nI_0] at h
  rw [h]
  omega
theorem zn_eq0 {a : Nat} (ha : a < 4294967296) : nI a = 0 ↔ a = 0 := by
  constructor
  · intro h
    exact zn_inj ha (by omega) (by rw [h, nI_0])
  · rintro rfl
    exact nI_0
/-! the locals -/
def zlf (al : Nat → Nat) (tf : Nat × Nat) : Nat → List Nat → List (Nat × Value)
  | _, [] => []
  | i, v :: t => if v = 7 then zlf al tf (i + 1) t else (i, zv al tf v) :: zlf al tf (i + 1) t
theorem zlf_mem {al : Nat → Nat} {tf : Nat × Nat} {q : Nat × Value} : ∀ {ls : List Nat} {i : Nat}, q ∈ zlf al tf i ls ↔ ∃ j v, q.1 = i + j ∧ ls[j]? = some v ∧ v ≠ 7 ∧ q.2 = zv al tf v
  | [], i => by
    constructor
    · intro h; cases h
    · rintro ⟨j, v, -, h, -⟩
      simp at h
  | a :: t, i => by
    have ih := @zlf_mem al tf q t (i + 1)
    have key : (∃ j v, q.1 = i + j ∧ (a :: t)[j]? = some v ∧ v ≠ 7 ∧ q.2 = zv al tf v) ↔ (q.1 = i ∧ a ≠ 7 ∧ q.2 = zv al tf a) ∨ ∃ j v, q.1 = i + 1 + j ∧ t[j]? = some v ∧ v ≠ 7 ∧ q.2 = zv al tf v := by
      constructor
      · rintro ⟨j, v, h1, h2, h3, h4⟩
        cases j with
        | zero =>
          simp at h2
          subst h2
          exact Or.inl ⟨h1, h3, h4⟩
        | succ j => exact Or.inr ⟨j, v, by omega, by simpa using h2, h3, h4⟩
      · rintro (⟨h1, h2, h3⟩ | ⟨j, v, h1, h2, h3, h4⟩)
        · exact ⟨0, a, h1, rfl, h2, h3⟩
        · exact ⟨j + 1, v, by omega, by simpa using h2, h3, h4⟩
    rw [key, ← ih]
    show q ∈ (if a = 7 then zlf al tf (i + 1) t else (i, zv al tf a) :: zlf al tf (i + 1) t) ↔ _
    by_cases h7 : a = 7
    · rw [if_pos h7]
      constructor
      · exact Or.inr
      · rintro (⟨-, h, -⟩ | h)
        · exact absurd h7 h
        · exact h
    · rw [if_neg h7, List.mem_cons]
      constructor
      · rintro (rfl | h)
        · exact Or.inl ⟨rfl, h7, rfl⟩
        · exact Or.inr h
      · rintro (⟨h1, -, h3⟩ | h)
        · exact Or.inl (Prod.ext h1 h3)
        · exact Or.inr h
def zFr (al : Nat → Nat) (tf : Nat × Nat) (ls : List Nat) (LS : Array Slot) : Prop := lv_has LS ls.length (zlf al tf 0 ls)
theorem zFr.at {al : Nat → Nat} {tf : Nat × Nat} {ls : List Nat} {LS : Array Slot} (h : zFr al tf ls LS) {i : Nat} (h7 : ls.getD i 7 ≠ 7) : LS[i]? = some (.val (zv al tf (ls.getD i 7))) ∧ i < ls.length := by
  rw [List.getD_eq_getElem?_getD] at h7 ⊢
  cases hv : ls[i]? with
  | none => rw [hv] at h7; exact absurd rfl h7
  | some v =>
    rw [hv] at h7
    exact ⟨h.2.2 (i, zv al tf v) (zlf_mem.mpr ⟨i, v, (Nat.zero_add i).symm, hv, h7, rfl⟩), (List.getElem?_eq_some_iff.mp hv).1⟩
theorem zFr.st1 {al : Nat → Nat} {tf : Nat × Nat} {ls : List Nat} {LS : Array Slot} {i v : Nat} {x : Value} {lv : List (Nat × Value)} (hlv : ∀ q ∈ zlf al tf 0 ls, q ∈ lv) (h : lv_has LS ls.length ((i, x) :: lv.filter (fun q => !(q.1 == i) && !(q.1 + 1 == i && q.2.category == 2)))) (hv : zv al tf v = x) (hp : ls.getD (i - 1) 7 % 4 ≠ 1) : zFr al tf (ls.set i v) LS := by
  refine ⟨by rw [List.length_set]; exact h.1, h.2.1, fun q hq => ?_⟩
  obtain ⟨j, w, h1, h2, h3, h4⟩ := zlf_mem.mp hq
  rw [Nat.zero_add] at h1
  rw [List.getElem?_set] at h2
  by_cases hj : i = j
  · rw [if_pos hj] at h2
    by_cases hl : i < ls.length
    · rw [if_pos (by omega)] at h2
      cases h2
      refine h.2.2 q ?_
      rw [List.mem_cons]
      exact Or.inl (Prod.ext (by rw [h1]; exact hj.symm) (h4.trans hv))
    · rw [if_neg (by omega)] at h2
      cases h2
  · rw [if_neg hj] at h2
    refine h.2.2 q (List.mem_cons_of_mem _ (List.mem_filter.mpr ⟨hlv q (zlf_mem.mpr ⟨j, w, by omega, h2, h3, h4⟩), ?_⟩))
    have hne : q.1 ≠ i := by omega
    simp only [Bool.and_eq_true, Bool.not_eq_true', beq_eq_false_iff_ne, Bool.and_eq_false_iff]
    refine ⟨hne, ?_⟩
    by_cases hi : q.1 + 1 = i
    · right
      have hw : ls.getD (i - 1) 7 = w := by
        rw [List.getD_eq_getElem?_getD, show i - 1 = j by omega, h2]
        rfl
      rw [h4, zv_c1 (by rw [← hw]; exact hp)]
      decide
    · exact Or.inl hi
theorem zFr.st2 {al : Nat → Nat} {tf : Nat × Nat} {ls : List Nat} {LS : Array Slot} {i v : Nat} {x : Value} {lv : List (Nat × Value)} (hlv : ∀ q ∈ zlf al tf 0 ls, q ∈ lv) (h : lv_has LS ls.length ((i, x) :: lv.filter (fun q => !(q.1 == i) && (!(q.1 == i + 1) && !(q.1 + 1 == i && q.2.category == 2))))) (hv : zv al tf v = x) (hp : ls.getD (i - 1) 7 % 4 ≠ 1) : zFr al tf ((ls.set i v).set (i + 1) 7) LS := by
  refine ⟨by rw [List.length_set, List.length_set]; exact h.1, h.2.1, fun q hq => ?_⟩
  obtain ⟨j, w, h1, h2, h3, h4⟩ := zlf_mem.mp hq
  rw [Nat.zero_add] at h1
  rw [List.getElem?_set, List.getElem?_set, List.length_set] at h2
  by_cases hk : i + 1 = j
  · rw [if_pos hk] at h2
    by_cases hl : j < ls.length
    · rw [if_pos (by omega)] at h2
      cases h2
      exact absurd rfl h3
    · rw [if_neg (by omega)] at h2
      cases h2
  rw [if_neg hk] at h2
  by_cases hj : i = j
  · rw [if_pos hj] at h2
    by_cases hl : i < ls.length
    · rw [if_pos (by omega)] at h2
      cases h2
      refine h.2.2 q ?_
      rw [List.mem_cons]
      exact Or.inl (Prod.ext (by rw [h1]; exact hj.symm) (h4.trans hv))
    · rw [if_neg (by omega)] at h2
      cases h2
  · rw [if_neg hj] at h2
    refine h.2.2 q (List.mem_cons_of_mem _ (List.mem_filter.mpr ⟨hlv q (zlf_mem.mpr ⟨j, w, by omega, h2, h3, h4⟩), ?_⟩))
    have hne : q.1 ≠ i := by omega
    have hne2 : q.1 ≠ i + 1 := by omega
    simp only [Bool.and_eq_true, Bool.not_eq_true', beq_eq_false_iff_ne, Bool.and_eq_false_iff]
    refine ⟨hne, hne2, ?_⟩
    by_cases hi : q.1 + 1 = i
    · right
      have hw : ls.getD (i - 1) 7 = w := by
        rw [List.getD_eq_getElem?_getD, show i - 1 = j by omega, h2]
        rfl
      rw [h4, zv_c1 (by rw [← hw]; exact hp)]
      decide
    · exact Or.inl hi
/-! the cells -/
def ze (al : Nat → Nat) (tf : Nat × Nat) (gm : Nat → ClassId) : List Nat → va_E
  | [] => .inr (0, [])
  | kd :: fs => if 16 ≤ kd then .inr (kd - 16, fs.map (zv al tf)) else if kd < 2 then .inl (gm kd, fs.length, .inl (fun j => nI (fs.getD j 0 / 4))) else .inl (gm kd, fs.length, .inr (.inr (.inr (.inr (fun j => zr al (fs.getD j 3))))))
theorem ze_o {al : Nat → Nat} {tf : Nat × Nat} {gm : Nat → ClassId} (c : Nat) (fs : List Nat) : ze al tf gm ((16 + c) :: fs) = .inr (c, fs.map (zv al tf)) := by
  show (if 16 ≤ 16 + c then _ else _) = _
  rw [if_pos (by omega), Nat.add_sub_cancel_left]
theorem ze_n {al : Nat → Nat} {tf : Nat × Nat} {gm : Nat → ClassId} {q : Nat} (h : q < 2) (fs : List Nat) : ze al tf gm (q :: fs) = .inl (gm q, fs.length, .inl (fun j => nI (fs.getD j 0 / 4))) := by
  show (if 16 ≤ q then _ else _) = _
  rw [if_neg (by omega), if_pos h]
theorem ze_q {al : Nat → Nat} {tf : Nat × Nat} {gm : Nat → ClassId} {q : Nat} (h : 2 ≤ q) (h2 : q < 16) (fs : List Nat) : ze al tf gm (q :: fs) = .inl (gm q, fs.length, .inr (.inr (.inr (.inr (fun j => zr al (fs.getD j 3)))))) := by
  show (if 16 ≤ q then _ else _) = _
  rw [if_neg (by omega), if_neg (by omega)]
def zw (al : Nat → Nat) (tf : Nat × Nat) (gm : Nat → ClassId) (w : List (List Nat)) : va_W := w.mapIdx fun i c => (al i, ze al tf gm c)
theorem zw_get {al : Nat → Nat} {tf : Nat × Nat} {gm : Nat → ClassId} {w : List (List Nat)} {i : Nat} {c : List Nat} (h : w[i]? = some c) : (zw al tf gm w)[i]? = some (al i, ze al tf gm c) := by
  unfold zw
  rw [List.getElem?_mapIdx, h]
  rfl
theorem zw_of {al : Nat → Nat} {tf : Nat × Nat} {gm : Nat → ClassId} {w : List (List Nat)} {i : Nat} {x : Nat × va_E} (h : (zw al tf gm w)[i]? = some x) : ∃ c, w[i]? = some c ∧ x = (al i, ze al tf gm c) := by
  unfold zw at h
  rw [List.getElem?_mapIdx] at h
  cases hc : w[i]? with
  | none => rw [hc] at h; cases h
  | some c => rw [hc] at h; exact ⟨c, rfl, (Option.some.inj h).symm⟩
theorem zw_len {al : Nat → Nat} {tf : Nat × Nat} {gm : Nat → ClassId} {w : List (List Nat)} : (zw al tf gm w).length = w.length := by unfold zw; exact List.length_mapIdx
theorem zw_set {al : Nat → Nat} {tf : Nat × Nat} {gm : Nat → ClassId} {w : List (List Nat)} {i : Nat} {c : List Nat} : zw al tf gm (w.set i c) = (zw al tf gm w).set i (al i, ze al tf gm c) := by
  apply List.ext_getElem?
  intro j
  unfold zw
  rw [List.getElem?_mapIdx, List.getElem?_set, List.getElem?_set, List.getElem?_mapIdx, List.length_mapIdx]
  by_cases h : i = j
  · subst h
    rw [if_pos rfl, if_pos rfl]
    by_cases hl : i < w.length
    · rw [if_pos hl, if_pos hl]; rfl
    · rw [if_neg hl, if_neg hl]; rfl
  · rw [if_neg h, if_neg h]
theorem zw_push {al : Nat → Nat} {tf : Nat × Nat} {gm : Nat → ClassId} {w : List (List Nat)} {c : List Nat} : zw al tf gm (w ++ [c]) = zw al tf gm w ++ [(al w.length, ze al tf gm c)] := by
  unfold zw
  rw [List.mapIdx_append]
  simp [List.mapIdx_cons]
def zA (al : Nat → Nat) : Nat → Prop := fun q => ∃ i, q = al i
theorem zw_D {al : Nat → Nat} {tf : Nat × Nat} {gm : Nat → ClassId} (hinj : ∀ i j, al i = al j → i = j) (w : List (List Nat)) : va_D (zA al) (zw al tf gm w) := by
  refine ⟨fun i j p q h1 h2 h3 => ?_, fun k q h => ?_⟩
  · obtain ⟨_, -, rfl⟩ := zw_of h1
    obtain ⟨_, -, rfl⟩ := zw_of h2
    exact hinj i j h3
  · obtain ⟨_, -, rfl⟩ := zw_of h
    exact ⟨k, rfl⟩
def zH (al : Nat → Nat) (tf : Nat × Nat) (gm : Nat → ClassId) (dC : Nat → ClassId) (dI : Nat → Nat → Nat) (w : List (List Nat)) (H : Heap) : Prop := va_P (dC, dI) vwCl (zw al tf gm w) H ∧ ∀ i, al (w.length + i) = H.size + i
abbrev ztys (gm : Nat → ClassId) : List (ClassId × FieldType) := [(gm 0, .int), (gm 1, .byte), (gm 2, .object RX1), (gm 3, .object RX0), (gm 4, .array .int)]
abbrev zK (gm : Nat → ClassId) (dC : Nat → ClassId) (dI : Nat → Nat → Nat) (U : State) : Prop := va_K (dC, dI) vwCl (ztys gm) U
def zstrs : List (String × Nat × String × Nat) := [("Rowtricks", 337, ", ", 1), ("RowtricksModel", 100, "[", 3), ("RowtricksModel", 109, ", ", 1), ("RowtricksModel", 111, "", 7), ("RowtricksModel", 116, ".", 9), ("RowtricksModel", 122, "]", 11), ("RowtricksModel", 179, "-", 13)]
def znf : List (String × Nat × String × String × String × String) := [("Rowtricks", 100, "Rowtricks$Row", "state", "I", "Rowtricks"), ("Rowtricks", 201, "Rowtricks$Part", "from", "I", "Rowtricks"), ("Rowtricks", 208, "Rowtricks$Part", "to", "I", "Rowtricks"), ("Rowtricks", 211, "Rowtricks$Row", "next", "I", "Rowtricks"), ("Rowtricks", 293, "Rowtricks$Part", "row", "LRowtricks$Row;", "Rowtricks"), ("Rowtricks", 51, "Rowtricks$Row", "count", "I", "Rowtricks"), ("RowtricksLaw", 13, "RowtricksLaw$Out", "n", "J", "RowtricksLaw"), ("RowtricksLaw", 80, "RowtricksLaw$Out", "s", "Ljava/lang/String;", "RowtricksLaw")]
def znm : List (String × Nat × MethodName × String) := [("Rowtricks", 103, ⟨"Rowtricks$Row", "cardAt", "(I)I"⟩, "Rowtricks"), ("Rowtricks", 116, ⟨"Rowtricks$Row", "arrange", "(IIZ)V"⟩, "Rowtricks"), ("Rowtricks", 120, ⟨"Rowtricks$Row", "firstValue", "(II)I"⟩, "Rowtricks"), ("Rowtricks", 127, ⟨"Rowtricks$Row", "markAt", "(I)I"⟩, "Rowtricks"), ("Rowtricks", 130, ⟨"Rowtricks$Row", "howOften", "(I)I"⟩, "Rowtricks"), ("Rowtricks", 133, ⟨"Rowtricks$Row", "lastPlaceOf", "(I)I"⟩, "Rowtricks"), ("Rowtricks", 136, ⟨"Rowtricks$Row", "firstPlaceOf", "(I)I"⟩, "Rowtricks"), ("Rowtricks", 143, ⟨"Rowtricks$Row", "isLike", "(LRowtricks$Row;)Z"⟩, "Rowtricks"), ("Rowtricks", 15, ⟨"Rowtricks$Row", "<init>", "()V"⟩, "Rowtricks"), ("Rowtricks", 181, ⟨"Rowtricks$Part", "lay", "(LRowtricks$Row;LRowtricks$Part;II)V"⟩, "Rowtricks"), ("Rowtricks", 185, ⟨"Rowtricks$Part", "many", "()I"⟩, "Rowtricks"), ("Rowtricks", 193, ⟨"Rowtricks$Part", "isWithin", "(LRowtricks$Part;)Z"⟩, "Rowtricks"), ("Rowtricks", 204, ⟨"Rowtricks$Part", "isThere", "()Z"⟩, "Rowtricks"), ("Rowtricks", 218, ⟨"Rowtricks$Part", "hasPlace", "(I)Z"⟩, "Rowtricks"), ("Rowtricks", 22, ⟨"Rowtricks$Part", "<init>", "()V"⟩, "Rowtricks"), ("Rowtricks", 233, ⟨"Rowtricks$Row", "placeOf", "(IILRowtricks$Row;II)I"⟩, "Rowtricks"), ("Rowtricks", 298, ⟨"Rowtricks$Row", "hasPlace", "(I)Z"⟩, "Rowtricks"), ("Rowtricks", 311, ⟨"Rowtricks$Row", "exchange", "(II)V"⟩, "Rowtricks"), ("Rowtricks", 314, ⟨"Rowtricks$Row", "turn", "(II)V"⟩, "Rowtricks"), ("Rowtricks", 317, ⟨"Rowtricks$Row", "push", "(III)V"⟩, "Rowtricks"), ("Rowtricks", 43, ⟨"Rowtricks$Row", "putBehind", "(I)V"⟩, "Rowtricks"), ("Rowtricks", 61, ⟨"Rowtricks$Row", "putBetween", "(II)V"⟩, "Rowtricks"), ("Rowtricks", 68, ⟨"Rowtricks$Row", "valueAt", "(I)I"⟩, "Rowtricks"), ("Rowtricks", 72, ⟨"Rowtricks$Row", "takeOut", "(II)V"⟩, "Rowtricks"), ("Rowtricks", 85, ⟨"Rowtricks$Row", "putCopiesBehind", "(II)V"⟩, "Rowtricks"), ("Rowtricks", 91, ⟨"Rowtricks$Row", "putAllBehind", "(LRowtricks$Row;)V"⟩, "Rowtricks"), ("Rowtricks", 94, ⟨"Rowtricks$Row", "becomeLike", "(LRowtricks$Row;)V"⟩, "Rowtricks"), ("Rowtricks", 97, ⟨"Rowtricks$Row", "put", "(II)V"⟩, "Rowtricks"), ("Rowtricks$Row", 60, ⟨"Rowtricks", "comesBefore", "(IIZ)Z"⟩, "Rowtricks"), ("RowtricksLaw", 184, ⟨"RowtricksLaw$Out", "<init>", "()V"⟩, "RowtricksLaw")]
/-- arrays of arrays stay -/
theorem zaoA_moved {t : FieldType} {u U : State} (hvm : u.vm.Alike U.vm) (h : va_Nw (.arrayOver (.array t)) u) : va_Nw (.arrayOver (.array t)) U := by
  obtain ⟨comp, c, k, h1, h2, h3, h4, h5⟩ := arrayOverA_spec h
  obtain ⟨k', hk', he⟩ := hvm.2.2 _ _ h3
  have hi : (U.vm.classes.findIdx? fun (x : Class) => match x.kind with | .array component _ => component == comp | _ => false) = some c := by
    rw [hvm.findIdx?_eq _ (fun _ => rfl)]
    exact h2
  have hkind : k'.kind = .array comp (.array t) := by rw [he]; exact h4
  have f1 : U.vm.findClass (FieldType.array t).toString = some comp := by rw [hvm.findClass]; exact h1
  have f2 : U.vm.findClass ("[" ++ (FieldType.array t).toString) = some c := by rw [hvm.findClass]; exact h5
  unfold va_Nw Cond.before Cond.holds
  simp only [Cond.value]
  rw [f1, Option.bind_some]
  refine (congrArg (fun o : Option Nat => (o.bind (fun c => (U.vm.classes[c]?).map fun (k : Class) => match k.kind with | .array _ ty => decide (ty = FieldType.array t) && decide (U.vm.findClass ("[" ++ (FieldType.array t).toString) = some c) | _ => false) == some true)) hi).trans ?_
  simp [hk', hkind, f2]
def zao : List FieldType := [.object RX1, .object RX0, .array .int]
theorem zao_moved {u U : State} (hvm : u.vm.Alike U.vm) (h : ∀ t ∈ zao, va_Nw (.arrayOver t) u) : ∀ t ∈ zao, va_Nw (.arrayOver t) U := by
  intro t ht
  have h1 := h t ht
  unfold zao at ht
  simp only [List.mem_cons, List.not_mem_nil, or_false] at ht
  rcases ht with rfl | rfl | rfl
  · exact va_AO.moved hvm h1
  · exact va_AO.moved hvm h1
  · exact zaoA_moved hvm h1
/-- the statics that digest() reads, and its texts -/
def zQ (al : Nat → Nat) (tf : Nat × Nat) (U : State) : Prop :=
  va_Z RJ0 "COMPACT_STRINGS" "Z" (.int 1) (zA al) U U.heap ∧ va_Z RJ6 "DigitOnes" "[B" (.ref (al (tf.2 + 14))) (zA al) U U.heap ∧ va_Z RJ6 "DigitTens" "[B" (.ref (al (tf.2 + 15))) (zA al) U U.heap ∧
  va_Z RJ3 "SIOOBE_FORMATTER" "Ljava/util/function/BiFunction;" (.ref tf.1) (zA al) U U.heap ∧ (∀ q ∈ zstrs, vk_R q.1 q.2.1 q.2.2.1 (al (tf.2 + q.2.2.2)) U) ∧ (∀ q ∈ znf, va_Nw (.fieldLinkNest q.1 q.2.1 q.2.2.1 q.2.2.2.1 q.2.2.2.2.1 q.2.2.2.2.2) U) ∧ (∀ q ∈ znm, va_Nw (.methodLinkNest q.1 q.2.1 q.2.2.1 q.2.2.2) U) ∧ va_Nw (.castable "[I" "java/lang/Cloneable") U ∧ ∀ t ∈ zao, va_Nw (.arrayOver t) U
/-- the private methods of StringBuilder's superclass, on a StringBuilder -/
def zsn : List MethodName := [⟨"java/lang/AbstractStringBuilder", "ensureCapacityInternal", "(I)V"⟩, ⟨"java/lang/AbstractStringBuilder", "newCapacity", "(I)I"⟩, ⟨"java/lang/AbstractStringBuilder", "putStringAt", "(ILjava/lang/String;)V"⟩, ⟨"java/lang/AbstractStringBuilder", "inflateIfNeededFor", "(Ljava/lang/String;)V"⟩]
def zsup : List Cond := zsn.map fun x => Cond.selects "java/lang/StringBuilder" x x
def zTS : List Cond := lw_tbl.filter goodWord ++ zsup
theorem zTS_su {w : Cond} (i : Nat) (h : zsup[i]? = some w) : w ∈ zTS := List.mem_append_right _ (List.mem_of_getElem? h)
theorem zTS_good {w : Cond} (h : w ∈ zTS) : goodWord w = true := by
  rcases List.mem_append.mp h with h | h
  · exact (List.mem_filter.mp h).2
  · obtain ⟨x, -, rfl⟩ := List.mem_map.mp h
    rfl
theorem zTS_in {w : Cond} (i : Nat) (h : lw_tbl[i]? = some w) (hg : goodWord w = true) : w ∈ zTS := List.mem_append_left _ (List.mem_filter.mpr ⟨List.mem_of_getElem? h, hg⟩)
def zC : Nat → Nat
  | 0 => 64
  | d + 1 => ev_fuel * zC d
def zS : Nat → Nat
  | 0 => 65536
  | d + 1 => ev_fuel * zS d
theorem zC_64 : ∀ d, 64 ≤ zC d
  | 0 => Nat.le_refl _
  | d + 1 => by
    have h := zC_64 d
    show 64 ≤ 100000 * zC d
    omega
theorem zC_pos (d : Nat) : 1 ≤ zC d := Nat.le_trans (by omega) (zC_64 d)
theorem zS_pos : ∀ d, 65536 ≤ zS d
  | 0 => Nat.le_refl _
  | d + 1 => by
    have h := zS_pos d
    show 65536 ≤ 100000 * zS d
    omega
def zrm (d : Nat) : Room := { frames := d, cells := zC d, slots := zS d, locals := 40 * d }
end
section
/-! a site is sound: what the evaluator does there, the machine does -/
/-- what holds in a method's body: d is how deep its calls may go -/
def zM (al : Nat → Nat) (tf : Nat × Nat) (gm dC : Nat → ClassId) (dI : Nat → Nat → Nat) (d : Nat) (y : MethodName) (bytes : ByteArray) (maxL : Nat) (ret : Option FieldType) (p : Program) (R : Room) (s : State) (m : MethodId) (args : Array Value) (meth : Method) (c : Code) : Prop :=
  p.tables.exec = Jvm.exec ∧ c.code = bytes ∧ c.maxLocals = maxL ∧ meth.sig.returnType = ret ∧ meth.locks = false ∧ s.vm.findClass y.cls = some m.cls ∧ (∀ w ∈ zTS, w.before args s = true) ∧ (y.name = "<init>" → meth.name = "<init>") ∧ zK gm dC dI s ∧ zQ al tf s ∧ True ∧ (∀ i j, al i = al j → i = j) ∧ d + 1 ≤ R.frames ∧ 40 * d + 40 ≤ R.locals
/-- a frame that stands, with fuel f left -/
def zX (al : Nat → Nat) (tf : Nat × Nat) (gm dC : Nat → ClassId) (dI : Nat → Nat → Nat) (N d maxL f : Nat) (R : Room) (s : State) (ls : List Nat) (B F : List (List Nat)) (top : Nat) (H : Heap) (locs : List Loc) (cells slots : Nat) (LS : Array Slot) : Prop :=
  zFr al tf ls LS ∧ zI N B F top ∧ zH al tf gm dC dI (B ++ F.reverse) H ∧ va_S (zA al) s.heap H locs ∧ cells + f * zC d ≤ R.cells ∧ slots + f * zS d ≤ R.slots ∧ ls.length = maxL
theorem zX.down {al : Nat → Nat} {tf : Nat × Nat} {gm dC : Nat → ClassId} {dI : Nat → Nat → Nat} {N d maxL f : Nat} {R : Room} {s : State} {ls : List Nat} {B F : List (List Nat)} {top : Nat} {H : Heap} {locs : List Loc} {cells slots : Nat} {LS : Array Slot} (h : zX al tf gm dC dI N d maxL (f + 1) R s ls B F top H locs cells slots LS) : zX al tf gm dC dI N d maxL f R s ls B F top H locs cells slots LS := by
  obtain ⟨h1, h2, h3, h4, h5, h6, h7⟩ := h
  rw [Nat.succ_mul] at h5 h6
  exact ⟨h1, h2, h3, h4, by omega, by omega, h7⟩
theorem zX.locals {al : Nat → Nat} {tf : Nat × Nat} {gm dC : Nat → ClassId} {dI : Nat → Nat → Nat} {N d maxL f : Nat} {R : Room} {s : State} {ls ls' : List Nat} {B F : List (List Nat)} {top : Nat} {H : Heap} {locs : List Loc} {cells slots : Nat} {LS LS' : Array Slot} (h : zX al tf gm dC dI N d maxL f R s ls B F top H locs cells slots LS) (hF : zFr al tf ls' LS') (hl : ls'.length = ls.length) : zX al tf gm dC dI N d maxL f R s ls' B F top H locs cells slots LS' := by
  obtain ⟨-, h2, h3, h4, h5, h6, h7⟩ := h
  exact ⟨hF, h2, h3, h4, h5, h6, hl.trans h7⟩
/-- where the evaluator stops, the goal is reached -/
def zT (al : Nat → Nat) (tf : Nat × Nat) (gm dC : Nat → ClassId) (dI : Nat → Nat → Nat) (N d maxL : Nat) (p : Program) (l : Launch) (e : Env) (R : Room) (s : State) (m : MethodId) (args : Array Value) (below : List Frame) (meth : Method) (c : Code) (Q : State → Prop) (rt : Nat → Prop) (q : ev_R) : Prop :=
  ∀ H locs cells slots LS, rt q.1 → zX al tf gm dC dI N d maxL 0 R s q.2.1 q.2.2.2.1 q.2.2.2.2.1 q.2.2.2.2.2 H locs cells slots LS → W p l e R s m args below meth c H locs cells slots Q (F0 m q.1 LS (q.2.2.1.map (zv al tf)))
/-- the rest of the way is sound -/
def zG (al : Nat → Nat) (tf : Nat × Nat) (gm dC : Nat → ClassId) (dI : Nat → Nat → Nat) (N d maxL f : Nat) (p : Program) (l : Launch) (e : Env) (R : Room) (s : State) (m : MethodId) (args : Array Value) (below : List Frame) (meth : Method) (c : Code) (Q : State → Prop) (rt : Nat → Prop) (go : ev_G) : Prop :=
  ∀ pc ls st B F top q, go pc ls st B F top = some q → zT al tf gm dC dI N d maxL p l e R s m args below meth c Q rt q → ∀ H locs cells slots LS, zX al tf gm dC dI N d maxL f R s ls B F top H locs cells slots LS → W p l e R s m args below meth c H locs cells slots Q (F0 m pc LS (st.map (zv al tf)))
def zPre (al : Nat → Nat) (tf : Nat × Nat) (gm dC : Nat → ClassId) (dI : Nat → Nat → Nat) (as : List Nat) (w : List (List Nat)) : Array Value → State → Prop := fun a U => a = (as.map (zv al tf)).toArray ∧ zH al tf gm dC dI w U.heap ∧ zK gm dC dI U ∧ zQ al tf U
def zPost (al : Nat → Nat) (tf : Nat × Nat) (gm dC : Nat → ClassId) (dI : Nat → Nat → Nat) (N : Nat) (r : List Nat) (B F : List (List Nat)) (top : Nat) : Array Value → State → Outcome → State → Prop := fun _ st oc t => oc = .returned (r.head?.map (zv al tf)) ∧ (zH al tf gm dC dI (B ++ F.reverse) t.heap ∧ zI N B F top) ∧ va_F (zA al) st t
/-- the methods by their numbers: name, bytes, locals, what comes back -/
abbrev zMs : Type := List (MethodName × ByteArray × Nat × Option FieldType)
/-- calls are sound -/
def zCs (zi : zMs) (al : Nat → Nat) (tf : Nat × Nat) (gm dC : Nat → ClassId) (dI : Nat → Nat → Nat) (N d : Nat) (l : Launch) (call : ev_C) : Prop :=
  ∀ mi as B F top q, (∀ x ∈ as, x ≠ 7) → call mi (as.flatMap zl1) B F top = some q → zI N B F top → ∃ i : MethodName × ByteArray × Nat × Option FieldType, zi[mi]? = some i ∧ q.1.length ≤ 1 ∧ i.2.2.1 ≤ 21 ∧ Cond.code i.1 i.2.1 i.2.2.1 i.2.2.2 ∈ zTS ∧
    Met l i.1 (Cond.code i.1 i.2.1 i.2.2.1 i.2.2.2 :: zTS) (zrm d) (zPre al tf gm dC dI as (B ++ F.reverse)) (zPost al tf gm dC dI N q.1 q.2.1 q.2.2.1 q.2.2.2) (zC d) (zS d) (zA al)
/-- a place where the method returns -/
def zRet (bytes : ByteArray) (ret : Option FieldType) (pc : Nat) : Prop := (ret = none ∧ decode bytes pc = .ok (.return_, 1)) ∨ (∃ ty, ret = some ty ∧ (ty = .int ∨ ty = .boolean ∨ ty = .byte ∨ ty = .char) ∧ decode bytes pc = .ok (.ireturn, 1)) ∨ (ret = some .long ∧ decode bytes pc = .ok (.lreturn, 1)) ∨ (∃ ty, ret = some ty ∧ ((∃ n, ty = .object n) ∨ ∃ t, ty = .array t) ∧ decode bytes pc = .ok (.areturn, 1))
def zO (zi : zMs) (al : Nat → Nat) (tf : Nat × Nat) (gm dC : Nat → ClassId) (dI : Nat → Nat → Nat) (N d : Nat) (l : Launch) (y : MethodName) (bytes : ByteArray) (maxL : Nat) (ret : Option FieldType) (pc : Nat) (ins : ev_I) : Prop :=
  ∀ p e R s m args below meth c Q (rt : Nat → Prop), (∀ k, zRet bytes ret k → rt k) → ∀ call go f, zM al tf gm dC dI d y bytes maxL ret p R s m args meth c → zCs zi al tf gm dC dI N d l call → zG al tf gm dC dI N d maxL f p l e R s m args below meth c Q rt go →
    ∀ ls st B F top q, ins call go pc ls st B F top = some q → zT al tf gm dC dI N d maxL p l e R s m args below meth c Q rt q → ∀ H locs cells slots LS, zX al tf gm dC dI N d maxL (f + 1) R s ls B F top H locs cells slots LS → W p l e R s m args below meth c H locs cells slots Q (F0 m pc LS (st.map (zv al tf)))
section ZO
variable {zi : zMs} {al : Nat → Nat} {tf : Nat × Nat} {gm dC : Nat → ClassId} {dI : Nat → Nat → Nat} {N d : Nat} {l : Launch} {y : MethodName} {bytes : ByteArray} {maxL : Nat} {ret : Option FieldType} {pc : Nat}
theorem zo_iload {nx i : Nat} (hd : (∃ k : Fin 4, decode bytes pc = .ok (.iload_n k, 1) ∧ (k : Nat) = i ∧ nx = pc + 1) ∨ (decode bytes pc = .ok (.iload i, 2) ∧ nx = pc + 2)) : zO zi al tf gm dC dI N d l y bytes maxL ret pc (eo_iload nx i) := by
  intro p e R s m args below meth c Q rt hrt call go f hM hC hG ls st B F top q h hT H locs cells slots LS hX
  have h : ev_get 7 ls i (fun v => ev_i v (go nx ls (v :: st) B F top)) = some q := h
  rw [ev_get_eq] at h
  obtain ⟨h4, h⟩ := ev_i_some h
  have hl := (hX.1.at (i := i) (by omega)).1
  rw [zv_i h4] at hl
  have K := hG nx ls _ B F top q h hT H locs cells slots LS hX.down
  rw [List.map_cons, zv_i h4] at K
  rcases hd with ⟨k, hd, hk, rfl⟩ | ⟨hd, rfl⟩
  · exact lv_iload_n hM.1 hM.2.1 hd hk hl K
  · exact lv_iload hM.1 hM.2.1 hd hl K
theorem zo_lload {nx i : Nat} (hd : (∃ k : Fin 4, decode bytes pc = .ok (.lload_n k, 1) ∧ (k : Nat) = i ∧ nx = pc + 1) ∨ (decode bytes pc = .ok (.lload i, 2) ∧ nx = pc + 2)) : zO zi al tf gm dC dI N d l y bytes maxL ret pc (eo_lload nx i) := by
  intro p e R s m args below meth c Q rt hrt call go f hM hC hG ls st B F top q h hT H locs cells slots LS hX
  have h : ev_get 7 ls i (fun v => ev_l v (go nx ls (v :: st) B F top)) = some q := h
  rw [ev_get_eq] at h
  obtain ⟨h4, h⟩ := ev_l_some h
  have hl := (hX.1.at (i := i) (by omega)).1
  rw [zv_l h4] at hl
  have K := hG nx ls _ B F top q h hT H locs cells slots LS hX.down
  rw [List.map_cons, zv_l h4] at K
  rcases hd with ⟨k, hd, hk, rfl⟩ | ⟨hd, rfl⟩
  · exact lv_lload_n hM.1 hM.2.1 hd hk hl K
  · exact lv_lload hM.1 hM.2.1 hd hl K
theorem zo_aload {nx i : Nat} (hd : (∃ k : Fin 4, decode bytes pc = .ok (.aload_n k, 1) ∧ (k : Nat) = i ∧ nx = pc + 1) ∨ (decode bytes pc = .ok (.aload i, 2) ∧ nx = pc + 2)) : zO zi al tf gm dC dI N d l y bytes maxL ret pc (eo_aload nx i) := by
  intro p e R s m args below meth c Q rt hrt call go f hM hC hG ls st B F top q h hT H locs cells slots LS hX
  have h : ev_get 7 ls i (fun v => ev_b (Nat.beq (Nat.mod v 4) 2) (go nx ls (v :: st) B F top) (ev_b (Nat.beq v 3) (go nx ls (v :: st) B F top) (ev_b (Nat.beq v 11) (go nx ls (v :: st) B F top) none))) = some q := h
  rw [ev_get_eq] at h
  have key : (ls.getD i 7 % 4 = 2 ∨ ls.getD i 7 = 3 ∨ ls.getD i 7 = 11) ∧ go nx ls (ls.getD i 7 :: st) B F top = some q := by
    rcases ev_if zb_eq h with ⟨h1, h2⟩ | ⟨-, h2⟩
    · exact ⟨Or.inl h1, h2⟩
    rcases ev_if zb_eq h2 with ⟨h1, h2⟩ | ⟨-, h2⟩
    · exact ⟨Or.inr (Or.inl h1), h2⟩
    obtain ⟨h1, h2⟩ := ev_b_some h2
    exact ⟨Or.inr (Or.inr (zb_eq.mp h1)), h2⟩
  obtain ⟨hk, h⟩ := key
  have hl := (hX.1.at (i := i) (by omega)).1
  have K := hG nx ls _ B F top q h hT H locs cells slots LS hX.down
  rw [List.map_cons] at K
  rcases hk with hk | hk | hk
  · rw [zv_r hk] at hl K
    rcases hd with ⟨k, hd, hk, rfl⟩ | ⟨hd, rfl⟩
    · exact lv_aload_n hM.1 hM.2.1 hd hk hl K
    · exact lv_aload hM.1 hM.2.1 hd hl K
  · rw [hk, zv_n] at hl K
    rcases hd with ⟨k, hd, hk, rfl⟩ | ⟨hd, rfl⟩
    · exact lv_aload_nN hM.1 hM.2.1 hd hk hl K
    · exact lv_aloadN hM.1 hM.2.1 hd hl K
  · rw [hk, zv_f] at hl K
    rcases hd with ⟨k, hd, hk, rfl⟩ | ⟨hd, rfl⟩
    · exact lv_aload_n hM.1 hM.2.1 hd hk hl K
    · exact lv_aload hM.1 hM.2.1 hd hl K
theorem zo_istore {nx i : Nat} (hi : i < maxL) (hd : (∃ k : Fin 4, decode bytes pc = .ok (.istore_n k, 1) ∧ (k : Nat) = i ∧ nx = pc + 1) ∨ (decode bytes pc = .ok (.istore i, 2) ∧ nx = pc + 2)) : zO zi al tf gm dC dI N d l y bytes maxL ret pc (eo_istore nx i) := by
  intro p e R s m args below meth c Q rt hrt call go f hM hC hG ls st B F top q h hT H locs cells slots LS hX
  replace h := ev_uc_some h
  obtain ⟨v, r, rfl, h⟩ := h
  obtain ⟨h4, h⟩ := ev_i_some h
  rw [ev_get_eq] at h
  obtain ⟨hp, h⟩ := ev_b_none h
  rw [ev_set_eq] at h
  have hp := zb_ne hp
  have hl : i < ls.length := by rw [hX.2.2.2.2.2.2]; exact hi
  rw [List.map_cons, zv_i h4]
  have KK : ∀ LS', lv_has LS' ls.length ((i, Value.int (nI (v / 4))) :: (zlf al tf 0 ls).filter (fun q => !(q.1 == i) && !(q.1 + 1 == i && q.2.category == 2))) → W p l e R s m args below meth c H locs cells slots Q (F0 m nx LS' (r.map (zv al tf))) := fun LS' hL =>
    hG nx _ _ B F top q h hT H locs cells slots LS' (hX.down.locals (zFr.st1 (fun _ h => h) hL (zv_i h4) hp) (by rw [List.length_set]))
  rcases hd with ⟨k, hd, hk, rfl⟩ | ⟨hd, rfl⟩
  · exact lv_istore_n hM.1 hM.2.1 hd hk hX.1 hl rfl KK
  · exact lv_istore hM.1 hM.2.1 hd hX.1 hl rfl KK
theorem zo_astore {nx i : Nat} (hi : i < maxL) (hd : (∃ k : Fin 4, decode bytes pc = .ok (.astore_n k, 1) ∧ (k : Nat) = i ∧ nx = pc + 1) ∨ (decode bytes pc = .ok (.astore i, 2) ∧ nx = pc + 2)) : zO zi al tf gm dC dI N d l y bytes maxL ret pc (eo_astore nx i) := by
  intro p e R s m args below meth c Q rt hrt call go f hM hC hG ls st B F top q h hT H locs cells slots LS hX
  replace h := ev_uc_some h
  obtain ⟨v, r, rfl, h⟩ := h
  have hl : i < ls.length := by rw [hX.2.2.2.2.2.2]; exact hi
  rw [List.map_cons]
  rcases ev_if zb_eq h with ⟨h4, h⟩ | ⟨-, h⟩
  · rw [ev_get_eq] at h
    obtain ⟨hp, h⟩ := ev_b_none h
    rw [ev_set_eq] at h
    have hp := zb_ne hp
    rw [zv_r h4]
    have KK : ∀ LS', lv_has LS' ls.length ((i, Value.ref (al (v / 4))) :: (zlf al tf 0 ls).filter (fun q => !(q.1 == i) && !(q.1 + 1 == i && q.2.category == 2))) → W p l e R s m args below meth c H locs cells slots Q (F0 m nx LS' (r.map (zv al tf))) := fun LS' hL =>
      hG nx _ _ B F top q h hT H locs cells slots LS' (hX.down.locals (zFr.st1 (fun _ h => h) hL (zv_r h4) hp) (by rw [List.length_set]))
    rcases hd with ⟨k, hd, hk, rfl⟩ | ⟨hd, rfl⟩
    · exact lv_astore_n hM.1 hM.2.1 hd hk hX.1 hl rfl KK
    · exact lv_astore hM.1 hM.2.1 hd hX.1 hl rfl KK
  · obtain ⟨h3, h⟩ := ev_b_some h
    have h3 := zb_eq.mp h3
    rw [ev_get_eq] at h
    obtain ⟨hp, h⟩ := ev_b_none h
    rw [ev_set_eq] at h
    have hp := zb_ne hp
    subst h3
    rw [zv_n]
    have KK : ∀ LS', lv_has LS' ls.length ((i, Value.null) :: (zlf al tf 0 ls).filter (fun q => !(q.1 == i) && !(q.1 + 1 == i && q.2.category == 2))) → W p l e R s m args below meth c H locs cells slots Q (F0 m nx LS' (r.map (zv al tf))) := fun LS' hL =>
      hG nx _ _ B F top q h hT H locs cells slots LS' (hX.down.locals (zFr.st1 (fun _ h => h) hL zv_n hp) (by rw [List.length_set]))
    rcases hd with ⟨k, hd, hk, rfl⟩ | ⟨hd, rfl⟩
    · exact lv_astore_nN hM.1 hM.2.1 hd hk hX.1 hl rfl KK
    · exact lv_astoreN hM.1 hM.2.1 hd hX.1 hl rfl KK
theorem zo_lstore {nx i : Nat} (hi : i + 1 < maxL) (hd : (∃ k : Fin 4, decode bytes pc = .ok (.lstore_n k, 1) ∧ (k : Nat) = i ∧ nx = pc + 1) ∨ (decode bytes pc = .ok (.lstore i, 2) ∧ nx = pc + 2)) : zO zi al tf gm dC dI N d l y bytes maxL ret pc (eo_lstore nx i) := by
  intro p e R s m args below meth c Q rt hrt call go f hM hC hG ls st B F top q h hT H locs cells slots LS hX
  replace h := ev_uc_some h
  obtain ⟨v, r, rfl, h⟩ := h
  obtain ⟨h4, h⟩ := ev_l_some h
  rw [ev_get_eq] at h
  obtain ⟨hp, h⟩ := ev_b_none h
  rw [ev_set_eq, ev_set_eq] at h
  have hp := zb_ne hp
  have hl : i + 1 < ls.length := by rw [hX.2.2.2.2.2.2]; exact hi
  rw [List.map_cons, zv_l h4]
  have KK : ∀ LS', lv_has LS' ls.length ((i, Value.long (lN (v / 4))) :: (zlf al tf 0 ls).filter (fun q => !(q.1 == i) && (!(q.1 == i + 1) && !(q.1 + 1 == i && q.2.category == 2)))) → W p l e R s m args below meth c H locs cells slots Q (F0 m nx LS' (r.map (zv al tf))) := fun LS' hL =>
    hG nx _ _ B F top q h hT H locs cells slots LS' (hX.down.locals (zFr.st2 (fun _ h => h) hL (zv_l h4) hp) (by rw [List.length_set, List.length_set]))
  rcases hd with ⟨k, hd, hk, rfl⟩ | ⟨hd, rfl⟩
  · exact lv_lstore_n hM.1 hM.2.1 hd hk hX.1 hl rfl KK
  · exact lv_lstore hM.1 hM.2.1 hd hX.1 hl rfl KK
theorem zo_goto {off : Int} {tg : Nat} (hd : decode bytes pc = .ok (.goto off, 3)) (ht : (pc : Int) + off = (tg : Int)) : zO zi al tf gm dC dI N d l y bytes maxL ret pc (eo_goto tg) := by
  intro p e R s m args below meth c Q rt hrt call go f hM hC hG ls st B F top q h hT H locs cells slots LS hX
  exact lv_goto hM.1 hM.2.1 hd ht (hG tg ls st B F top q h hT H locs cells slots LS hX.down)
theorem zo_ret (hret : zRet bytes ret pc) : zO zi al tf gm dC dI N d l y bytes maxL ret pc eo_ret := by
  intro p e R s m args below meth c Q rt hrt call go f hM hC hG ls st B F top q h hT H locs cells slots LS hX
  cases h
  obtain ⟨h1, h2, h3, h4, h5, h6, h7⟩ := hX
  exact hT H locs cells slots LS (hrt pc hret) ⟨h1, h2, h3, h4, by omega, by omega, h7⟩
/-- a constant is laid on the stack -/
theorem zo_push {nx v : Nat} (hw : ∀ p e R s m args below meth c Q H locs cells slots LS (rest : List Value), zM al tf gm dC dI d y bytes maxL ret p R s m args meth c → va_S (zA al) s.heap H locs → W p l e R s m args below meth c H locs cells slots Q (F0 m nx LS (zv al tf v :: rest)) → W p l e R s m args below meth c H locs cells slots Q (F0 m pc LS rest)) : zO zi al tf gm dC dI N d l y bytes maxL ret pc (eo_push nx v) := by
  intro p e R s m args below meth c Q rt hrt call go f hM hC hG ls st B F top q h hT H locs cells slots LS hX
  exact hw p e R s m args below meth c Q H locs cells slots LS _ hM hX.2.2.2.1 (hG nx ls (v :: st) B F top q h hT H locs cells slots LS hX.down)
theorem zo_iconst {nx v : Nat} {n : Int} (hd : decode bytes pc = .ok (.iconst n, 1)) (hn : nx = pc + 1) (hv : .int (Int32.ofInt n) = zv al tf v) : zO zi al tf gm dC dI N d l y bytes maxL ret pc (eo_push nx v) :=
  zo_push fun p e R s m args below meth c Q H locs cells slots LS rest hM _ K => lv_iconst hM.1 hM.2.1 hd rfl (by rw [hv, ← hn]; exact K)
theorem zo_bipush {nx v : Nat} {n : Int} (hd : decode bytes pc = .ok (.bipush n, 2)) (hn : nx = pc + 2) (hv : .int (Int8.ofInt n).toInt32 = zv al tf v) : zO zi al tf gm dC dI N d l y bytes maxL ret pc (eo_push nx v) :=
  zo_push fun p e R s m args below meth c Q H locs cells slots LS rest hM _ K => lv_bipush hM.1 hM.2.1 hd rfl (by rw [hv, ← hn]; exact K)
theorem zo_sipush {nx v : Nat} {n : Int} (hd : decode bytes pc = .ok (.sipush n, 3)) (hn : nx = pc + 3) (hv : .int (Int16.ofInt n).toInt32 = zv al tf v) : zO zi al tf gm dC dI N d l y bytes maxL ret pc (eo_push nx v) :=
  zo_push fun p e R s m args below meth c Q H locs cells slots LS rest hM _ K => lv_sipush hM.1 hM.2.1 hd rfl (by rw [hv, ← hn]; exact K)
theorem zo_lconst {nx v : Nat} {n : Fin 2} (hd : decode bytes pc = .ok (.lconst n, 1)) (hn : nx = pc + 1) (hv : .long (Int64.ofNat (n : Nat)) = zv al tf v) : zO zi al tf gm dC dI N d l y bytes maxL ret pc (eo_push nx v) :=
  zo_push fun p e R s m args below meth c Q H locs cells slots LS rest hM _ K => lv_lconst hM.1 hM.2.1 hd rfl (by rw [hv, ← hn]; exact K)
theorem zo_anull {nx : Nat} (hd : decode bytes pc = .ok (.aconst_null, 1)) (hn : nx = pc + 1) : zO zi al tf gm dC dI N d l y bytes maxL ret pc (eo_push nx 3) :=
  zo_push fun p e R s m args below meth c Q H locs cells slots LS rest hM _ K => lv_null hM.1 hM.2.1 hd (by rw [← hn]; exact K)
theorem zo_ldc {nx v i : Nat} {x : Int32} (hd : decode bytes pc = .ok (.ldc i, 2)) (hn : nx = pc + 2) (hv : .int x = zv al tf v) (hw : Cond.constant y.cls i x ∈ zTS) : zO zi al tf gm dC dI N d l y bytes maxL ret pc (eo_push nx v) :=
  zo_push fun p e R s m args below meth c Q H locs cells slots LS rest hM _ K => lv_ldc hM.1 hM.2.1 hM.2.2.2.2.2.1 (hM.2.2.2.2.2.2.1 _ hw) hd (by rw [hv, ← hn]; exact K)
theorem zo_ldcw {nx v i : Nat} {x : Int32} (hd : decode bytes pc = .ok (.ldc_w i, 3)) (hn : nx = pc + 3) (hv : .int x = zv al tf v) (hw : Cond.constant y.cls i x ∈ zTS) : zO zi al tf gm dC dI N d l y bytes maxL ret pc (eo_push nx v) :=
  zo_push fun p e R s m args below meth c Q H locs cells slots LS rest hM _ K => lv_ldcw hM.1 hM.2.1 hM.2.2.2.2.2.1 (hM.2.2.2.2.2.2.1 _ hw) hd (by rw [hv, ← hn]; exact K)
theorem zo_ldc2 {nx v i : Nat} {x : Int64} (hd : decode bytes pc = .ok (.ldc2_w i, 3)) (hn : nx = pc + 3) (hv : .long x = zv al tf v) (hw : Cond.constantLong y.cls i x ∈ zTS) : zO zi al tf gm dC dI N d l y bytes maxL ret pc (eo_push nx v) :=
  zo_push fun p e R s m args below meth c Q H locs cells slots LS rest hM _ K => lv_ldc2 hM.1 hM.2.1 hM.2.2.2.2.2.1 (hM.2.2.2.2.2.2.1 _ hw) hd (by rw [hv, ← hn]; exact K)
/-- two ints become one value -/
theorem zo_bin {nx : Nat} {g : Nat → Nat → Nat} {P : Nat → Nat → Prop} {ins : ev_I} (hins : ∀ call go pc ls st B F top q, ins call go pc ls st B F top = some q → ∃ v u r, st = v :: u :: r ∧ v % 4 = 0 ∧ u % 4 = 0 ∧ P u v ∧ go nx ls (g u v :: r) B F top = some q)
    (hw : ∀ p e R s m args below meth c Q H locs cells slots LS (rest : List Value) u v, zM al tf gm dC dI d y bytes maxL ret p R s m args meth c → v % 4 = 0 → u % 4 = 0 → P u v → W p l e R s m args below meth c H locs cells slots Q (F0 m nx LS (zv al tf (g u v) :: rest)) → W p l e R s m args below meth c H locs cells slots Q (F0 m pc LS (.int (nI (v / 4)) :: .int (nI (u / 4)) :: rest))) : zO zi al tf gm dC dI N d l y bytes maxL ret pc ins := by
  intro p e R s m args below meth c Q rt hrt call go f hM hC hG ls st B F top q h hT H locs cells slots LS hX
  obtain ⟨v, u, r, rfl, hv, hu, hP, h⟩ := hins call go pc ls st B F top q h
  rw [List.map_cons, List.map_cons, zv_i hv, zv_i hu]
  exact hw p e R s m args below meth c Q H locs cells slots LS _ u v hM hv hu hP (hG nx ls _ B F top q h hT H locs cells slots LS hX.down)
theorem zo_iadd {nx : Nat} (hd : decode bytes pc = .ok (.iadd, 1)) (hn : nx = pc + 1) : zO zi al tf gm dC dI N d l y bytes maxL ret pc (eo_iadd nx) := by
  refine zo_bin (nx := nx) (g := fun u v => (u + v) % ev_M) (P := fun _ _ => True) (fun call go pc ls st B F top q h => ?_) (fun p e R s m args below meth c Q H locs cells slots LS rest u v hM hv hu _ K => ?_)
  · replace h := ev_uc_some h
    obtain ⟨v, s1, rfl, h⟩ := h
    replace h := ev_uc_some h
    obtain ⟨u, r, rfl, h⟩ := h
    obtain ⟨hv, h⟩ := ev_i_some h
    obtain ⟨hu, h⟩ := ev_i_some h
    rw [ev_nf_eq] at h
    exact ⟨v, u, r, rfl, hv, hu, trivial, h⟩
  · subst hn
    refine lv_iadd hM.1 hM.2.1 hd ?_
    have e : zv al tf ((u + v) % ev_M) = .int (nI (u / 4) + nI (v / 4)) := by
      rw [zv_i (by unfold ev_M; omega), nI_add, ← zn_mod (u / 4 + v / 4)]
      congr 2
      unfold ev_M
      omega
    rw [← e]
    exact K
theorem zo_isub {nx : Nat} (hd : decode bytes pc = .ok (.isub, 1)) (hn : nx = pc + 1) : zO zi al tf gm dC dI N d l y bytes maxL ret pc (eo_isub nx) := by
  refine zo_bin (nx := nx) (g := fun u v => (u + ev_M - v) % ev_M) (P := fun _ v => v < ev_M) (fun call go pc ls st B F top q h => ?_) (fun p e R s m args below meth c Q H locs cells slots LS rest u v hM hv hu hP K => ?_)
  · replace h := ev_uc_some h
    obtain ⟨v, s1, rfl, h⟩ := h
    replace h := ev_uc_some h
    obtain ⟨u, r, rfl, h⟩ := h
    obtain ⟨hv, h⟩ := ev_i_some h
    obtain ⟨hu, h⟩ := ev_i_some h
    obtain ⟨hb, h⟩ := ev_b_some h
    rw [ev_nf_eq] at h
    exact ⟨v, u, r, rfl, hv, hu, zb_lt.mp hb, h⟩
  · subst hn
    refine lv_isub hM.1 hM.2.1 hd ?_
    have e : zv al tf ((u + ev_M - v) % ev_M) = .int (nI (u / 4) - nI (v / 4)) := by
      unfold ev_M at hP
      have h1 : nI (u / 4) - nI (v / 4) = nI (u / 4 + 4294967296 - v / 4) := by
        rw [← pk_sub (by omega), ← zn_mod (u / 4 + 4294967296), Nat.add_mod_right, zn_mod]
      rw [zv_i (by unfold ev_M; omega), h1, ← zn_mod (u / 4 + 4294967296 - v / 4)]
      congr 2
      unfold ev_M
      omega
    rw [← e]
    exact K
theorem zo_imul {nx : Nat} (hd : decode bytes pc = .ok (.imul, 1)) (hn : nx = pc + 1) : zO zi al tf gm dC dI N d l y bytes maxL ret pc (eo_imul nx) := by
  refine zo_bin (nx := nx) (g := fun u v => (u / 4 * v) % ev_M) (P := fun _ _ => True) (fun call go pc ls st B F top q h => ?_) (fun p e R s m args below meth c Q H locs cells slots LS rest u v hM hv hu _ K => ?_)
  · replace h := ev_uc_some h
    obtain ⟨v, s1, rfl, h⟩ := h
    replace h := ev_uc_some h
    obtain ⟨u, r, rfl, h⟩ := h
    obtain ⟨hv, h⟩ := ev_i_some h
    obtain ⟨hu, h⟩ := ev_i_some h
    rw [ev_nf_eq] at h
    exact ⟨v, u, r, rfl, hv, hu, trivial, h⟩
  · subst hn
    refine lv_imul hM.1 hM.2.1 hd ?_
    have e1 : u / 4 * v = 4 * (u / 4 * (v / 4)) := by
      have hv2 : v = 4 * (v / 4) := by omega
      calc u / 4 * v = u / 4 * (4 * (v / 4)) := by rw [← hv2]
        _ = 4 * (u / 4 * (v / 4)) := by rw [Nat.mul_left_comm]
    have e : zv al tf ((u / 4 * v) % ev_M) = .int (nI (u / 4) * nI (v / 4)) := by
      rw [pk_mul, e1]
      generalize u / 4 * (v / 4) = w
      rw [zv_i (by unfold ev_M; omega), ← zn_mod w]
      congr 2
      unfold ev_M
      omega
    rw [← e]
    exact K
theorem zo_idiv {nx : Nat} (hd : decode bytes pc = .ok (.idiv, 1)) (hn : nx = pc + 1) : zO zi al tf gm dC dI N d l y bytes maxL ret pc (eo_idiv nx) := by
  refine zo_bin (nx := nx) (g := fun u v => 4 * (u / v)) (P := fun u v => u < ev_H ∧ v < ev_H ∧ v ≠ 0) (fun call go pc ls st B F top q h => ?_) (fun p e R s m args below meth c Q H locs cells slots LS rest u v hM hv hu hP K => ?_)
  · replace h := ev_uc_some h
    obtain ⟨v, s1, rfl, h⟩ := h
    replace h := ev_uc_some h
    obtain ⟨u, r, rfl, h⟩ := h
    obtain ⟨hv, h⟩ := ev_i_some h
    obtain ⟨hu, h⟩ := ev_i_some h
    obtain ⟨hb1, h⟩ := ev_b_some h
    obtain ⟨hb2, h⟩ := ev_b_some h
    obtain ⟨hb3, h⟩ := ev_b_none h
    rw [ev_nf_eq] at h
    exact ⟨v, u, r, rfl, hv, hu, ⟨zb_lt.mp hb1, zb_lt.mp hb2, zb_ne hb3⟩, h⟩
  · subst hn
    obtain ⟨h1, h2, h3⟩ := hP
    unfold ev_H at h1 h2
    refine lv_idiv hM.1 hM.2.1 hd (nI_ne0 (by omega) (by omega)) ?_
    have e : zv al tf (4 * (u / v)) = .int (nI (u / 4) / nI (v / 4)) := by
      rw [zv_k, pk_div (by omega) (by omega) (by omega)]
      have hu2 : u = 4 * (u / 4) := by omega
      have hv2 : v = 4 * (v / 4) := by omega
      have e2 : u / v = u / 4 / (v / 4) := by
        calc u / v = 4 * (u / 4) / (4 * (v / 4)) := by rw [← hu2, ← hv2]
          _ = u / 4 / (v / 4) := Nat.mul_div_mul_left _ _ (by omega)
      rw [e2]
    rw [← e]
    exact K
theorem zn_neg {n : Nat} (h : n ≤ 4294967296) : nI (4294967296 - n) = - nI n := by
  have h1 : nI (4294967296 - n) = nI 4294967296 - nI n := (pk_sub h).symm
  rw [h1, show nI 4294967296 = 0 by decide, Int32.zero_sub]
theorem zn_irem {a b : Nat} (ha : a < 2147483648) (h0 : 0 < b) (hb : b < 2147483648) : (- nI a) - (- nI a) / nI b * nI b = - nI (a % b) := by
  have hq : (- nI a) / nI b = - nI (a / b) := by
    apply Int32.toInt_inj.mp
    have hlt : a / b ≤ a := Nat.div_le_self _ _
    have hc : ((a / b : Nat) : Int) = (a : Int) / (b : Int) := Int.natCast_ediv a b
    generalize a / b = k at hc hlt ⊢
    rw [Int32.toInt_div, sb_negT ha, nI_toInt hb, sb_negT (by omega), Int.neg_tdiv, Int.tdiv_eq_ediv_of_nonneg (by omega), ← hc, Int.bmod_eq_of_le (by omega) (by omega)]
  rw [hq, Int32.neg_mul, Int32.sub_neg, pk_mul]
  have hm : a = a / b * b + a % b := by rw [Nat.mul_comm]; exact (Nat.div_add_mod a b).symm
  have e : nI a = nI (a / b * b) + nI (a % b) := by rw [nI_add, ← hm]
  rw [e, Int32.neg_add, Int32.sub_eq_add_neg, Int32.add_assoc, Int32.add_comm (-nI (a % b)), ← Int32.add_assoc, Int32.add_left_neg, Int32.zero_add]
theorem zo_irem {nx : Nat} (hd : decode bytes pc = .ok (.irem, 1)) (hn : nx = pc + 1) : zO zi al tf gm dC dI N d l y bytes maxL ret pc (eo_irem nx) := by
  refine zo_bin (nx := nx) (g := fun u v => if u < ev_H then 4 * (u / 4 % (v / 4)) else (ev_M - 4 * ((ev_M - u) / 4 % (v / 4))) % ev_M) (P := fun u v => v < ev_H ∧ v ≠ 0 ∧ u < ev_M ∧ u ≠ ev_H) (fun call go pc ls st B F top q h => ?_) (fun p e R s m args below meth c Q H locs cells slots LS rest u v hM hv hu hP K => ?_)
  · replace h := ev_uc_some h
    obtain ⟨v, s1, rfl, h⟩ := h
    replace h := ev_uc_some h
    obtain ⟨u, r, rfl, h⟩ := h
    obtain ⟨hv, h⟩ := ev_i_some h
    obtain ⟨hu, h⟩ := ev_i_some h
    obtain ⟨hb1, h⟩ := ev_b_some h
    obtain ⟨hb2, h⟩ := ev_b_none h
    have hb1 := zb_lt.mp hb1
    have hb2 := zb_ne hb2
    rcases ev_if zb_lt h with ⟨h1, h⟩ | ⟨h1, h⟩
    · rw [ev_nf_eq] at h
      refine ⟨v, u, r, rfl, hv, hu, ⟨hb1, hb2, by unfold ev_H at h1; unfold ev_M; omega, by omega⟩, ?_⟩
      show go nx ls ((if u < ev_H then _ else _) :: r) B F top = some q
      rw [if_pos h1]
      exact h
    · obtain ⟨hb4, h⟩ := ev_b_some h
      obtain ⟨hb3, h⟩ := ev_b_some h
      have hb4 := zb_lt.mp hb4
      rw [ev_nf_eq, ev_nf_eq] at h
      refine ⟨v, u, r, rfl, hv, hu, ⟨hb1, hb2, zb_lt.mp hb3, by omega⟩, ?_⟩
      show go nx ls ((if u < ev_H then _ else _) :: r) B F top = some q
      rw [if_neg h1]
      exact h
  · subst hn
    obtain ⟨h1, h2, h3, h5⟩ := hP
    unfold ev_H at h1 h5
    unfold ev_M at h3
    refine lv_irem hM.1 hM.2.1 hd (nI_ne0 (by omega) (by omega)) ?_
    have e : zv al tf (if u < ev_H then 4 * (u / 4 % (v / 4)) else (ev_M - 4 * ((ev_M - u) / 4 % (v / 4))) % ev_M) = .int (nI (u / 4) - nI (u / 4) / nI (v / 4) * nI (v / 4)) := by
      by_cases hh : u < ev_H
      · rw [if_pos hh]
        unfold ev_H at hh
        rw [zv_k, pk_rem (by omega) (by omega) (by omega)]
      · rw [if_neg hh]
        unfold ev_H at hh
        have hz : nI (u / 4) = - nI ((ev_M - u) / 4) := by
          rw [← zn_neg (by unfold ev_M; omega)]
          congr 1
          unfold ev_M
          omega
        have ha : (ev_M - u) / 4 < 2147483648 := by unfold ev_M; omega
        rw [hz, zn_irem (by omega) (by omega) (by omega)]
        generalize hw : (ev_M - u) / 4 % (v / 4) = w
        have hwl : w < 2147483648 := by
          rw [← hw]
          exact Nat.lt_of_lt_of_le (Nat.mod_lt _ (by omega)) (by omega)
        rw [zv_i (by unfold ev_M; omega), ← zn_neg (by omega), ← zn_mod (4294967296 - w)]
        congr 2
        unfold ev_M
        omega
    rw [← e]
    exact K
end ZO
end
section
section ZO2
variable {zi : zMs} {al : Nat → Nat} {tf : Nat × Nat} {gm dC : Nat → ClassId} {dI : Nat → Nat → Nat} {N d : Nat} {l : Launch} {y : MethodName} {bytes : ByteArray} {maxL : Nat} {ret : Option FieldType} {pc : Nat}
theorem zn_land (a b : Nat) : nI a &&& nI b = nI (a &&& b) := by
  apply Int32.toBitVec_inj.mp
  show BitVec.ofNat 32 a &&& BitVec.ofNat 32 b = BitVec.ofNat 32 (a &&& b)
  rw [BitVec.ofNat_and]
theorem zn_lxor (a b : Nat) : nI a ^^^ nI b = nI (a ^^^ b) := by
  apply Int32.toBitVec_inj.mp
  show BitVec.ofNat 32 a ^^^ BitVec.ofNat 32 b = BitVec.ofNat 32 (a ^^^ b)
  rw [BitVec.ofNat_xor]
theorem zland4 (a b : Nat) : (4 * a) &&& (4 * b) = 4 * (a &&& b) := by
  apply Nat.eq_of_testBit_eq
  intro i
  rw [Nat.testBit_and, show (4 : Nat) = 2 ^ 2 by rfl, Nat.testBit_two_pow_mul, Nat.testBit_two_pow_mul, Nat.testBit_two_pow_mul, Nat.testBit_and]
  cases decide (i ≥ 2) <;> simp
theorem zlxor4 (a b : Nat) : (4 * a) ^^^ (4 * b) = 4 * (a ^^^ b) := by
  apply Nat.eq_of_testBit_eq
  intro i
  rw [Nat.testBit_xor, show (4 : Nat) = 2 ^ 2 by rfl, Nat.testBit_two_pow_mul, Nat.testBit_two_pow_mul, Nat.testBit_two_pow_mul, Nat.testBit_xor]
  cases decide (i ≥ 2) <;> simp
theorem zo_iand {nx : Nat} (hd : decode bytes pc = .ok (.iand, 1)) (hn : nx = pc + 1) : zO zi al tf gm dC dI N d l y bytes maxL ret pc (eo_iand nx) := by
  refine zo_bin (nx := nx) (g := fun u v => u &&& v) (P := fun _ _ => True) (fun call go pc ls st B F top q h => ?_) (fun p e R s m args below meth c Q H locs cells slots LS rest u v hM hv hu _ K => ?_)
  · replace h := ev_uc_some h
    obtain ⟨v, s1, rfl, h⟩ := h
    replace h := ev_uc_some h
    obtain ⟨u, r, rfl, h⟩ := h
    obtain ⟨hv, h⟩ := ev_i_some h
    obtain ⟨hu, h⟩ := ev_i_some h
    rw [ev_nf_eq] at h
    exact ⟨v, u, r, rfl, hv, hu, trivial, h⟩
  · subst hn
    refine lv_iand hM.1 hM.2.1 hd ?_
    have e : zv al tf (u &&& v) = .int (nI (u / 4) &&& nI (v / 4)) := by
      have e1 : u &&& v = 4 * (u / 4 &&& v / 4) := by
        rw [← zland4]
        congr 1 <;> omega
      rw [e1, zv_k, zn_land]
    rw [← e]
    exact K
theorem zo_ixor {nx : Nat} (hd : decode bytes pc = .ok (.ixor, 1)) (hn : nx = pc + 1) : zO zi al tf gm dC dI N d l y bytes maxL ret pc (eo_ixor nx) := by
  refine zo_bin (nx := nx) (g := fun u v => u ^^^ v) (P := fun _ _ => True) (fun call go pc ls st B F top q h => ?_) (fun p e R s m args below meth c Q H locs cells slots LS rest u v hM hv hu _ K => ?_)
  · replace h := ev_uc_some h
    obtain ⟨v, s1, rfl, h⟩ := h
    replace h := ev_uc_some h
    obtain ⟨u, r, rfl, h⟩ := h
    obtain ⟨hv, h⟩ := ev_i_some h
    obtain ⟨hu, h⟩ := ev_i_some h
    rw [ev_nf_eq] at h
    exact ⟨v, u, r, rfl, hv, hu, trivial, h⟩
  · subst hn
    refine lv_ixor hM.1 hM.2.1 hd ?_
    have e : zv al tf (u ^^^ v) = .int (nI (u / 4) ^^^ nI (v / 4)) := by
      have e1 : u ^^^ v = 4 * (u / 4 ^^^ v / 4) := by
        rw [← zlxor4]
        congr 1 <;> omega
      rw [e1, zv_k, zn_lxor]
    rw [← e]
    exact K
theorem zo_ish0 {nx : Nat} (hd : decode bytes pc = .ok (.ishl, 1) ∨ decode bytes pc = .ok (.ishr, 1)) (hn : nx = pc + 1) : zO zi al tf gm dC dI N d l y bytes maxL ret pc (eo_ish0 nx) := by
  refine zo_bin (nx := nx) (g := fun u _ => u) (P := fun _ v => v = 0) (fun call go pc ls st B F top q h => ?_) (fun p e R s m args below meth c Q H locs cells slots LS rest u v hM hv hu hP K => ?_)
  · replace h := ev_uc_some h
    obtain ⟨v, s1, rfl, h⟩ := h
    replace h := ev_uc_some h
    obtain ⟨u, r, rfl, h⟩ := h
    obtain ⟨hu, h⟩ := ev_i_some h
    obtain ⟨hb, h⟩ := ev_b_some h
    have hb := zb_eq.mp hb
    exact ⟨v, u, r, rfl, by rw [hb], hu, hb, h⟩
  · subst hn
    subst hP
    rw [zv_i hu] at K
    rcases hd with hd | hd
    · refine lv_ishl hM.1 hM.2.1 hd ?_
      have e := sb_shl0 (nI (u / 4))
      rw [show nI (0 / 4) = 0 by decide]
      first | (rw [e]; exact K) | (simpa [e] using K)
    · refine lv_ishr hM.1 hM.2.1 hd ?_
      have e := sb_shr0 (nI (u / 4))
      rw [show nI (0 / 4) = 0 by decide]
      first | (rw [e]; exact K) | (simpa [e] using K)
/-- one int becomes one value -/
theorem zo_un {nx : Nat} {g : Nat → Nat} {P : Nat → Prop} {ins : ev_I} (hins : ∀ call go pc ls st B F top q, ins call go pc ls st B F top = some q → ∃ u r, st = u :: r ∧ P u ∧ go nx ls (g u :: r) B F top = some q)
    (hw : ∀ p e R s m args below meth c Q H locs cells slots LS (rest : List Value) u, zM al tf gm dC dI d y bytes maxL ret p R s m args meth c → P u → W p l e R s m args below meth c H locs cells slots Q (F0 m nx LS (zv al tf (g u) :: rest)) → W p l e R s m args below meth c H locs cells slots Q (F0 m pc LS (zv al tf u :: rest))) : zO zi al tf gm dC dI N d l y bytes maxL ret pc ins := by
  intro p e R s m args below meth c Q rt hrt call go f hM hC hG ls st B F top q h hT H locs cells slots LS hX
  obtain ⟨u, r, rfl, hP, h⟩ := hins call go pc ls st B F top q h
  rw [List.map_cons]
  exact hw p e R s m args below meth c Q H locs cells slots LS _ u hM hP (hG nx ls _ B F top q h hT H locs cells slots LS hX.down)
theorem zo_ineg {nx : Nat} (hd : decode bytes pc = .ok (.ineg, 1)) (hn : nx = pc + 1) : zO zi al tf gm dC dI N d l y bytes maxL ret pc (eo_ineg nx) := by
  refine zo_un (nx := nx) (g := fun u => (ev_M - u) % ev_M) (P := fun u => u % 4 = 0 ∧ u ≤ ev_M) (fun call go pc ls st B F top q h => ?_) (fun p e R s m args below meth c Q H locs cells slots LS rest u hM hP K => ?_)
  · replace h := ev_uc_some h
    obtain ⟨u, r, rfl, h⟩ := h
    obtain ⟨hu, h⟩ := ev_i_some h
    obtain ⟨hb, h⟩ := ev_b_some h
    rw [ev_nf_eq] at h
    exact ⟨u, r, rfl, ⟨hu, zb_le.mp hb⟩, h⟩
  · subst hn
    obtain ⟨hu, hm⟩ := hP
    unfold ev_M at hm
    rw [zv_i hu]
    refine lv_ineg hM.1 hM.2.1 hd ?_
    have e : zv al tf ((ev_M - u) % ev_M) = .int (- nI (u / 4)) := by
      rw [zv_i (by unfold ev_M; omega), ← zn_neg (by omega), ← zn_mod (4294967296 - u / 4)]
      congr 2
      unfold ev_M
      omega
    rw [← e]
    exact K
theorem zo_small {nx : Nat} (hd : decode bytes pc = .ok (.i2b, 1) ∨ decode bytes pc = .ok (.i2c, 1)) (hn : nx = pc + 1) : zO zi al tf gm dC dI N d l y bytes maxL ret pc (eo_small nx) := by
  refine zo_un (nx := nx) (g := fun u => u) (P := fun u => u % 4 = 0 ∧ u < 512) (fun call go pc ls st B F top q h => ?_) (fun p e R s m args below meth c Q H locs cells slots LS rest u hM hP K => ?_)
  · replace h := ev_uc_some h
    obtain ⟨u, r, rfl, h⟩ := h
    obtain ⟨hu, h⟩ := ev_i_some h
    obtain ⟨hb, h⟩ := ev_b_some h
    exact ⟨u, r, rfl, ⟨hu, zb_lt.mp hb⟩, h⟩
  · subst hn
    obtain ⟨hu, hm⟩ := hP
    rw [zv_i hu] at K ⊢
    have hk : u / 4 < 128 := by omega
    generalize u / 4 = k at hk K ⊢
    have e1 : ∀ k, k < 128 → (nI k).toInt8.toInt32 = nI k := by decide +kernel
    have e2 : ∀ k, k < 128 → ((nI k).toUInt32 % 65536).toInt32 = nI k := by decide +kernel
    rcases hd with hd | hd
    · exact lv_i2b hM.1 hM.2.1 hd (e1 k hk) K
    · exact lv_i2c hM.1 hM.2.1 hd (e2 k hk) K
theorem zl_neg {n : Nat} (h : n ≤ 18446744073709551616) : lN (18446744073709551616 - n) = - lN n := by
  have h1 : lN (18446744073709551616 - n) = lN 18446744073709551616 - lN n := (lN_sub h).symm
  rw [h1, show lN 18446744073709551616 = 0 by decide +kernel, Int64.zero_sub]
theorem zo_i2l {nx : Nat} (hd : decode bytes pc = .ok (.i2l, 1)) (hn : nx = pc + 1) : zO zi al tf gm dC dI N d l y bytes maxL ret pc (eo_i2l nx) := by
  refine zo_un (nx := nx) (g := fun u => if u < ev_H then u + 1 else 4 * (u / 4 + ev_ML - 4294967296) + 1) (P := fun u => u % 4 = 0 ∧ u < ev_M) (fun call go pc ls st B F top q h => ?_) (fun p e R s m args below meth c Q H locs cells slots LS rest u hM hP K => ?_)
  · replace h := ev_uc_some h
    obtain ⟨u, r, rfl, h⟩ := h
    obtain ⟨hu, h⟩ := ev_i_some h
    rcases ev_if zb_lt h with ⟨h1, h⟩ | ⟨h1, h⟩
    · rw [ev_nf_eq] at h
      refine ⟨u, r, rfl, ⟨hu, by unfold ev_H at h1; unfold ev_M; omega⟩, ?_⟩
      show go nx ls ((if u < ev_H then _ else _) :: r) B F top = some q
      rw [if_pos h1]
      exact h
    · obtain ⟨hb, h⟩ := ev_b_some h
      rw [ev_nf_eq] at h
      refine ⟨u, r, rfl, ⟨hu, zb_lt.mp hb⟩, ?_⟩
      show go nx ls ((if u < ev_H then _ else _) :: r) B F top = some q
      rw [if_neg h1]
      exact h
  · subst hn
    obtain ⟨hu, hm⟩ := hP
    unfold ev_M at hm
    rw [zv_i hu]
    refine lv_i2l (v := (nI (u / 4)).toInt64) hM.1 hM.2.1 hd rfl ?_
    have e : zv al tf (if u < ev_H then u + 1 else 4 * (u / 4 + ev_ML - 4294967296) + 1) = .long (nI (u / 4)).toInt64 := by
      by_cases h : u < ev_H
      · rw [if_pos h]
        unfold ev_H at h
        rw [zv_l (by omega), nI_l (by omega)]
        congr 2
        omega
      · rw [if_neg h]
        unfold ev_H at h
        rw [zv_kl]
        refine congrArg Value.long ?_
        apply Int64.toInt_inj.mp
        rw [Int32.toInt_toInt64, zn_toInt (by omega), if_neg (by omega)]
        show (BitVec.ofNat 64 (u / 4 + ev_ML - 4294967296)).toInt = _
        rw [BitVec.toInt_eq_toNat_cond, BitVec.toNat_ofNat]
        have e2 : (u / 4 + ev_ML - 4294967296) % 2 ^ 64 = u / 4 + ev_ML - 4294967296 := Nat.mod_eq_of_lt (by unfold ev_ML; omega)
        rw [e2, if_neg (by unfold ev_ML; omega)]
        unfold ev_ML
        omega
    rw [← e]
    exact K
theorem zo_l2i {nx : Nat} (hd : decode bytes pc = .ok (.l2i, 1)) (hn : nx = pc + 1) : zO zi al tf gm dC dI N d l y bytes maxL ret pc (eo_l2i nx) := by
  refine zo_un (nx := nx) (g := fun u => (4 * (u / 4)) % ev_M) (P := fun u => u % 4 = 1) (fun call go pc ls st B F top q h => ?_) (fun p e R s m args below meth c Q H locs cells slots LS rest u hM hP K => ?_)
  · replace h := ev_uc_some h
    obtain ⟨u, r, rfl, h⟩ := h
    obtain ⟨hu, h⟩ := ev_l_some h
    rw [ev_nf_eq] at h
    exact ⟨u, r, rfl, hu, h⟩
  · subst hn
    rw [zv_l hP]
    refine lv_l2i (v := nI (u / 4)) hM.1 hM.2.1 hd (lN_i _) ?_
    have e : zv al tf ((4 * (u / 4)) % ev_M) = .int (nI (u / 4)) := by
      rw [zv_i (by unfold ev_M; omega), ← zn_mod (u / 4)]
      congr 2
      unfold ev_M
      omega
    rw [← e]
    exact K
theorem zo_pop {nx : Nat} (hd : decode bytes pc = .ok (.pop, 1)) (hn : nx = pc + 1) : zO zi al tf gm dC dI N d l y bytes maxL ret pc (eo_pop nx) := by
  intro p e R s m args below meth c Q rt hrt call go f hM hC hG ls st B F top q h hT H locs cells slots LS hX
  subst hn
  replace h := ev_uc_some h
  obtain ⟨u, r, rfl, h⟩ := h
  obtain ⟨hu, h⟩ := ev_b_none h
  exact lv_pop hM.1 hM.2.1 hd (zv_c1 (zb_ne hu)) (hG _ ls _ B F top q h hT H locs cells slots LS hX.down)
theorem zo_dup {nx : Nat} (hd : decode bytes pc = .ok (.dup, 1)) (hn : nx = pc + 1) : zO zi al tf gm dC dI N d l y bytes maxL ret pc (eo_dup nx) := by
  intro p e R s m args below meth c Q rt hrt call go f hM hC hG ls st B F top q h hT H locs cells slots LS hX
  subst hn
  replace h := ev_uc_some h
  obtain ⟨u, r, rfl, h⟩ := h
  obtain ⟨hu, h⟩ := ev_b_none h
  exact lv_dup hM.1 hM.2.1 hd (zv_c1 (zb_ne hu)) (hG _ ls _ B F top q h hT H locs cells slots LS hX.down)
theorem zo_dupx1 {nx : Nat} (hd : decode bytes pc = .ok (.dup_x1, 1)) (hn : nx = pc + 1) : zO zi al tf gm dC dI N d l y bytes maxL ret pc (eo_dupx1 nx) := by
  intro p e R s m args below meth c Q rt hrt call go f hM hC hG ls st B F top q h hT H locs cells slots LS hX
  subst hn
  replace h := ev_uc_some h
  obtain ⟨v, s1, rfl, h⟩ := h
  replace h := ev_uc_some h
  obtain ⟨u, r, rfl, h⟩ := h
  obtain ⟨hu, h⟩ := ev_b_none h
  obtain ⟨hv, h⟩ := ev_b_none h
  exact lv_dup_x1 hM.1 hM.2.1 hd (zv_c1 (zb_ne hv)) (zv_c1 (zb_ne hu)) (hG _ ls _ B F top q h hT H locs cells slots LS hX.down)
theorem zo_dup2 {nx : Nat} (hd : decode bytes pc = .ok (.dup2, 1)) (hn : nx = pc + 1) : zO zi al tf gm dC dI N d l y bytes maxL ret pc (eo_dup2 nx) := by
  intro p e R s m args below meth c Q rt hrt call go f hM hC hG ls st B F top q h hT H locs cells slots LS hX
  subst hn
  replace h := ev_uc_some h
  obtain ⟨v, s1, rfl, h⟩ := h
  replace h := ev_uc_some h
  obtain ⟨u, r, rfl, h⟩ := h
  obtain ⟨hu, h⟩ := ev_b_none h
  obtain ⟨hv, h⟩ := ev_b_none h
  exact lv_dup2_11 hM.1 hM.2.1 hd (zv_c1 (zb_ne hv)) (zv_c1 (zb_ne hu)) (hG _ ls _ B F top q h hT H locs cells slots LS hX.down)
theorem zo_iinc {nx i dd : Nat} {n : Int} (hi : i < maxL) (hd : decode bytes pc = .ok (.iinc i n, 3)) (hn : nx = pc + 3) (hz : Int32.ofInt n = nI (dd / 4)) (hd4 : dd % 4 = 0) : zO zi al tf gm dC dI N d l y bytes maxL ret pc (eo_iinc nx i dd) := by
  intro p e R s m args below meth c Q rt hrt call go f hM hC hG ls st B F top q h hT H locs cells slots LS hX
  subst hn
  have h : ev_get 7 ls i (fun v => ev_i v (ev_nf (Nat.mod (Nat.add v dd) ev_M) fun w => ev_set w ls i fun ls' => go (pc + 3) ls' st B F top)) = some q := h
  rw [ev_get_eq] at h
  obtain ⟨h4, h⟩ := ev_i_some h
  rw [ev_nf_eq, ev_set_eq] at h
  obtain ⟨hl, hlen⟩ := hX.1.at (i := i) (by omega)
  generalize hv : ls.getD i 7 = v at h4 h hl
  rw [zv_i h4] at hl
  have e : zv al tf ((v + dd) % ev_M) = .int (nI (v / 4) + nI (dd / 4)) := by
    rw [zv_i (by unfold ev_M; omega), nI_add, ← zn_mod (v / 4 + dd / 4)]
    congr 2
    unfold ev_M
    omega
  have hp : ls.getD (i - 1) 7 % 4 ≠ 1 := by
    intro hc
    by_cases h0 : i = 0
    · subst h0
      rw [show (0 - 1 : Nat) = 0 from rfl, hv] at hc
      omega
    · obtain ⟨g1, g2⟩ := hX.1.at (i := i - 1) (by omega)
      rw [zv_l hc] at g1
      have g3 := hX.1.2.1.1 (i - 1) _ g1 rfl
      rw [show i - 1 + 1 = i by omega, hl] at g3
      cases g3
  have hh : lv_has LS ls.length ((i, Value.int (nI (v / 4))) :: zlf al tf 0 ls) := ⟨hX.1.1, hX.1.2.1, fun q hq => by
    rcases List.mem_cons.mp hq with rfl | hq
    · exact hl
    · exact hX.1.2.2 q hq⟩
  exact lv_iinc (k := 0) hM.1 hM.2.1 hd hh rfl (by rw [hz]) hlen rfl (fun LS' hL => hG _ _ _ B F top q h hT H locs cells slots LS' (hX.down.locals (zFr.st1 (fun _ h => List.mem_cons_of_mem _ h) hL e hp) (by rw [List.length_set])))
/-- one int decides where it goes on -/
theorem zo_if {nx tg : Nat} {P : Nat → Prop} {ins : ev_I} (hins : ∀ call go pc ls st B F top q, ins call go pc ls st B F top = some q → ∃ u r, st = u :: r ∧ u % 4 = 0 ∧ ((P u ∧ go tg ls r B F top = some q) ∨ (¬ P u ∧ go nx ls r B F top = some q)))
    (hw : ∀ p e R s m args below meth c Q H locs cells slots LS (rest : List Value) u, zM al tf gm dC dI d y bytes maxL ret p R s m args meth c → (P u → W p l e R s m args below meth c H locs cells slots Q (F0 m tg LS rest)) → (¬ P u → W p l e R s m args below meth c H locs cells slots Q (F0 m nx LS rest)) → W p l e R s m args below meth c H locs cells slots Q (F0 m pc LS (.int (nI (u / 4)) :: rest))) : zO zi al tf gm dC dI N d l y bytes maxL ret pc ins := by
  intro p e R s m args below meth c Q rt hrt call go f hM hC hG ls st B F top q h hT H locs cells slots LS hX
  obtain ⟨u, r, rfl, hu, h⟩ := hins call go pc ls st B F top q h
  rw [List.map_cons, zv_i hu]
  refine hw p e R s m args below meth c Q H locs cells slots LS _ u hM (fun hP => ?_) (fun hP => ?_)
  · rcases h with ⟨-, h⟩ | ⟨hn, -⟩
    · exact hG _ ls _ B F top q h hT H locs cells slots LS hX.down
    · exact absurd hP hn
  · rcases h with ⟨hn, -⟩ | ⟨-, h⟩
    · exact absurd hn hP
    · exact hG _ ls _ B F top q h hT H locs cells slots LS hX.down
theorem zu_mod (u : Nat) (hu : u % 4 = 0) : nI (u / 4) = nI (u % ev_M / 4) := by
  rw [← zn_mod (u / 4)]
  congr 1
  unfold ev_M
  omega
theorem zu_lt {u : Nat} (hu : u % 4 = 0) : nI (u / 4) < 0 ↔ ¬ u % ev_M < ev_H := by
  rw [zu_mod u hu, zn_lt0 (by unfold ev_M; omega)]
  unfold ev_H
  unfold ev_M
  omega
theorem zu_le {u : Nat} (hu : u % 4 = 0) : nI (u / 4) ≤ 0 ↔ u % ev_M = 0 ∨ ¬ u % ev_M < ev_H := by
  rw [zu_mod u hu, zn_le0 (by unfold ev_M; omega)]
  unfold ev_H
  unfold ev_M
  omega
theorem zu_eq {u : Nat} (hu : u % 4 = 0) : nI (u / 4) = 0 ↔ u % ev_M = 0 := by
  rw [zu_mod u hu, zn_eq0 (by unfold ev_M; omega)]
  unfold ev_M
  omega
theorem zo_eq {nx tg : Nat} {off : Int} (hd : decode bytes pc = .ok (.ifCond .eq off, 3)) (hn : nx = pc + 3) (ht : (pc : Int) + off = (tg : Int)) : zO zi al tf gm dC dI N d l y bytes maxL ret pc (eo_eq nx tg) := by
  refine zo_if (nx := nx) (tg := tg) (P := fun u => nI (u / 4) = 0) (fun call go pc ls st B F top q h => ?_) (fun p e R s m args below meth c Q H locs cells slots LS rest u hM kt kf => ?_)
  · replace h := ev_uc_some h
    obtain ⟨u, r, rfl, h⟩ := h
    obtain ⟨hu, h⟩ := ev_i_some h
    refine ⟨u, r, rfl, hu, ?_⟩
    show (nI (u / 4) = 0 ∧ _) ∨ (¬ nI (u / 4) = 0 ∧ _)
    rw [zu_eq hu]
    exact ev_if zb_eq h
  · subst hn
    exact lv_if_eq hM.1 hM.2.1 hd ht kt kf
theorem zo_ne {nx tg : Nat} {off : Int} (hd : decode bytes pc = .ok (.ifCond .ne off, 3)) (hn : nx = pc + 3) (ht : (pc : Int) + off = (tg : Int)) : zO zi al tf gm dC dI N d l y bytes maxL ret pc (eo_ne nx tg) := by
  refine zo_if (nx := nx) (tg := tg) (P := fun u => ¬ nI (u / 4) = 0) (fun call go pc ls st B F top q h => ?_) (fun p e R s m args below meth c Q H locs cells slots LS rest u hM kt kf => ?_)
  · replace h := ev_uc_some h
    obtain ⟨u, r, rfl, h⟩ := h
    obtain ⟨hu, h⟩ := ev_i_some h
    refine ⟨u, r, rfl, hu, ?_⟩
    show (¬ nI (u / 4) = 0 ∧ _) ∨ (¬ ¬ nI (u / 4) = 0 ∧ _)
    rw [zu_eq hu]
    rcases ev_if zb_eq h with ⟨h1, h⟩ | ⟨h1, h⟩
    · exact Or.inr ⟨fun z => z h1, h⟩
    · exact Or.inl ⟨h1, h⟩
  · subst hn
    exact lv_if_ne hM.1 hM.2.1 hd ht kt (fun z => kf (fun q => q z))
theorem zo_lt {nx tg : Nat} {off : Int} (hd : decode bytes pc = .ok (.ifCond .lt off, 3)) (hn : nx = pc + 3) (ht : (pc : Int) + off = (tg : Int)) : zO zi al tf gm dC dI N d l y bytes maxL ret pc (eo_lt nx tg) := by
  refine zo_if (nx := nx) (tg := tg) (P := fun u => nI (u / 4) < 0) (fun call go pc ls st B F top q h => ?_) (fun p e R s m args below meth c Q H locs cells slots LS rest u hM kt kf => ?_)
  · replace h := ev_uc_some h
    obtain ⟨u, r, rfl, h⟩ := h
    obtain ⟨hu, h⟩ := ev_i_some h
    refine ⟨u, r, rfl, hu, ?_⟩
    show (nI (u / 4) < 0 ∧ _) ∨ (¬ nI (u / 4) < 0 ∧ _)
    rw [zu_lt hu]
    rcases ev_if zb_lt h with ⟨h1, h⟩ | ⟨h1, h⟩
    · exact Or.inr ⟨fun z => z h1, h⟩
    · exact Or.inl ⟨h1, h⟩
  · subst hn
    exact lv_if_lt hM.1 hM.2.1 hd ht kt kf
theorem z_nle {x y : Int32} : ¬ x ≤ y ↔ y < x := Int32.not_le
theorem z_nlt {x y : Int32} : ¬ x < y ↔ y ≤ x := Int32.not_lt
theorem zo_ge {nx tg : Nat} {off : Int} (hd : decode bytes pc = .ok (.ifCond .ge off, 3)) (hn : nx = pc + 3) (ht : (pc : Int) + off = (tg : Int)) : zO zi al tf gm dC dI N d l y bytes maxL ret pc (eo_ge nx tg) := by
  refine zo_if (nx := nx) (tg := tg) (P := fun u => ¬ nI (u / 4) < 0) (fun call go pc ls st B F top q h => ?_) (fun p e R s m args below meth c Q H locs cells slots LS rest u hM kt kf => ?_)
  · replace h := ev_uc_some h
    obtain ⟨u, r, rfl, h⟩ := h
    obtain ⟨hu, h⟩ := ev_i_some h
    refine ⟨u, r, rfl, hu, ?_⟩
    show (¬ nI (u / 4) < 0 ∧ _) ∨ (¬ ¬ nI (u / 4) < 0 ∧ _)
    rw [zu_lt hu]
    rcases ev_if zb_lt h with ⟨h1, h⟩ | ⟨h1, h⟩
    · exact Or.inl ⟨fun z => z h1, h⟩
    · exact Or.inr ⟨fun z => z h1, h⟩
  · subst hn
    exact lv_if_ge hM.1 hM.2.1 hd ht (fun z => kt (z_nlt.mpr z)) (fun z => kf (fun q => z (z_nlt.mp q)))
theorem zo_gt {nx tg : Nat} {off : Int} (hd : decode bytes pc = .ok (.ifCond .gt off, 3)) (hn : nx = pc + 3) (ht : (pc : Int) + off = (tg : Int)) : zO zi al tf gm dC dI N d l y bytes maxL ret pc (eo_gt nx tg) := by
  refine zo_if (nx := nx) (tg := tg) (P := fun u => ¬ nI (u / 4) ≤ 0) (fun call go pc ls st B F top q h => ?_) (fun p e R s m args below meth c Q H locs cells slots LS rest u hM kt kf => ?_)
  · replace h := ev_uc_some h
    obtain ⟨u, r, rfl, h⟩ := h
    obtain ⟨hu, h⟩ := ev_i_some h
    refine ⟨u, r, rfl, hu, ?_⟩
    show (¬ nI (u / 4) ≤ 0 ∧ _) ∨ (¬ ¬ nI (u / 4) ≤ 0 ∧ _)
    rw [zu_le hu]
    rcases ev_if zb_lt h with ⟨h1, h⟩ | ⟨h1, h⟩
    · rcases ev_if zb_eq h with ⟨h2, h⟩ | ⟨h2, h⟩
      · exact Or.inr ⟨fun z => z (Or.inl h2), h⟩
      · exact Or.inl ⟨fun z => z.elim h2 (fun q => q h1), h⟩
    · exact Or.inr ⟨fun z => z (Or.inr h1), h⟩
  · subst hn
    exact lv_if_gt hM.1 hM.2.1 hd ht (fun z => kt (z_nle.mpr z)) (fun z => kf (fun q => z (z_nle.mp q)))
theorem zo_le {nx tg : Nat} {off : Int} (hd : decode bytes pc = .ok (.ifCond .le off, 3)) (hn : nx = pc + 3) (ht : (pc : Int) + off = (tg : Int)) : zO zi al tf gm dC dI N d l y bytes maxL ret pc (eo_le nx tg) := by
  refine zo_if (nx := nx) (tg := tg) (P := fun u => nI (u / 4) ≤ 0) (fun call go pc ls st B F top q h => ?_) (fun p e R s m args below meth c Q H locs cells slots LS rest u hM kt kf => ?_)
  · replace h := ev_uc_some h
    obtain ⟨u, r, rfl, h⟩ := h
    obtain ⟨hu, h⟩ := ev_i_some h
    refine ⟨u, r, rfl, hu, ?_⟩
    show (nI (u / 4) ≤ 0 ∧ _) ∨ (¬ nI (u / 4) ≤ 0 ∧ _)
    rw [zu_le hu]
    rcases ev_if zb_lt h with ⟨h1, h⟩ | ⟨h1, h⟩
    · rcases ev_if zb_eq h with ⟨h2, h⟩ | ⟨h2, h⟩
      · exact Or.inl ⟨Or.inl h2, h⟩
      · exact Or.inr ⟨fun z => z.elim h2 (fun q => q h1), h⟩
    · exact Or.inl ⟨Or.inr h1, h⟩
  · subst hn
    exact lv_if_le hM.1 hM.2.1 hd ht kt kf
/-- two ints decide where it goes on -/
theorem zo_cmp {nx tg : Nat} {P : Nat → Nat → Prop} {ins : ev_I} (hins : ∀ call go pc ls st B F top q, ins call go pc ls st B F top = some q → ∃ v u r, st = v :: u :: r ∧ v % 4 = 0 ∧ u % 4 = 0 ∧ ((P u v ∧ go tg ls r B F top = some q) ∨ (¬ P u v ∧ go nx ls r B F top = some q)))
    (hw : ∀ p e R s m args below meth c Q H locs cells slots LS (rest : List Value) u v, zM al tf gm dC dI d y bytes maxL ret p R s m args meth c → (P u v → W p l e R s m args below meth c H locs cells slots Q (F0 m tg LS rest)) → (¬ P u v → W p l e R s m args below meth c H locs cells slots Q (F0 m nx LS rest)) → W p l e R s m args below meth c H locs cells slots Q (F0 m pc LS (.int (nI (v / 4)) :: .int (nI (u / 4)) :: rest))) : zO zi al tf gm dC dI N d l y bytes maxL ret pc ins := by
  intro p e R s m args below meth c Q rt hrt call go f hM hC hG ls st B F top q h hT H locs cells slots LS hX
  obtain ⟨v, u, r, rfl, hv, hu, h⟩ := hins call go pc ls st B F top q h
  rw [List.map_cons, List.map_cons, zv_i hu, zv_i hv]
  refine hw p e R s m args below meth c Q H locs cells slots LS _ u v hM (fun hP => ?_) (fun hP => ?_)
  · rcases h with ⟨-, h⟩ | ⟨hn, -⟩
    · exact hG _ ls _ B F top q h hT H locs cells slots LS hX.down
    · exact absurd hP hn
  · rcases h with ⟨hn, -⟩ | ⟨-, h⟩
    · exact absurd hn hP
    · exact hG _ ls _ B F top q h hT H locs cells slots LS hX.down
theorem zc_eq {u v : Nat} (hu : u % 4 = 0) (hv : v % 4 = 0) : nI (u / 4) = nI (v / 4) ↔ u % ev_M = v % ev_M := by
  rw [zu_mod u hu, zu_mod v hv]
  constructor
  · intro h
    have h2 := zn_inj (by unfold ev_M; omega) (by unfold ev_M; omega) h
    unfold ev_M at h2 ⊢
    omega
  · intro h
    rw [h]
theorem zc_lt {u v : Nat} (hu : u % 4 = 0) (hv : v % 4 = 0) : nI (u / 4) < nI (v / 4) ↔ ev_lt u v = true := by
  rw [zu_mod u hu, zu_mod v hv, zn_lt (by unfold ev_M; omega) (by unfold ev_M; omega)]
  show _ ↔ Nat.blt ((u + ev_H) % ev_M) ((v + ev_H) % ev_M) = true
  rw [zb_lt]
  unfold ev_H
  unfold ev_M
  omega
theorem zc_iff {b : Bool} : b = true ↔ b = true := Iff.rfl
theorem zo_ceq {nx tg : Nat} {off : Int} (hd : decode bytes pc = .ok (.if_icmp .eq off, 3)) (hn : nx = pc + 3) (ht : (pc : Int) + off = (tg : Int)) : zO zi al tf gm dC dI N d l y bytes maxL ret pc (eo_ceq nx tg) := by
  refine zo_cmp (nx := nx) (tg := tg) (P := fun u v => nI (u / 4) = nI (v / 4)) (fun call go pc ls st B F top q h => ?_) (fun p e R s m args below meth c Q H locs cells slots LS rest u v hM kt kf => ?_)
  · replace h := ev_uc_some h
    obtain ⟨v, s1, rfl, h⟩ := h
    replace h := ev_uc_some h
    obtain ⟨u, r, rfl, h⟩ := h
    obtain ⟨hv, h⟩ := ev_i_some h
    obtain ⟨hu, h⟩ := ev_i_some h
    refine ⟨v, u, r, rfl, hv, hu, ?_⟩
    show (nI (u / 4) = nI (v / 4) ∧ _) ∨ (¬ nI (u / 4) = nI (v / 4) ∧ _)
    rw [zc_eq hu hv]
    exact ev_if zb_eq h
  · subst hn
    exact lv_icmp_eq hM.1 hM.2.1 hd ht kt kf
theorem zo_cne {nx tg : Nat} {off : Int} (hd : decode bytes pc = .ok (.if_icmp .ne off, 3)) (hn : nx = pc + 3) (ht : (pc : Int) + off = (tg : Int)) : zO zi al tf gm dC dI N d l y bytes maxL ret pc (eo_cne nx tg) := by
  refine zo_cmp (nx := nx) (tg := tg) (P := fun u v => ¬ nI (u / 4) = nI (v / 4)) (fun call go pc ls st B F top q h => ?_) (fun p e R s m args below meth c Q H locs cells slots LS rest u v hM kt kf => ?_)
  · replace h := ev_uc_some h
    obtain ⟨v, s1, rfl, h⟩ := h
    replace h := ev_uc_some h
    obtain ⟨u, r, rfl, h⟩ := h
    obtain ⟨hv, h⟩ := ev_i_some h
    obtain ⟨hu, h⟩ := ev_i_some h
    refine ⟨v, u, r, rfl, hv, hu, ?_⟩
    show (¬ nI (u / 4) = nI (v / 4) ∧ _) ∨ (¬ ¬ nI (u / 4) = nI (v / 4) ∧ _)
    rw [zc_eq hu hv]
    rcases ev_if zb_eq h with ⟨h1, h⟩ | ⟨h1, h⟩
    · exact Or.inr ⟨fun z => z h1, h⟩
    · exact Or.inl ⟨h1, h⟩
  · subst hn
    exact lv_icmp_ne hM.1 hM.2.1 hd ht kt (fun z => kf (fun q => q z))
theorem zo_clt {nx tg : Nat} {off : Int} (hd : decode bytes pc = .ok (.if_icmp .lt off, 3)) (hn : nx = pc + 3) (ht : (pc : Int) + off = (tg : Int)) : zO zi al tf gm dC dI N d l y bytes maxL ret pc (eo_clt nx tg) := by
  refine zo_cmp (nx := nx) (tg := tg) (P := fun u v => nI (u / 4) < nI (v / 4)) (fun call go pc ls st B F top q h => ?_) (fun p e R s m args below meth c Q H locs cells slots LS rest u v hM kt kf => ?_)
  · replace h := ev_uc_some h
    obtain ⟨v, s1, rfl, h⟩ := h
    replace h := ev_uc_some h
    obtain ⟨u, r, rfl, h⟩ := h
    obtain ⟨hv, h⟩ := ev_i_some h
    obtain ⟨hu, h⟩ := ev_i_some h
    refine ⟨v, u, r, rfl, hv, hu, ?_⟩
    show (nI (u / 4) < nI (v / 4) ∧ _) ∨ (¬ nI (u / 4) < nI (v / 4) ∧ _)
    rw [zc_lt hu hv]
    exact ev_if zc_iff h
  · subst hn
    exact lv_icmp_lt hM.1 hM.2.1 hd ht kt kf
theorem zo_cge {nx tg : Nat} {off : Int} (hd : decode bytes pc = .ok (.if_icmp .ge off, 3)) (hn : nx = pc + 3) (ht : (pc : Int) + off = (tg : Int)) : zO zi al tf gm dC dI N d l y bytes maxL ret pc (eo_cge nx tg) := by
  refine zo_cmp (nx := nx) (tg := tg) (P := fun u v => ¬ nI (u / 4) < nI (v / 4)) (fun call go pc ls st B F top q h => ?_) (fun p e R s m args below meth c Q H locs cells slots LS rest u v hM kt kf => ?_)
  · replace h := ev_uc_some h
    obtain ⟨v, s1, rfl, h⟩ := h
    replace h := ev_uc_some h
    obtain ⟨u, r, rfl, h⟩ := h
    obtain ⟨hv, h⟩ := ev_i_some h
    obtain ⟨hu, h⟩ := ev_i_some h
    refine ⟨v, u, r, rfl, hv, hu, ?_⟩
    show (¬ nI (u / 4) < nI (v / 4) ∧ _) ∨ (¬ ¬ nI (u / 4) < nI (v / 4) ∧ _)
    rw [zc_lt hu hv]
    rcases ev_if zc_iff h with ⟨h1, h⟩ | ⟨h1, h⟩
    · exact Or.inr ⟨fun z => z h1, h⟩
    · exact Or.inl ⟨h1, h⟩
  · subst hn
    exact lv_icmp_ge hM.1 hM.2.1 hd ht (fun z => kt (z_nlt.mpr z)) (fun z => kf (fun q => z (z_nlt.mp q)))
theorem zo_cgt {nx tg : Nat} {off : Int} (hd : decode bytes pc = .ok (.if_icmp .gt off, 3)) (hn : nx = pc + 3) (ht : (pc : Int) + off = (tg : Int)) : zO zi al tf gm dC dI N d l y bytes maxL ret pc (eo_cgt nx tg) := by
  refine zo_cmp (nx := nx) (tg := tg) (P := fun u v => nI (v / 4) < nI (u / 4)) (fun call go pc ls st B F top q h => ?_) (fun p e R s m args below meth c Q H locs cells slots LS rest u v hM kt kf => ?_)
  · replace h := ev_uc_some h
    obtain ⟨v, s1, rfl, h⟩ := h
    replace h := ev_uc_some h
    obtain ⟨u, r, rfl, h⟩ := h
    obtain ⟨hv, h⟩ := ev_i_some h
    obtain ⟨hu, h⟩ := ev_i_some h
    refine ⟨v, u, r, rfl, hv, hu, ?_⟩
    show (nI (v / 4) < nI (u / 4) ∧ _) ∨ (¬ nI (v / 4) < nI (u / 4) ∧ _)
    rw [zc_lt hv hu]
    exact ev_if zc_iff h
  · subst hn
    exact lv_icmp_gt hM.1 hM.2.1 hd ht kt kf
theorem zo_cle {nx tg : Nat} {off : Int} (hd : decode bytes pc = .ok (.if_icmp .le off, 3)) (hn : nx = pc + 3) (ht : (pc : Int) + off = (tg : Int)) : zO zi al tf gm dC dI N d l y bytes maxL ret pc (eo_cle nx tg) := by
  refine zo_cmp (nx := nx) (tg := tg) (P := fun u v => ¬ nI (v / 4) < nI (u / 4)) (fun call go pc ls st B F top q h => ?_) (fun p e R s m args below meth c Q H locs cells slots LS rest u v hM kt kf => ?_)
  · replace h := ev_uc_some h
    obtain ⟨v, s1, rfl, h⟩ := h
    replace h := ev_uc_some h
    obtain ⟨u, r, rfl, h⟩ := h
    obtain ⟨hv, h⟩ := ev_i_some h
    obtain ⟨hu, h⟩ := ev_i_some h
    refine ⟨v, u, r, rfl, hv, hu, ?_⟩
    show (¬ nI (v / 4) < nI (u / 4) ∧ _) ∨ (¬ ¬ nI (v / 4) < nI (u / 4) ∧ _)
    rw [zc_lt hv hu]
    rcases ev_if zc_iff h with ⟨h1, h⟩ | ⟨h1, h⟩
    · exact Or.inr ⟨fun z => z h1, h⟩
    · exact Or.inl ⟨h1, h⟩
  · subst hn
    exact lv_icmp_le hM.1 hM.2.1 hd ht (fun z => kt (z_nlt.mpr z)) (fun z => kf (fun q => z (z_nlt.mp q)))
theorem zo_null {nx tg : Nat} {off : Int} (hd : decode bytes pc = .ok (.ifnull off, 3)) (hn : nx = pc + 3) (ht : (pc : Int) + off = (tg : Int)) : zO zi al tf gm dC dI N d l y bytes maxL ret pc (eo_null nx tg) := by
  intro p e R s m args below meth c Q rt hrt call go f hM hC hG ls st B F top q h hT H locs cells slots LS hX
  subst hn
  replace h := ev_uc_some h
  obtain ⟨u, r, rfl, h⟩ := h
  rw [List.map_cons]
  rcases ev_if zb_eq h with ⟨h1, h⟩ | ⟨h1, h⟩
  · rw [zv_r h1]
    exact lv_ifnull hM.1 hM.2.1 hd (hG _ ls _ B F top q h hT H locs cells slots LS hX.down)
  · obtain ⟨h3, h⟩ := ev_b_some h
    rw [zb_eq.mp h3, zv_n]
    exact lv_ifnullN hM.1 hM.2.1 hd ht (hG _ ls _ B F top q h hT H locs cells slots LS hX.down)
theorem zo_nonnull {nx tg : Nat} {off : Int} (hd : decode bytes pc = .ok (.ifnonnull off, 3)) (hn : nx = pc + 3) (ht : (pc : Int) + off = (tg : Int)) : zO zi al tf gm dC dI N d l y bytes maxL ret pc (eo_nonnull nx tg) := by
  intro p e R s m args below meth c Q rt hrt call go f hM hC hG ls st B F top q h hT H locs cells slots LS hX
  subst hn
  replace h := ev_uc_some h
  obtain ⟨u, r, rfl, h⟩ := h
  rw [List.map_cons]
  rcases ev_if zb_eq h with ⟨h1, h⟩ | ⟨h1, h⟩
  · rw [zv_r h1]
    exact lv_ifnonnull hM.1 hM.2.1 hd ht (hG _ ls _ B F top q h hT H locs cells slots LS hX.down)
  · obtain ⟨h3, h⟩ := ev_b_some h
    rw [zb_eq.mp h3, zv_n]
    exact lv_ifnonnullN hM.1 hM.2.1 hd (hG _ ls _ B F top q h hT H locs cells slots LS hX.down)
end ZO2
end
section
section ZH
variable {al : Nat → Nat} {tf : Nat × Nat} {gm dC : Nat → ClassId} {dI : Nat → Nat → Nat}
theorem zH.set {w : List (List Nat)} {id : Nat} {c c' : List Nat} {H H1 : Heap} (hinj : ∀ i j, al i = al j → i = j) (h : zH al tf gm dC dI w H) (hc : w[id]? = some c) (he : va_at (dC, dI) vwCl (al id, ze al tf gm c') H1) (z : H1.size = H.size) (oq : ∀ q : Nat, q ≠ al id → H1[q]? = H[q]?) : zH al tf gm dC dI (w.set id c') H1 :=
  ⟨by rw [zw_set]; exact va_P.set h.1 (zw_D hinj w) (zw_get hc) he oq, fun i => by rw [List.length_set, z]; exact h.2 i⟩
theorem zH.push {w : List (List Nat)} {c : List Nat} {H H1 : Heap} (h : zH al tf gm dC dI w H) (he : va_at (dC, dI) vwCl (al w.length, ze al tf gm c) H1) (z : H1.size = H.size + 1) (o : ∀ q : Nat, q < H.size → H1[q]? = H[q]?) : zH al tf gm dC dI (w ++ [c]) H1 := by
  refine ⟨?_, fun i => ?_⟩
  · rw [zw_push]
    refine va_P.app (h.1.kept (fun k x hx => o x.1 ((h.1 k x hx).lt))) (fun k x hx => ?_)
    have hz : k < 1 := (List.getElem?_eq_some_iff.mp hx).1
    rw [show k = 0 by omega] at hx
    cases hx
    exact he
  · rw [List.length_append, List.length_singleton, Nat.add_assoc, h.2 (1 + i), z]
    omega
theorem zS.push {A : Nat → Prop} {H0 H H1 : Heap} {locs : List Loc} (hS : va_S A H0 H locs) (z : H1.size = H.size + 1) (o : ∀ q : Nat, q < H.size → H1[q]? = H[q]?) : va_S A H0 H1 locs :=
  ⟨Nat.le_trans hS.1 (by omega), fun x h1 h2 => (o x (Nat.lt_of_lt_of_le h1 hS.1)).trans (hS.2.1 x h1 h2), hS.2.2⟩
theorem zH.top {w : List (List Nat)} {H : Heap} (h : zH al tf gm dC dI w H) : al w.length = H.size := by
  have := h.2 0
  simpa using this
end ZH
section ZM
variable {zi : zMs} {al : Nat → Nat} {tf : Nat × Nat} {gm dC : Nat → ClassId} {dI : Nat → Nat → Nat} {N d : Nat} {l : Launch} {y : MethodName} {bytes : ByteArray} {maxL : Nat} {ret : Option FieldType} {pc : Nat}
/-- a class of the world: its number, name, fields, how many; its words stand -/
def zCl (c : Nat) (C : String) (T : u_T) (n : Nat) : Prop := vwCl[c]? = some (C, T, n) ∧ (∀ w ∈ u_ws C T n, w ∈ zTS) ∧ (∀ a, a < n → ∀ b, b < n → a ≠ b → (T a).2.1 ≠ (T b).2.1)
theorem zfs {fs : List Nat} {k v : Nat} (h : fs.getD k 7 = v) (h7 : v ≠ 7) : fs[k]? = some v := by
  rw [List.getD_eq_getElem?_getD] at h
  cases hk : fs[k]? with
  | none => rw [hk] at h; exact absurd h.symm h7
  | some x => rw [hk] at h; exact congrArg some h
theorem zo_getf {nx c k n index : Nat} {C : String} {T : u_T} (hc : zCl c C T n) (hk : k < n) (hd : decode bytes pc = .ok (.getfield index, 3)) (hn : nx = pc + 3) (hl : Cond.fieldLink y.cls index (T k).1 (T k).2.1 (T k).2.2.1 ∈ zTS) : zO zi al tf gm dC dI N d l y bytes maxL ret pc (eo_getf N nx c k) := by
  intro p e R s m args below meth cc Q rt hrt call go f hM hC hG ls st B F top q h hT H locs cells slots LS hX
  subst hn
  replace h := ev_uc_some h
  obtain ⟨u, r, rfl, h⟩ := h
  obtain ⟨hu, h⟩ := ev_r_some h
  obtain ⟨cell, hcell, h⟩ := ev_at_some hX.2.1 h
  replace h := ev_uc_some h
  obtain ⟨kd, fs, rfl, h⟩ := h
  replace h := ev_b_some h
  obtain ⟨hkd, h⟩ := h
  have hkd : kd = 16 + c := zb_eq.mp hkd
  subst hkd
  rw [ev_get_eq] at h
  obtain ⟨h7, h⟩ := ev_b_none h
  have hv := zfs rfl (zb_ne h7)
  generalize fs.getD k 7 = v at h h7 hv
  have he := zw_get (al := al) (tf := tf) (gm := gm) hcell
  rw [ze_o] at he
  rw [List.map_cons, zv_r hu]
  refine va_get hM.1 hM.2.1 hM.2.2.2.2.2.2.1 hc.2.1 hM.2.2.2.2.2.1 hM.2.2.2.2.2.2.2.2.1 hX.2.2.1.1 (u / 4) he hc.1 k hk (hM.2.2.2.2.2.2.1 _ hl) (fun _ z => z) (v := zv al tf v) (by rw [List.getElem?_map, hv]; rfl) hd ?_
  exact hG _ ls _ B F top q h hT H locs cells slots LS hX.down
theorem zo_getN {nx c k n index : Nat} {C host : String} {T : u_T} (hc : zCl c C T n) (hk : k < n) (hd : decode bytes pc = .ok (.getfield index, 3)) (hn : nx = pc + 3) (hl : (y.cls, index, (T k).1, (T k).2.1, (T k).2.2.1, host) ∈ znf) : zO zi al tf gm dC dI N d l y bytes maxL ret pc (eo_getf N nx c k) := by
  intro p e R s m args below meth cc Q rt hrt call go f hM hC hG ls st B F top q h hT H locs cells slots LS hX
  subst hn
  replace h := ev_uc_some h
  obtain ⟨u, r, rfl, h⟩ := h
  obtain ⟨hu, h⟩ := ev_r_some h
  obtain ⟨cell, hcell, h⟩ := ev_at_some hX.2.1 h
  replace h := ev_uc_some h
  obtain ⟨kd, fs, rfl, h⟩ := h
  replace h := ev_b_some h
  obtain ⟨hkd, h⟩ := h
  have hkd : kd = 16 + c := zb_eq.mp hkd
  subst hkd
  rw [ev_get_eq] at h
  obtain ⟨h7, h⟩ := ev_b_none h
  have hv := zfs rfl (zb_ne h7)
  generalize fs.getD k 7 = v at h h7 hv
  have he := zw_get (al := al) (tf := tf) (gm := gm) hcell
  rw [ze_o] at he
  rw [List.map_cons, zv_r hu]
  have hnw := hM.2.2.2.2.2.2.2.2.2.1.2.2.2.2.2.1 _ hl
  refine va_getN hM.1 hM.2.1 hM.2.2.2.2.2.2.1 hc.2.1 hM.2.2.2.2.2.1 hM.2.2.2.2.2.2.2.2.1 hX.2.2.1.1 (u / 4) he hc.1 k hk (va_Nw.use rfl hnw) (fun _ z => z) (v := zv al tf v) (by rw [List.getElem?_map, hv]; rfl) hd ?_
  exact hG _ ls _ B F top q h hT H locs cells slots LS hX.down
/-- what a put hands on -/
theorem zput_go {c k v u : Nat} {fs : List Nat} {R : Room} {f : Nat} {s : State} {ls : List Nat} {B F : List (List Nat)} {top : Nat} {H H1 : Heap} {locs : List Loc} {cells slots : Nat} {LS : Array Slot} {C : String} {T : u_T} {n sl : Nat} (hinj : ∀ i j, al i = al j → i = j) (hX : zX al tf gm dC dI N d maxL f R s ls B F top H locs cells slots LS) (hcell : (B ++ F.reverse)[u]? = some ((16 + c) :: fs)) (hc : vwCl[c]? = some (C, T, n)) {ce : Cell} (hkl : k < fs.length)
    (hap : ∀ a b, a < n → b < n → a ≠ b → (dI c) a ≠ (dI c) b) (hk : k < n) (q4 : ∀ j, j < n → ce.slots[(dI c) j]? = some (vp_V (fs.map (zv al tf)) j)) (q2 : ce.cls = dC c) (q3 : ce.vm = .none)
    (e1 : H1[al u]? = some (ce.setSlot ((dI c) k) (zv al tf v))) (z : H1.size = H.size) (oq : ∀ q : Nat, q ≠ al u → H1[q]? = H[q]?) {B1 F1 : List (List Nat)} (hI : zI N B1 F1 top) (hB : B1 ++ F1.reverse = (B ++ F.reverse).set u ((16 + c) :: fs.set k v)) :
    zX al tf gm dC dI N d maxL f R s ls B1 F1 top H1 (locs ++ [⟨al u, sl⟩]) cells slots LS := by
  obtain ⟨h1, h2, h3, h4, h5, h6, h7⟩ := hX
  refine ⟨h1, hI, ?_, h4.put z oq ⟨u, rfl⟩, h5, h6, h7⟩
  rw [hB]
  refine zH.set hinj h3 hcell ?_ z oq
  rw [ze_o]
  refine ⟨_, hc, t_OB.to (V := updV (vp_V (fs.map (zv al tf))) k (zv al tf v)) ⟨_, e1, q2, q3, t_set q4 hap hk _⟩ (fun j _ => ?_)⟩
  rw [List.map_set]
  exact vp_updV_set (by rw [List.length_map]; exact hkl) _ j
theorem zput_ev {go : ev_G} {nx c k j : Nat} {call : ev_C} {ls st : List Nat} {B F : List (List Nat)} {top : Nat} {q : ev_R} (hI : zI N B F top) (h : eo_putf N nx c k j call go pc ls st B F top = some q) : ∃ v u r fs B1 F1, st = v :: u :: r ∧ v % 4 = j ∧ u % 4 = 2 ∧ (B ++ F.reverse)[u / 4]? = some ((16 + c) :: fs) ∧ k < fs.length ∧ zI N B1 F1 top ∧ B1 ++ F1.reverse = (B ++ F.reverse).set (u / 4) ((16 + c) :: fs.set k v) ∧ go nx ls r B1 F1 top = some q := by
  replace h := ev_uc_some h
  obtain ⟨v, s1, rfl, h⟩ := h
  replace h := ev_uc_some h
  obtain ⟨u, r, rfl, h⟩ := h
  obtain ⟨hj, h⟩ := ev_b_some h
  obtain ⟨hu, h⟩ := ev_r_some h
  obtain ⟨cell, hcell, h⟩ := ev_at_some hI h
  replace h := ev_uc_some h
  obtain ⟨kd, fs, rfl, h⟩ := h
  replace h := ev_b_some h
  obtain ⟨hkd, h⟩ := h
  have hkd : kd = 16 + c := zb_eq.mp hkd
  subst hkd
  rw [ev_get_eq] at h
  obtain ⟨h7, h⟩ := ev_b_none h
  have hkl := (List.getElem?_eq_some_iff.mp (zfs rfl (zb_ne h7))).1
  rw [ev_set_eq] at h
  have hid : u / 4 < top := by
    have := (List.getElem?_eq_some_iff.mp hcell).1
    rw [hI.len] at this
    exact this
  obtain ⟨B1, F1, hI1, hB1, h⟩ := ev_put_some hI hid h
  exact ⟨v, u, r, fs, B1, F1, rfl, zb_eq.mp hj, hu, hcell, hkl, hI1, hB1, h⟩
theorem zo_put {nx c k n j : Nat} {C : String} {T : u_T} {ty0 : Nat → FieldType} {ins : ev_I} {P : Nat → Prop} (hc : zCl c C T n) (hty : ∀ k, k < n → parseFieldDescriptor (T k).2.2.1 = some (ty0 k)) (hk : k < n)
    (hins : ∀ call go ls st B F top q, ins call go pc ls st B F top = some q → eo_putf N nx c k j call go pc ls st B F top = some q ∧ ∀ v u r, st = v :: u :: r → P v)
    (hrow : ∀ p e R s m args below meth cc Q H locs cells slots LS (rest : List Value) (a : Nat) (ce : Cell) (v : Nat), zM al tf gm dC dI d y bytes maxL ret p R s m args meth cc → H[a]? = some ce → ce.cls = dC c → ce.vm = .none → (dI c) k < ce.slots.size → v % 4 = j → P v →
      (∀ H1 : Heap, H1[a]? = some (ce.setSlot ((dI c) k) (zv al tf v)) → H1.size = H.size → (∀ q : Nat, q ≠ a → H1[q]? = H[q]?) → W p l e R s m args below meth cc H1 (locs ++ [⟨a, (dI c) k⟩]) cells slots Q (F0 m nx LS rest)) → W p l e R s m args below meth cc H locs cells slots Q (F0 m pc LS (zv al tf v :: .ref a :: rest))) : zO zi al tf gm dC dI N d l y bytes maxL ret pc ins := by
  intro p e R s m args below meth cc Q rt hrt call go f hM hC hG ls st B F top q h hT H locs cells slots LS hX
  obtain ⟨h, hPv⟩ := hins call go ls st B F top q h
  obtain ⟨v, u, r, fs, B1, F1, rfl, hj, hu, hcell, hkl, hI1, hB1, h⟩ := zput_ev hX.2.1 h
  have he := zw_get (al := al) (tf := tf) (gm := gm) hcell
  rw [ze_o] at he
  obtain ⟨rr, h1, ce, q1, q2, q3, q4⟩ := hX.2.2.1.1 (u / 4) _ he
  have hr : rr = (C, T, n) := Option.some.inj (h1.symm.trans hc.1)
  subst hr
  rw [List.map_cons, List.map_cons, zv_r hu]
  have hap := va_apart (own := y.cls) hM.2.2.2.2.2.2.1 hc.2.1 ty0 hty hc.2.2 hM.2.2.2.2.2.2.2.2.1 hc.1
  refine hrow p e R s m args below meth cc Q H locs cells slots LS _ (al (u / 4)) ce v hM q1 q2 q3 (k2_hasslot (q4 k hk)) hj (hPv v u r rfl) (fun H1 e1 z oq => ?_)
  exact hG nx ls r B1 F1 top q h hT H1 _ cells slots LS (zput_go hM.2.2.2.2.2.2.2.2.2.2.2.1 hX.down hcell hc.1 hkl hap hk q4 q2 q3 e1 z oq hI1 hB1)
theorem zo_putf {nx c k n index j : Nat} {C : String} {T : u_T} {ty0 : Nat → FieldType} {ty : FieldType} (hc : zCl c C T n) (hty : ∀ k, k < n → parseFieldDescriptor (T k).2.2.1 = some (ty0 k)) (hk : k < n) (hd : decode bytes pc = .ok (.putfield index, 3)) (hn : nx = pc + 3) (hl : Cond.fieldLink y.cls index (T k).1 (T k).2.1 (T k).2.2.1 ∈ zTS) (hfin : (T k).2.2.2 = false) (hpd : parseFieldDescriptor (T k).2.2.1 = some ty) (hnf : ∀ v, v % 4 = j → narrow ty (zv al tf v) = zv al tf v ∧ fits ty (zv al tf v) = true) : zO zi al tf gm dC dI N d l y bytes maxL ret pc (eo_putf N nx c k j) := by
  refine zo_put (nx := nx) (P := fun _ => True) hc hty hk (fun call go ls st B F top q h => ⟨h, fun _ _ _ _ => trivial⟩) (fun p e R s m args below meth cc Q H locs cells slots LS rest a ce v hM q1 q2 q3 hlt hj _ kk => ?_)
  subst hn
  obtain ⟨hS, hfc, kC, hkC, hkind⟩ := hM.2.2.2.2.2.2.2.2.1.1 c _ hc.1
  obtain ⟨cf, kf, fi, fd, hi, hsl⟩ := hS k hk
  have hlay := hM.2.2.2.2.2.2.1 _ (hc.2.1 _ (u_in_lay hk))
  unfold u_lay at hlay
  rw [if_neg (by rw [hfin]; decide)] at hlay
  have hst := (u_facts hfc hkC (u_lays hM.2.2.2.2.2.2.1 hc.2.1 hk) hi).1
  have h6 := u_store hfc hkC hkind hlay hi hpd (hnf v hj).1 (hnf v hj).2
  refine W.putK hM.1 hM.2.1 (f := fd) ⟨hM.2.2.2.2.2.1, hM.2.2.2.2.2.2.1 _ hl, ⟨_, _, _, hi⟩, hst⟩ (by rw [q2]; exact h6) q1 q3 (by rw [hsl]; exact hlt) rfl rfl hd fun H' e1 e2 e3 => ?_
  rw [hsl] at e1 ⊢
  exact kk H' e1 e2 e3
theorem zo_putz {nx c k n index : Nat} {C : String} {T : u_T} {ty0 : Nat → FieldType} {ty : FieldType} (hc : zCl c C T n) (hty : ∀ k, k < n → parseFieldDescriptor (T k).2.2.1 = some (ty0 k)) (hk : k < n) (hd : decode bytes pc = .ok (.putfield index, 3)) (hn : nx = pc + 3) (hl : Cond.fieldLink y.cls index (T k).1 (T k).2.1 (T k).2.2.1 ∈ zTS) (hfin : (T k).2.2.2 = false) (hpd : parseFieldDescriptor (T k).2.2.1 = some ty) (hnf : ty = .byte ∨ ty = .boolean) : zO zi al tf gm dC dI N d l y bytes maxL ret pc (eo_putz N nx c k) := by
  refine zo_put (nx := nx) (j := 0) (P := fun v => v ≤ 4) hc hty hk (fun call go ls st B F top q h => ?_) (fun p e R s m args below meth cc Q H locs cells slots LS rest a ce v hM q1 q2 q3 hlt hj hP kk => ?_)
  · replace h := ev_uc_some h
    obtain ⟨v, r, rfl, h⟩ := h
    obtain ⟨hb, h⟩ := ev_b_some h
    exact ⟨h, fun v' u r' e => by cases e; exact zb_le.mp hb⟩
  · subst hn
    have hnf2 : narrow ty (zv al tf v) = zv al tf v ∧ fits ty (zv al tf v) = true := by
      have hv : v = 0 ∨ v = 4 := by omega
      rcases hnf with rfl | rfl <;> rcases hv with rfl | rfl <;> exact ⟨rfl, rfl⟩
    obtain ⟨hS, hfc, kC, hkC, hkind⟩ := hM.2.2.2.2.2.2.2.2.1.1 c _ hc.1
    obtain ⟨cf, kf, fi, fd, hi, hsl⟩ := hS k hk
    have hlay := hM.2.2.2.2.2.2.1 _ (hc.2.1 _ (u_in_lay hk))
    unfold u_lay at hlay
    rw [if_neg (by rw [hfin]; decide)] at hlay
    have hst := (u_facts hfc hkC (u_lays hM.2.2.2.2.2.2.1 hc.2.1 hk) hi).1
    have h6 := u_store hfc hkC hkind hlay hi hpd hnf2.1 hnf2.2
    refine W.putK hM.1 hM.2.1 (f := fd) ⟨hM.2.2.2.2.2.1, hM.2.2.2.2.2.2.1 _ hl, ⟨_, _, _, hi⟩, hst⟩ (by rw [q2]; exact h6) q1 q3 (by rw [hsl]; exact hlt) rfl rfl hd fun H' e1 e2 e3 => ?_
    rw [hsl] at e1 ⊢
    exact kk H' e1 e2 e3
theorem zo_putN {nx c k n index j : Nat} {C host : String} {T : u_T} {ty0 : Nat → FieldType} {ty : FieldType} (hc : zCl c C T n) (hty : ∀ k, k < n → parseFieldDescriptor (T k).2.2.1 = some (ty0 k)) (hk : k < n) (hd : decode bytes pc = .ok (.putfield index, 3)) (hn : nx = pc + 3) (hl : (y.cls, index, (T k).1, (T k).2.1, (T k).2.2.1, host) ∈ znf) (hfin : (T k).2.2.2 = false) (hpd : parseFieldDescriptor (T k).2.2.1 = some ty) (hnf : ∀ v, v % 4 = j → narrow ty (zv al tf v) = zv al tf v ∧ fits ty (zv al tf v) = true) : zO zi al tf gm dC dI N d l y bytes maxL ret pc (eo_putf N nx c k j) := by
  refine zo_put (nx := nx) (P := fun _ => True) hc hty hk (fun call go ls st B F top q h => ⟨h, fun _ _ _ _ => trivial⟩) (fun p e R s m args below meth cc Q H locs cells slots LS rest a ce v hM q1 q2 q3 hlt hj _ kk => ?_)
  subst hn
  obtain ⟨hS, hfc, kC, hkC, hkind⟩ := hM.2.2.2.2.2.2.2.2.1.1 c _ hc.1
  obtain ⟨cf, kf, fi, fd, hi, hsl⟩ := hS k hk
  have hlay := hM.2.2.2.2.2.2.1 _ (hc.2.1 _ (u_in_lay hk))
  unfold u_lay at hlay
  rw [if_neg (by rw [hfin]; decide)] at hlay
  have hst := (u_facts hfc hkC (u_lays hM.2.2.2.2.2.2.1 hc.2.1 hk) hi).1
  have h6 := u_store hfc hkC hkind hlay hi hpd (hnf v hj).1 (hnf v hj).2
  have hnw := hM.2.2.2.2.2.2.2.2.2.1.2.2.2.2.2.1 _ hl
  refine va_WputK hM.1 hM.2.1 (f := fd) hM.2.2.2.2.2.1 (va_Nw.use rfl hnw) hi hst (by rw [q2]; exact h6) q1 q3 (by rw [hsl]; exact hlt) rfl rfl hd fun H' e1 e2 e3 => ?_
  rw [hsl] at e1 ⊢
  exact kk H' e1 e2 e3
theorem zo_putF {nx c k n index j : Nat} {C : String} {T : u_T} {ty0 : Nat → FieldType} {ty : FieldType} (hc : zCl c C T n) (hty : ∀ k, k < n → parseFieldDescriptor (T k).2.2.1 = some (ty0 k)) (hk : k < n) (hd : decode bytes pc = .ok (.putfield index, 3)) (hn : nx = pc + 3) (hl : Cond.fieldLink y.cls index (T k).1 (T k).2.1 (T k).2.2.1 ∈ zTS) (hfin : (T k).2.2.2 = true) (hin : y.name = "<init>") (hdecl : (T k).1 = y.cls) (hpd : parseFieldDescriptor (T k).2.2.1 = some ty) (hnf : ∀ v, v % 4 = j → narrow ty (zv al tf v) = zv al tf v ∧ fits ty (zv al tf v) = true) : zO zi al tf gm dC dI N d l y bytes maxL ret pc (eo_putf N nx c k j) := by
  refine zo_put (nx := nx) (P := fun _ => True) hc hty hk (fun call go ls st B F top q h => ⟨h, fun _ _ _ _ => trivial⟩) (fun p e R s m args below meth cc Q H locs cells slots LS rest a ce v hM q1 q2 q3 hlt hj _ kk => ?_)
  subst hn
  obtain ⟨hS, hfc, kC, hkC, hkind⟩ := hM.2.2.2.2.2.2.2.2.1.1 c _ hc.1
  obtain ⟨cf, kf, fi, fd, hi, hsl⟩ := hS k hk
  have hlay := hM.2.2.2.2.2.2.1 _ (hc.2.1 _ (u_in_lay hk))
  unfold u_lay at hlay
  rw [if_pos hfin] at hlay
  have hst := (u_facts hfc hkC (u_lays hM.2.2.2.2.2.2.1 hc.2.1 hk) hi).1
  have hcf : m.cls = cf := by
    obtain ⟨_, _, c', _, _, _, -, -, hf', -, -, -, hown2, -⟩ := Cond.laysFinal_spec hlay
    have e1 : c' = cf := by have := hi.symm.trans hf'; simp at this; exact this.1.symm
    rw [hdecl] at hown2
    rw [← e1]
    exact Option.some.inj (hM.2.2.2.2.2.1.symm.trans hown2)
  have h6 := u_fits hfc hkC hkind (Or.inr hlay) hi hpd (hnf v hj).1 (hnf v hj).2
  refine W.putFinK hM.1 hM.2.1 hM.2.2.2.2.2.1 (hM.2.2.2.2.2.2.1 _ hl) hi hst hcf (hM.2.2.2.2.2.2.2.1 hin) (by rw [q2]; exact h6) q1 q3 (by rw [hsl]; exact hlt) rfl rfl hd fun H' e1 e2 e3 => ?_
  rw [hsl] at e1 ⊢
  exact kk H' e1 e2 e3
/-- references and null fit -/
theorem zfit_r {ty : FieldType} (h : (∃ n, ty = .object n) ∨ ∃ t, ty = .array t) (v : Nat) (hv : v % 4 = 2) : narrow ty (zv al tf v) = zv al tf v ∧ fits ty (zv al tf v) = true := by
  rw [zv_r hv]
  rcases h with ⟨n, rfl⟩ | ⟨t, rfl⟩ <;> exact ⟨rfl, rfl⟩
theorem zfit_n {ty : FieldType} (h : (∃ n, ty = .object n) ∨ ∃ t, ty = .array t) (v : Nat) (hv : v % 4 = 3) : narrow ty (zv al tf v) = zv al tf v ∧ fits ty (zv al tf v) = true := by
  have e : zv al tf v = .ref tf.1 ∨ zv al tf v = .null := by
    unfold zv
    rw [if_neg (by omega), if_neg (by omega), if_neg (by omega)]
    by_cases h : v = 11
    · rw [if_pos h]; exact Or.inl rfl
    · rw [if_neg h]; exact Or.inr rfl
  rcases e with e | e <;> rw [e] <;> rcases h with ⟨n, rfl⟩ | ⟨t, rfl⟩ <;> exact ⟨rfl, rfl⟩
theorem zfit_i (v : Nat) (hv : v % 4 = 0) : narrow .int (zv al tf v) = zv al tf v ∧ fits .int (zv al tf v) = true := by
  rw [zv_i hv]
  exact ⟨rfl, rfl⟩
theorem zfit_l (v : Nat) (hv : v % 4 = 1) : narrow .long (zv al tf v) = zv al tf v ∧ fits .long (zv al tf v) = true := by
  rw [zv_l hv]
  exact ⟨rfl, rfl⟩
end ZM
end
section
section ZR
variable {zi : zMs} {al : Nat → Nat} {tf : Nat × Nat} {gm dC : Nat → ClassId} {dI : Nat → Nat → Nat} {N d : Nat} {l : Launch} {y : MethodName} {bytes : ByteArray} {maxL : Nat} {ret : Option FieldType} {pc : Nat}
theorem zv_in {v n : Nat} (h : v < ev_H) (hn : v / 4 < n) : vp_in (nI (v / 4)) n ∧ (nI (v / 4)).toNatClampNeg = v / 4 := by
  unfold ev_H at h
  have e := nI_clamp (n := v / 4) (by omega)
  refine ⟨?_, e⟩
  rintro (q | q)
  · exact nI_pos (by omega) q
  · rw [e] at q
    omega
theorem zlt_of {fs : List Nat} {k : Nat} (h : fs.getD k 7 ≠ 7) : k < fs.length := (List.getElem?_eq_some_iff.mp (zfs rfl h)).1
theorem zgd {fs : List Nat} {k : Nat} (h : k < fs.length) (a b : Nat) : fs.getD k a = fs.getD k b := by
  rw [List.getD_eq_getElem?_getD, List.getD_eq_getElem?_getD, List.getElem?_eq_getElem h]
  rfl
theorem zo_ald {nx q : Nat} (hd : (q = 0 ∧ decode bytes pc = .ok (.iaload, 1)) ∨ (q = 1 ∧ decode bytes pc = .ok (.baload, 1))) (hn : nx = pc + 1) : zO zi al tf gm dC dI N d l y bytes maxL ret pc (eo_ald N nx q) := by
  intro p e R s m args below meth cc Q rt hrt call go f hM hC hG ls st B F top qq h hT H locs cells slots LS hX
  subst hn
  replace h := ev_uc_some h
  obtain ⟨v, s1, rfl, h⟩ := h
  replace h := ev_uc_some h
  obtain ⟨u, r, rfl, h⟩ := h
  obtain ⟨hv, h⟩ := ev_i_some h
  obtain ⟨hvl, h⟩ := ev_b_some h
  obtain ⟨hu, h⟩ := ev_r_some h
  obtain ⟨cell, hcell, h⟩ := ev_at_some hX.2.1 h
  replace h := ev_uc_some h
  obtain ⟨kd, fs, rfl, h⟩ := h
  replace h := ev_b_some h
  obtain ⟨hkd, h⟩ := h
  have hkd : q = kd := (zb_eq.mp hkd).symm
  subst hkd
  rw [ev_get_eq] at h
  replace h := ev_i_some h
  obtain ⟨hx, h⟩ := h
  have hlt : v / 4 < fs.length := zlt_of (by show fs.getD (Nat.div v 4) 7 ≠ 7; omega)
  obtain ⟨hin, hcl⟩ := zv_in (zb_lt.mp hvl) hlt
  have he := zw_get (al := al) (tf := tf) (gm := gm) hcell
  have K := hG (pc + 1) ls _ B F top qq h hT H locs cells slots LS hX.down
  rw [List.map_cons, zv_i hx] at K
  rw [List.map_cons, List.map_cons, zv_i hv, zv_r hu]
  have e2 : fs.getD (Nat.div v 4) 7 = fs.getD (nI (v / 4)).toNatClampNeg 0 := by
    rw [hcl]
    exact zgd hlt 7 0
  rw [e2] at K
  rcases hd with ⟨rfl, hd⟩ | ⟨rfl, hd⟩
  · rw [ze_n (by omega)] at he
    exact va_iald hM.1 hM.2.1 hM.2.2.2.2.2.2.2.2.1 hX.2.2.1.1 (u / 4) 0 he rfl hin hd K
  · rw [ze_n (by omega)] at he
    exact va_bald hM.1 hM.2.1 hM.2.2.2.2.2.2.2.2.1 hX.2.2.1.1 (u / 4) 1 he rfl hin hd K
theorem zo_aldr {nx q : Nat} {ty : FieldType} (h2 : 2 ≤ q) (h16 : q < 16) (hty : (ztys gm)[q]? = some (gm q, ty)) (hrf : ty.isReference = true) (hd : decode bytes pc = .ok (.aaload, 1)) (hn : nx = pc + 1) : zO zi al tf gm dC dI N d l y bytes maxL ret pc (eo_aldr N nx q) := by
  intro p e R s m args below meth cc Q rt hrt call go f hM hC hG ls st B F top qq h hT H locs cells slots LS hX
  subst hn
  replace h := ev_uc_some h
  obtain ⟨v, s1, rfl, h⟩ := h
  replace h := ev_uc_some h
  obtain ⟨u, r, rfl, h⟩ := h
  obtain ⟨hv, h⟩ := ev_i_some h
  obtain ⟨hvl, h⟩ := ev_b_some h
  obtain ⟨hu, h⟩ := ev_r_some h
  obtain ⟨cell, hcell, h⟩ := ev_at_some hX.2.1 h
  replace h := ev_uc_some h
  obtain ⟨kd, fs, rfl, h⟩ := h
  replace h := ev_b_some h
  obtain ⟨hkd, h⟩ := h
  have hkd : q = kd := (zb_eq.mp hkd).symm
  subst hkd
  rw [ev_get_eq] at h
  have key : (fs.getD (Nat.div v 4) 7 % 4 = 2 ∨ fs.getD (Nat.div v 4) 7 = 3) ∧ go (pc + 1) ls (fs.getD (Nat.div v 4) 7 :: r) B F top = some qq := by
    rcases ev_if zb_eq h with ⟨h1, h⟩ | ⟨-, h⟩
    · exact ⟨Or.inl h1, h⟩
    · obtain ⟨h1, h⟩ := ev_b_some h
      exact ⟨Or.inr (zb_eq.mp h1), h⟩
  obtain ⟨hx, h⟩ := key
  have hlt : v / 4 < fs.length := zlt_of (by show fs.getD (Nat.div v 4) 7 ≠ 7; omega)
  obtain ⟨hin, hcl⟩ := zv_in (zb_lt.mp hvl) hlt
  have he := zw_get (al := al) (tf := tf) (gm := gm) hcell
  rw [ze_q h2 h16] at he
  have K := hG (pc + 1) ls _ B F top qq h hT H locs cells slots LS hX.down
  rw [List.map_cons] at K
  rw [List.map_cons, List.map_cons, zv_i hv, zv_r hu]
  have e2 : fs.getD (Nat.div v 4) 7 = fs.getD (nI (v / 4)).toNatClampNeg 3 := by
    rw [hcl]
    exact zgd hlt 7 3
  have hlt2 : (nI (v / 4)).toNatClampNeg < fs.length := by rw [hcl]; exact hlt
  have ev : zv al tf (fs.getD (Nat.div v 4) 7) = va_rf (zr al (fs.getD (nI (v / 4)).toNatClampNeg 3)) := by
    rw [← e2]
    rcases hx with hx | hx
    · rw [zv_r hx]
      unfold zr
      rw [if_pos hx]
      rfl
    · rw [hx]
      rfl
  rw [ev] at K
  exact W.aald (v := va_rf (zr al (fs.getD (nI (v / 4)).toNatClampNeg 3))) (ty := ty) hM.1 hM.2.1 (hX.2.2.1.1 (u / 4) _ he) ((hM.2.2.2.2.2.2.2.2.1.2 q _ hty).1 fs.length (fun j => va_rf (zr al (fs.getD j 3)))) hrf (fun q => by cases q) (by show ¬ ((nI (v / 4)) < 0 ∨ (arrV _ _ _).slots.size ≤ _); rw [arrV_size]; exact hin) (by show (arrV _ _ _).slots[_]? = _; rw [arrV_read _ _ hlt2]) rfl rfl hd K
theorem zast_ev {go : ev_G} {nx q : Nat} {call : ev_C} {ls st : List Nat} {B F : List (List Nat)} {top : Nat} {qq : ev_R} (hI : zI N B F top) (h : eo_ast N nx q call go pc ls st B F top = some qq) : ∃ x v u r fs B1 F1, st = x :: v :: u :: r ∧ x % 4 = 0 ∧ v % 4 = 0 ∧ v < ev_H ∧ u % 4 = 2 ∧ (B ++ F.reverse)[u / 4]? = some (q :: fs) ∧ v / 4 < fs.length ∧ zI N B1 F1 top ∧ B1 ++ F1.reverse = (B ++ F.reverse).set (u / 4) (q :: fs.set (v / 4) x) ∧ go nx ls r B1 F1 top = some qq := by
  replace h := ev_uc_some h
  obtain ⟨x, s0, rfl, h⟩ := h
  replace h := ev_uc_some h
  obtain ⟨v, s1, rfl, h⟩ := h
  replace h := ev_uc_some h
  obtain ⟨u, r, rfl, h⟩ := h
  obtain ⟨hx, h⟩ := ev_i_some h
  obtain ⟨hv, h⟩ := ev_i_some h
  obtain ⟨hvl, h⟩ := ev_b_some h
  obtain ⟨hu, h⟩ := ev_r_some h
  obtain ⟨cell, hcell, h⟩ := ev_at_some hI h
  replace h := ev_uc_some h
  obtain ⟨kd, fs, rfl, h⟩ := h
  replace h := ev_b_some h
  obtain ⟨hkd, h⟩ := h
  have hkd : q = kd := (zb_eq.mp hkd).symm
  subst hkd
  rw [ev_get_eq] at h
  obtain ⟨h7, h⟩ := ev_b_none h
  have hlt : v / 4 < fs.length := zlt_of (zb_ne h7)
  rw [ev_set_eq] at h
  have hid : u / 4 < top := by
    have := (List.getElem?_eq_some_iff.mp hcell).1
    rw [hI.len] at this
    exact this
  obtain ⟨B1, F1, hI1, hB1, h⟩ := ev_put_some hI hid h
  exact ⟨x, v, u, r, fs, B1, F1, rfl, hx, hv, zb_lt.mp hvl, hu, hcell, hlt, hI1, hB1, h⟩
theorem zast_cell {cA : ClassId} {fs : List Nat} {k x : Nat} (hk : k < fs.length) : (arrV cA fs.length (fun j => Value.int (nI (fs.getD j 0 / 4)))).setSlot k (.int (nI (x / 4))) = vp_cell cA ((fs.set k x).length, .inl (fun j => nI ((fs.set k x).getD j 0 / 4))) := by
  rw [vp_cell_i, arrV_store, List.length_set]
  congr 1
  funext j
  show (if j = k then Value.int (nI (x / 4)) else Value.int (nI (fs.getD j 0 / 4))) = Value.int (nI ((fs.set k x).getD j 0 / 4))
  rw [List.getD_eq_getElem?_getD, List.getD_eq_getElem?_getD, List.getElem?_set]
  by_cases h : j = k
  · subst h
    rw [if_pos rfl, if_pos rfl, if_pos hk]
    rfl
  · rw [if_neg h, if_neg (fun q => h q.symm)]
theorem zast_go {q x v u : Nat} {fs : List Nat} {R : Room} {f : Nat} {s : State} {ls : List Nat} {B F : List (List Nat)} {top : Nat} {H H1 : Heap} {locs : List Loc} {cells slots : Nat} {LS : Array Slot} {k : Nat} (hq : q < 2) (hinj : ∀ i j, al i = al j → i = j) (hX : zX al tf gm dC dI N d maxL f R s ls B F top H locs cells slots LS) (hcell : (B ++ F.reverse)[u]? = some (q :: fs)) (hlt : v < fs.length)
    (e1 : H1[al u]? = some ((arrV (gm q) fs.length (fun j => Value.int (nI (fs.getD j 0 / 4)))).setSlot v (.int (nI (x / 4))))) (z : H1.size = H.size) (oq : ∀ q : Nat, q ≠ al u → H1[q]? = H[q]?) {B1 F1 : List (List Nat)} (hI : zI N B1 F1 top) (hB : B1 ++ F1.reverse = (B ++ F.reverse).set u (q :: fs.set v x)) :
    zX al tf gm dC dI N d maxL f R s ls B1 F1 top H1 (locs ++ [⟨al u, k⟩]) cells slots LS := by
  obtain ⟨h1, h2, h3, h4, h5, h6, h7⟩ := hX
  refine ⟨h1, hI, ?_, h4.put z oq ⟨u, rfl⟩, h5, h6, h7⟩
  rw [hB]
  refine zH.set hinj h3 hcell ?_ z oq
  rw [ze_n hq]
  show H1[al u]? = some (vp_cell _ _)
  rw [e1, zast_cell hlt]
theorem zo_ast {nx : Nat} (hd : decode bytes pc = .ok (.iastore, 1)) (hn : nx = pc + 1) : zO zi al tf gm dC dI N d l y bytes maxL ret pc (eo_ast N nx 0) := by
  intro p e R s m args below meth cc Q rt hrt call go f hM hC hG ls st B F top qq h hT H locs cells slots LS hX
  subst hn
  obtain ⟨x, v, u, r, fs, B1, F1, rfl, hx, hv, hvl, hu, hcell, hlt, hI1, hB1, h⟩ := zast_ev hX.2.1 h
  obtain ⟨hin, hcl⟩ := zv_in hvl hlt
  have he := zw_get (al := al) (tf := tf) (gm := gm) hcell
  rw [ze_n (by omega)] at he
  rw [List.map_cons, List.map_cons, List.map_cons, zv_i hx, zv_i hv, zv_r hu]
  refine W.iast hM.1 hM.2.1 (hX.2.2.1.1 (u / 4) _ he) ((hM.2.2.2.2.2.2.2.2.1.2 0 _ rfl).1 fs.length (fun j => .int (nI (fs.getD j 0 / 4)))) (fun q => by cases q) (by show ¬ ((nI (v / 4)) < 0 ∨ (arrV _ _ _).slots.size ≤ _); rw [arrV_size]; exact hin) rfl rfl hd fun H1 e1 z oq => ?_
  rw [hcl] at e1
  exact hG _ ls r B1 F1 top qq h hT H1 _ cells slots LS (zast_go (by omega) hM.2.2.2.2.2.2.2.2.2.2.2.1 hX.down hcell hlt e1 z oq hI1 hB1)
theorem znb : ∀ k, k < 128 → narrow .byte (.int (nI k)) = .int (nI k) := by decide +kernel
theorem zo_astb {nx : Nat} (hd : decode bytes pc = .ok (.bastore, 1)) (hn : nx = pc + 1) : zO zi al tf gm dC dI N d l y bytes maxL ret pc (eo_astb N nx) := by
  intro p e R s m args below meth cc Q rt hrt call go f hM hC hG ls st B F top qq h hT H locs cells slots LS hX
  subst hn
  replace h := ev_uc_some h
  obtain ⟨x0, s0, e0, h⟩ := h
  replace h := ev_b_some h
  obtain ⟨hx0, h⟩ := h
  replace h := zast_ev hX.2.1 h
  obtain ⟨x, v, u, r, fs, B1, F1, rfl, hx, hv, hvl, hu, hcell, hlt, hI1, hB1, h⟩ := h
  cases e0
  have hx0 := zb_lt.mp hx0
  obtain ⟨hin, hcl⟩ := zv_in hvl hlt
  have he := zw_get (al := al) (tf := tf) (gm := gm) hcell
  rw [ze_n (by omega)] at he
  rw [List.map_cons, List.map_cons, List.map_cons, zv_i hx, zv_i hv, zv_r hu]
  refine W.bast hM.1 hM.2.1 (hX.2.2.1.1 (u / 4) _ he) ((hM.2.2.2.2.2.2.2.2.1.2 1 _ rfl).1 fs.length (fun j => .int (nI (fs.getD j 0 / 4)))) (fun q => by cases q) (by show ¬ ((nI (v / 4)) < 0 ∨ (arrV _ _ _).slots.size ≤ _); rw [arrV_size]; exact hin) rfl rfl hd fun H1 e1 z oq => ?_
  rw [hcl, znb _ (by omega)] at e1
  exact hG _ ls r B1 F1 top qq h hT H1 _ cells slots LS (zast_go (by omega) hM.2.2.2.2.2.2.2.2.2.2.2.1 hX.down hcell hlt e1 z oq hI1 hB1)
theorem zo_len {nx q : Nat} {ty : FieldType} (h16 : q < 16) (hty : (ztys gm)[q]? = some (gm q, ty)) (hd : decode bytes pc = .ok (.arraylength, 1)) (hn : nx = pc + 1) : zO zi al tf gm dC dI N d l y bytes maxL ret pc (eo_len N nx q) := by
  intro p e R s m args below meth cc Q rt hrt call go f hM hC hG ls st B F top qq h hT H locs cells slots LS hX
  subst hn
  replace h := ev_uc_some h
  obtain ⟨u, r, rfl, h⟩ := h
  obtain ⟨hu, h⟩ := ev_r_some h
  obtain ⟨cell, hcell, h⟩ := ev_at_some hX.2.1 h
  replace h := ev_uc_some h
  obtain ⟨kd, fs, rfl, h⟩ := h
  replace h := ev_b_some h
  obtain ⟨hkd, h⟩ := h
  have hkd : q = kd := (zb_eq.mp hkd).symm
  subst hkd
  rw [ev_len_eq, ev_nf_eq, Nat.zero_add] at h
  have K := hG (pc + 1) ls _ B F top qq h hT H locs cells slots LS hX.down
  rw [List.map_cons, show Nat.mul 4 fs.length = 4 * fs.length from rfl, zv_k] at K
  rw [List.map_cons, zv_r hu]
  have he := zw_get (al := al) (tf := tf) (gm := gm) hcell
  by_cases h2 : q < 2
  · rw [ze_n h2] at he
    exact va_alen hM.1 hM.2.1 hM.2.2.2.2.2.2.2.2.1 hX.2.2.1.1 (u / 4) q he hty rfl hd K
  · rw [ze_q (by omega) h16] at he
    exact va_alen hM.1 hM.2.1 hM.2.2.2.2.2.2.2.2.1 hX.2.2.1.1 (u / 4) q he hty rfl hd K
/-- a new cell goes on the world's end -/
theorem znew_go {cl : List Nat} {R : Room} {f k n : Nat} {s : State} {ls : List Nat} {B F : List (List Nat)} {top : Nat} {H H1 : Heap} {locs : List Loc} {cells slots : Nat} {LS : Array Slot} (hX : zX al tf gm dC dI N d maxL (f + 1) R s ls B F top H locs cells slots LS) (he : va_at (dC, dI) vwCl (al (B ++ F.reverse).length, ze al tf gm cl) H1) (z : H1.size = H.size + 1) (o : ∀ q : Nat, q < H.size → H1[q]? = H[q]?) (hk : k ≤ 1) (hn : n ≤ 65536) :
    zX al tf gm dC dI N d maxL f R s ls B (cl :: F) (top + 1) H1 locs (cells + k) (slots + n) LS := by
  obtain ⟨h1, h2, h3, h4, h5, h6, h7⟩ := hX
  obtain ⟨g1, g2⟩ := h2.push cl
  have c1 := zC_pos d
  have c2 := zS_pos d
  rw [Nat.succ_mul] at h5 h6
  exact ⟨h1, g1, by rw [g2]; exact h3.push he z o, zS.push h4 z o, by omega, by omega, h7⟩
theorem znew_room {R : Room} {f : Nat} {s : State} {ls : List Nat} {B F : List (List Nat)} {top : Nat} {H : Heap} {locs : List Loc} {cells slots n : Nat} {LS : Array Slot} (hX : zX al tf gm dC dI N d maxL (f + 1) R s ls B F top H locs cells slots LS) (hn : n ≤ 65536) : cells + 1 ≤ R.cells ∧ slots + n ≤ R.slots := by
  obtain ⟨-, -, -, -, h5, h6, -⟩ := hX
  have c1 := zC_pos d
  have c2 := zS_pos d
  rw [Nat.succ_mul] at h5 h6
  exact ⟨by omega, by omega⟩
theorem zo_newa {nx q : Nat} {atype : ArrayType} (hq : (q = 0 ∧ atype = .int) ∨ (q = 1 ∧ atype = .byte)) (harr : Cond.arrayClass (newarray.typeOf atype) ∈ zTS) (hd : decode bytes pc = .ok (.newarray atype, 2)) (hn : nx = pc + 2) : zO zi al tf gm dC dI N d l y bytes maxL ret pc (eo_newa nx q 0) := by
  intro p e R s m args below meth cc Q rt hrt call go f hM hC hG ls st B F top qq h hT H locs cells slots LS hX
  subst hn
  replace h := ev_uc_some h
  obtain ⟨n, r, rfl, h⟩ := h
  obtain ⟨hn4, h⟩ := ev_i_some h
  obtain ⟨hnl, h⟩ := ev_b_some h
  have hnl := zb_le.mp hnl
  rw [ev_nf_eq, ev_rep_eq, ev_nf_eq, ev_nf_eq, List.append_nil] at h
  rw [List.map_cons, zv_i hn4]
  have hclm := nI_clamp (n := n / 4) (by omega)
  obtain ⟨r1, r2⟩ := znew_room (n := n / 4) hX (by omega)
  have hbytes : n / 4 * componentBytes (newarray.typeOf atype) ≤ 536870912 := by
    rcases hq with ⟨-, rfl⟩ | ⟨-, rfl⟩
    · show n / 4 * 4 ≤ _
      omega
    · show n / 4 * 1 ≤ _
      omega
  refine va_newaK hM.1 hM.2.1 (hM.2.2.2.2.2.2.1 _ harr) rfl hd rfl (nI_pos (by omega)) hclm hbytes r1 r2 rfl fun H1 cA e1 z1 o1 hAr hNm => ?_
  have hRA := (hM.2.2.2.2.2.2.2.2.1.2 q _ (show (ztys gm)[q]? = some (gm q, newarray.typeOf atype) by rcases hq with ⟨rfl, rfl⟩ | ⟨rfl, rfl⟩ <;> rfl)).2
  have hcA : cA = gm q := by
    have h2 : s.vm.findClass ("[" ++ (newarray.typeOf atype).toString) = some (gm q) := by
      rcases hq with ⟨rfl, rfl⟩ | ⟨rfl, rfl⟩ <;> exact hRA
    exact Option.some.inj (hNm.symm.trans h2)
  subst hcA
  have htop := hX.2.2.1.top
  have hlen := hX.2.1.len
  have K := hG (pc + 2) ls _ B _ (top + 1) qq h hT H1 locs (cells + 1) (slots + n / 4) LS (znew_go hX (by
    rw [ze_n (by rcases hq with ⟨rfl, -⟩ | ⟨rfl, -⟩ <;> omega), htop]
    show H1[H.size]? = some (vp_cell _ _)
    rw [e1, vp_cell_i, List.length_replicate]
    congr 2
    funext j
    have ez : (List.replicate (Nat.div n 4) 0).getD j 0 = 0 := by
      rw [List.getD_eq_getElem?_getD, List.getElem?_replicate]
      by_cases hj : j < Nat.div n 4
      · rw [if_pos hj]; rfl
      · rw [if_neg hj]; rfl
    rw [ez]
    rcases hq with ⟨-, rfl⟩ | ⟨-, rfl⟩ <;> rfl) z1 o1 (Nat.le_refl 1) (by omega))
  rw [List.map_cons] at K
  have ev : zv al tf (Nat.add (Nat.mul 4 top) 2) = .ref H.size := by
    rw [← htop, hlen]
    exact zv_kr top
  rw [ev] at K
  exact K
theorem zo_new {nx c n index : Nat} {C : String} {T : u_T} {ty0 : Nat → FieldType} {fs : List Nat} (hc : zCl c C T n) (hty : ∀ k, k < n → parseFieldDescriptor (T k).2.2.1 = some (ty0 k)) (hfs : ∀ al tf j, j < n → defaultValue (ty0 j) = vp_V (fs.map (zv al tf)) j) (hd : decode bytes pc = .ok (.new index, 3)) (hn : nx = pc + 3) (hn6 : n ≤ 65536) (hl : Cond.classLink y.cls index C ∈ zTS) (hi : Cond.instantiable C n ∈ zTS) (hini : Cond.initialized C ∈ zTS) : zO zi al tf gm dC dI N d l y bytes maxL ret pc (eo_new nx c fs) := by
  intro p e R s m args below meth cc Q rt hrt call go f hM hC hG ls st B F top qq h hT H locs cells slots LS hX
  subst hn
  replace h : ev_nf (Nat.add (Nat.mul 4 top) 2) (fun w => ev_nf (Nat.succ top) fun top' => go (pc + 3) ls (w :: st) B (((Nat.add 16 c) :: fs) :: F) top') = some qq := h
  rw [ev_nf_eq, ev_nf_eq] at h
  obtain ⟨r1, r2⟩ := znew_room (n := n) hX hn6
  have hKn := hM.2.2.2.2.2.2.2.2.1.1 c _ hc.1
  have htop := hX.2.2.1.top
  have hlen := hX.2.1.len
  refine W.newcK hM.1 hM.2.1 hM.2.2.2.2.2.1 (hM.2.2.2.2.2.2.1 _ hl) (hM.2.2.2.2.2.2.1 _ hi) (hM.2.2.2.2.2.2.1 _ hini) rfl hd r1 r2 hKn.2.1 rfl fun H1 kC hkC e1 z1 o1 => ?_
  have K := hG (pc + 3) ls _ B _ (top + 1) qq h hT H1 locs (cells + 1) (slots + n) LS (znew_go hX (by
    rw [show (Nat.add 16 c) :: fs = (16 + c) :: fs from rfl, ze_o, htop]
    exact ⟨_, hc.1, (u_born ty0 hM.2.2.2.2.2.2.1 hc.2.1 hKn hkC e1 hty).to (hfs al tf)⟩) z1 o1 (Nat.le_refl 1) hn6)
  rw [List.map_cons] at K
  have ev : zv al tf (Nat.add (Nat.mul 4 top) 2) = .ref H.size := by
    rw [← htop, hlen]
    exact zv_kr top
  rw [ev] at K
  exact K
theorem zcat_le (r : List Nat) : ((r.map (zv al tf)).map fun v => v.category).sum ≤ 2 * r.length := by
  induction r with
  | nil => exact Nat.le_refl _
  | cons a t ih =>
    rw [List.map_cons, List.map_cons, List.sum_cons, List.length_cons]
    have := zv_c (al := al) (tf := tf) (v := a)
    omega
theorem zo_oinit {nx index : Nat} (hd : decode bytes pc = .ok (.invokespecial index, 3)) (hn : nx = pc + 3) (hl : Cond.methodLink y.cls index Lib.objectInit ∈ zTS) (hi : Cond.instanceMethod Lib.objectInit ∈ zTS) (hco : Cond.code Lib.objectInit ⟨#[0xb1]⟩ 1 none ∈ zTS) : zO zi al tf gm dC dI N d l y bytes maxL ret pc (eo_oinit nx) := by
  intro p e R s m args below meth cc Q rt hrt call go f hM hC hG ls st B F top qq h hT H locs cells slots LS hX
  subst hn
  replace h := ev_uc_some h
  obtain ⟨u, r, rfl, h⟩ := h
  obtain ⟨hu, h⟩ := ev_r_some h
  obtain ⟨hr, h⟩ := ev_upto_some 4 r _ _ h
  rw [List.map_cons, zv_r hu]
  have hlo := hM.2.2.2.2.2.2.2.2.2.2.2.2.2
  have hfr := hM.2.2.2.2.2.2.2.2.2.2.2.2.1
  have hc := zcat_le (al := al) (tf := tf) r
  refine W.objInit hM.1 hM.2.1 hM.2.2.2.2.2.1 (hM.2.2.2.2.2.2.1 _ hl) (hM.2.2.2.2.2.2.1 _ hi) (hM.2.2.2.2.2.2.1 _ hco) rfl (by rw [hM.2.2.1]; exact hX.1.1.trans hX.2.2.2.2.2.2) rfl hd (by omega) (by show 2 * 0 + _ + 12 ≤ _; omega) ?_
  exact hG (pc + 3) ls r B F top qq h hT H locs cells slots LS hX.down
theorem zo_ldcs {nx id index : Nat} {tx : String} (hd : decode bytes pc = .ok (.ldc index, 2)) (hn : nx = pc + 2) (hl : (y.cls, index, tx, id) ∈ zstrs) : zO zi al tf gm dC dI N d l y bytes maxL ret pc (eo_push nx (4 * (tf.2 + id) + 2)) :=
  zo_push fun p e R s m args below meth c Q H locs cells slots LS rest hM _ K => va_ldcS hM.1 hM.2.1 hM.2.2.2.2.2.1 (hM.2.2.2.2.2.2.2.2.2.1.2.2.2.2.1 _ hl) hd (by rw [zv_kr] at K; rw [← hn]; exact K)
theorem zo_gets {nx v index : Nat} {C n dd : String} (hZ : ∀ s, zQ al tf s → va_Z C n dd (zv al tf v) (zA al) s s.heap) (hd : decode bytes pc = .ok (.getstatic index, 3)) (hn : nx = pc + 3) (hl : Cond.fieldLink y.cls index C n dd ∈ zTS) : zO zi al tf gm dC dI N d l y bytes maxL ret pc (eo_push nx v) :=
  zo_push fun p e R s m args below meth c Q H locs cells slots LS rest hM hS K => va_gets hM.1 hM.2.1 (hZ s hM.2.2.2.2.2.2.2.2.2.1) hS hM.2.2.2.2.2.1 (hM.2.2.2.2.2.2.1 _ hl) (fun _ z => z) hd (by rw [← hn]; exact K)
end ZR
end
section
section ZK
variable {zi : zMs} {al : Nat → Nat} {tf : Nat × Nat} {gm dC : Nat → ClassId} {dI : Nat → Nat → Nat} {N d : Nat} {l : Launch} {y : MethodName} {bytes : ByteArray} {maxL : Nat} {ret : Option FieldType} {pc : Nat}
/-- two longs become one value -/
theorem zo_lbin {nx : Nat} {g : Nat → Nat → Nat} {P : Nat → Nat → Prop} {ins : ev_I} (hins : ∀ call go pc ls st B F top q, ins call go pc ls st B F top = some q → ∃ v u r, st = v :: u :: r ∧ v % 4 = 1 ∧ u % 4 = 1 ∧ P u v ∧ go nx ls (g u v :: r) B F top = some q)
    (hw : ∀ p e R s m args below meth c Q H locs cells slots LS (rest : List Value) u v, zM al tf gm dC dI d y bytes maxL ret p R s m args meth c → v % 4 = 1 → u % 4 = 1 → P u v → W p l e R s m args below meth c H locs cells slots Q (F0 m nx LS (zv al tf (g u v) :: rest)) → W p l e R s m args below meth c H locs cells slots Q (F0 m pc LS (.long (lN (v / 4)) :: .long (lN (u / 4)) :: rest))) : zO zi al tf gm dC dI N d l y bytes maxL ret pc ins := by
  intro p e R s m args below meth c Q rt hrt call go f hM hC hG ls st B F top q h hT H locs cells slots LS hX
  obtain ⟨v, u, r, rfl, hv, hu, hP, h⟩ := hins call go pc ls st B F top q h
  rw [List.map_cons, List.map_cons, zv_l hv, zv_l hu]
  exact hw p e R s m args below meth c Q H locs cells slots LS _ u v hM hv hu hP (hG nx ls _ B F top q h hT H locs cells slots LS hX.down)
theorem zo_ladd {nx : Nat} (hd : decode bytes pc = .ok (.ladd, 1)) (hn : nx = pc + 1) : zO zi al tf gm dC dI N d l y bytes maxL ret pc (eo_ladd nx) := by
  refine zo_lbin (nx := nx) (g := fun u v => 4 * ((u / 4 + v / 4) % ev_ML) + 1) (P := fun _ _ => True) (fun call go pc ls st B F top q h => ?_) (fun p e R s m args below meth c Q H locs cells slots LS rest u v hM hv hu _ K => ?_)
  · replace h := ev_uc_some h
    obtain ⟨v, s1, rfl, h⟩ := h
    replace h := ev_uc_some h
    obtain ⟨u, r, rfl, h⟩ := h
    obtain ⟨hv, h⟩ := ev_l_some h
    obtain ⟨hu, h⟩ := ev_l_some h
    rw [ev_nf_eq] at h
    exact ⟨v, u, r, rfl, hv, hu, trivial, h⟩
  · subst hn
    refine lv_ladd hM.1 hM.2.1 hd ?_
    have e : zv al tf (4 * ((u / 4 + v / 4) % ev_ML) + 1) = .long (lN (u / 4) + lN (v / 4)) := by
      rw [zv_kl, lN_add]
      exact congrArg Value.long (zl_mod _)
    rw [← e]
    exact K
theorem zo_lmul {nx : Nat} (hd : decode bytes pc = .ok (.lmul, 1)) (hn : nx = pc + 1) : zO zi al tf gm dC dI N d l y bytes maxL ret pc (eo_lmul nx) := by
  refine zo_lbin (nx := nx) (g := fun u v => 4 * ((u / 4 * (v / 4)) % ev_ML) + 1) (P := fun _ _ => True) (fun call go pc ls st B F top q h => ?_) (fun p e R s m args below meth c Q H locs cells slots LS rest u v hM hv hu _ K => ?_)
  · replace h := ev_uc_some h
    obtain ⟨v, s1, rfl, h⟩ := h
    replace h := ev_uc_some h
    obtain ⟨u, r, rfl, h⟩ := h
    obtain ⟨hv, h⟩ := ev_l_some h
    obtain ⟨hu, h⟩ := ev_l_some h
    rw [ev_nf_eq] at h
    exact ⟨v, u, r, rfl, hv, hu, trivial, h⟩
  · subst hn
    refine lv_lmul hM.1 hM.2.1 hd ?_
    have e : zv al tf (4 * ((u / 4 * (v / 4)) % ev_ML) + 1) = .long (lN (u / 4) * lN (v / 4)) := by
      rw [zv_kl, lN_mul]
      exact congrArg Value.long (zl_mod _)
    rw [← e]
    exact K
theorem zl_lrem {a b : Nat} (ha : a < 9223372036854775808) (h0 : 0 < b) (hb : b < 9223372036854775808) : (- lN a) - (- lN a) / lN b * lN b = - lN (a % b) := by
  have hq : (- lN a) / lN b = - lN (a / b) := by
    apply Int64.toInt_inj.mp
    have hlt : a / b ≤ a := Nat.div_le_self _ _
    have hc : ((a / b : Nat) : Int) = (a : Int) / (b : Int) := Int.natCast_ediv a b
    have t : ∀ n : Nat, n < 9223372036854775808 → (lN n).toInt = (n : Int) := fun n hn => pk_lT (by omega)
    generalize a / b = k at hc hlt ⊢
    rw [Int64.toInt_div, Int64.toInt_neg, t a ha, t b hb, Int64.toInt_neg, t k (by omega), Int.bmod_eq_of_le (n := (-(a : Int))) (by omega) (by omega), Int.neg_tdiv, Int.tdiv_eq_ediv_of_nonneg (by omega), ← hc]
  rw [hq, Int64.neg_mul, Int64.sub_neg, lN_mul]
  have hm : a = a / b * b + a % b := by rw [Nat.mul_comm]; exact (Nat.div_add_mod a b).symm
  have e : lN a = lN (a / b * b) + lN (a % b) := by rw [lN_add, ← hm]
  rw [e, Int64.neg_add, Int64.sub_eq_add_neg, Int64.add_assoc, Int64.add_comm (-lN (a % b)), ← Int64.add_assoc, Int64.add_left_neg, Int64.zero_add]
theorem zo_lrem {nx : Nat} (hd : decode bytes pc = .ok (.lrem, 1)) (hn : nx = pc + 1) : zO zi al tf gm dC dI N d l y bytes maxL ret pc (eo_lrem nx) := by
  refine zo_lbin (nx := nx) (g := fun u v => if u < ev_M then 4 * (u / 4 % (v / 4)) + 1 else 4 * ((ev_ML - (ev_ML - u / 4) % (v / 4)) % ev_ML) + 1) (P := fun u v => v < ev_M ∧ v ≠ 1 ∧ (u < ev_M ∨ (73786976277658337280 < u ∧ u < 73786976294838206464))) (fun call go pc ls st B F top q h => ?_) (fun p e R s m args below meth c Q H locs cells slots LS rest u v hM hv hu hP K => ?_)
  · replace h := ev_uc_some h
    obtain ⟨v, s1, rfl, h⟩ := h
    replace h := ev_uc_some h
    obtain ⟨u, r, rfl, h⟩ := h
    obtain ⟨hv, h⟩ := ev_l_some h
    obtain ⟨hu, h⟩ := ev_l_some h
    obtain ⟨hb1, h⟩ := ev_b_some h
    obtain ⟨hb2, h⟩ := ev_b_none h
    have hb1 := zb_lt.mp hb1
    have hb2 := zb_ne hb2
    rcases ev_if zb_lt h with ⟨h1, h⟩ | ⟨h1, h⟩
    · rw [ev_nf_eq] at h
      refine ⟨v, u, r, rfl, hv, hu, ⟨hb1, hb2, Or.inl h1⟩, ?_⟩
      show go nx ls ((if u < ev_M then _ else _) :: r) B F top = some q
      rw [if_pos h1]
      exact h
    · obtain ⟨hb3, h⟩ := ev_b_some h
      obtain ⟨hb4, h⟩ := ev_b_some h
      rw [ev_nf_eq, ev_nf_eq] at h
      refine ⟨v, u, r, rfl, hv, hu, ⟨hb1, hb2, Or.inr ⟨zb_lt.mp hb3, zb_lt.mp hb4⟩⟩, ?_⟩
      show go nx ls ((if u < ev_M then _ else _) :: r) B F top = some q
      rw [if_neg h1]
      exact h
  · subst hn
    obtain ⟨h1, h2, h3⟩ := hP
    unfold ev_M at h1 h3
    have hv1 : 0 < v / 4 := by omega
    have hv2 : v / 4 < 4294967296 := by omega
    have hne : ¬ lN (v / 4) = 0 := fun q => by
      have := (pk_lEQ (a := v / 4) (b := 0) (by omega) (by omega)).mp q
      omega
    refine lv_lrem hM.1 hM.2.1 hd hne ?_
    have e : zv al tf (if u < ev_M then 4 * (u / 4 % (v / 4)) + 1 else 4 * ((ev_ML - (ev_ML - u / 4) % (v / 4)) % ev_ML) + 1) = .long (lN (u / 4) - lN (u / 4) / lN (v / 4) * lN (v / 4)) := by
      by_cases hh : u < ev_M
      · rw [if_pos hh]
        unfold ev_M at hh
        rw [zv_kl, pk_lRem (by omega) (by omega) (by omega)]
      · rw [if_neg hh]
        unfold ev_M at hh
        have h4 : 73786976277658337280 < u ∧ u < 73786976294838206464 := by omega
        have hz : lN (u / 4) = - lN (ev_ML - u / 4) := by
          rw [← zl_neg (by unfold ev_ML; omega)]
          refine congrArg lN ?_
          unfold ev_ML
          omega
        rw [hz, zl_lrem (by unfold ev_ML; omega) (by omega) (by omega), zv_kl]
        refine congrArg Value.long ?_
        generalize hw : (ev_ML - u / 4) % (v / 4) = w
        have hwl : w ≤ 4294967296 := by
          rw [← hw]
          exact Nat.le_trans (Nat.le_of_lt (Nat.mod_lt _ (by omega))) (by omega)
        rw [← zl_neg (by omega)]
        exact zl_mod _
    rw [← e]
    exact K
/-! calls -/
theorem zQ.moved {s U : State} {H : Heap} {locs : List Loc} (hQ : zQ al tf s) (hS : va_S (zA al) s.heap H locs) (hU : U.heap = H) (hW : s.WarmedH U.vm) : zQ al tf U := by
  obtain ⟨h1, h2, h3, h4, h5, h6, h7, h8, h9⟩ := hQ
  have hk : ∀ a : Nat, a < s.heap.size → ¬ zA al a → U.heap[a]? = s.heap[a]? := fun a ha hb => by rw [hU]; exact hS.2.1 a ha hb
  refine ⟨(h1.kept hk).moved hW.alike, (h2.kept hk).moved hW.alike, (h3.kept hk).moved hW.alike, (h4.kept hk).moved hW.alike, fun q hq => vk_R.warm hW (h5 q hq), fun q hq => va_Nw.warmF hW (h6 q hq), fun q hq => va_Nw.warmM hW (h7 q hq), va_Nw.warmC hW h8, zao_moved hW.alike h9⟩
theorem zvals {a : List Nat} (h : ∀ x ∈ a, x ≠ 7) : (a.flatMap zl1).filter (fun v => v != 7) = a := by
  induction a with
  | nil => rfl
  | cons x t ih =>
    rw [List.flatMap_cons, List.filter_append, ih (fun z hz => h z (List.mem_cons_of_mem _ hz))]
    have hx := h x List.mem_cons_self
    have e : (zl1 x).filter (fun v => v != 7) = [x] := by
      unfold zl1
      by_cases q : x % 4 = 1
      · rw [if_pos q]
        simp [hx]
      · rw [if_neg q]
        simp [hx]
    rw [e]
    rfl
theorem zPre.blind {as : List Nat} {w : List (List Nat)} : FrameBlind (zPre al tf gm dC dI as w) := by
  intro a U g mk h
  obtain ⟨h1, h2, h3, h4⟩ := h
  refine ⟨h1, h2, va_K.moved (u := U) (U := U.calling g mk a) (Vm.Alike.refl U.vm) h3, ?_⟩
  obtain ⟨g1, g2, g3, g4, g5, g6, g7, g8, g9⟩ := h4
  exact ⟨g1.moved (Vm.Alike.refl U.vm), g2.moved (Vm.Alike.refl U.vm), g3.moved (Vm.Alike.refl U.vm), g4.moved (Vm.Alike.refl U.vm), fun q hq => vk_R.same rfl (g5 q hq), fun q hq => va_Nw.same rfl rfl (g6 q hq), fun q hq => va_Nw.same rfl rfl (g7 q hq), va_Nw.same rfl rfl g8, zao_moved (Vm.Alike.refl U.vm) g9⟩
/-- behind a call -/
theorem zcall_go {p : Program} {e : Env} {R : Room} {s : State} {m : MethodId} {args : Array Value} {below : List Frame} {meth : Method} {c : Code} {Q : State → Prop} {rt : Nat → Prop} {go : ev_G} {f : Nat} {ls r rr : List Nat} {B F B1 F1 : List (List Nat)} {top top1 : Nat} {H : Heap} {locs : List Loc} {cells slots : Nat} {LS : Array Slot} {st0 : List Value} {a : Array Value} {q : ev_R}
    (hr : va_Run p l e R s m args below meth c H locs cells slots (zC d) (zS d) (F0 m pc LS st0) (r.map (zv al tf)) (zPost al tf gm dC dI N rr B1 F1 top1 a) (zA al)) (hrr : rr.length ≤ 1) (hG : zG al tf gm dC dI N d maxL f p l e R s m args below meth c Q rt go)
    (h : go (pc + 3) ls (rr ++ r) B1 F1 top1 = some q) (hT : zT al tf gm dC dI N d maxL p l e R s m args below meth c Q rt q) (hX : zX al tf gm dC dI N d maxL (f + 1) R s ls B F top H locs cells slots LS) : W p l e R s m args below meth c H locs cells slots Q (F0 m pc LS st0) := by
  obtain ⟨h1, h2, h3, h4, h5, h6, h7⟩ := hX
  intro T hTT X
  obtain ⟨v, st₀, t, T', L, h0, X', hL, e1, e2, ⟨hoc, ⟨hH', hI1⟩, hF1, hF2⟩, st⟩ := hr T hTT X
  have hv : v = rr.head?.map (zv al tf) := by injection hoc
  rw [Nat.succ_mul] at h5 h6
  have K := hG (pc + 3) ls (rr ++ r) B1 F1 top1 q h hT T'.heap (locs ++ L) (cells + zC d) (slots + zS d) LS ⟨h1, hI1, by rw [e1]; exact hH', ⟨Nat.le_trans h4.1 (by rw [e1, ← h0]; exact hF1), fun x g1 g2 => by
      rw [e1, hF2 x (by rw [h0]; exact Nat.lt_of_lt_of_le g1 h4.1) g2, h0]
      exact h4.2.1 x g1 g2, fun x hx => by
      rcases List.mem_append.mp hx with hx | hx
      · exact h4.2.2 x hx
      · exact hL x hx⟩, by omega, by omega, h7⟩
  have es : (rr ++ r).map (zv al tf) = v.toList ++ r.map (zv al tf) := by
    rw [hv, List.map_append]
    match rr, hrr with
    | [], _ => rfl
    | [x], _ => rfl
  rw [es] at K
  obtain ⟨t2, a1, b1⟩ := K T' rfl X'
  exact ⟨t2, st t2 a1, b1⟩
theorem zGood {ws : List Cond} (h : ∀ w ∈ ws, w ∈ zTS) : GoodIn zTS ws := fun w hw => ⟨h w hw, good_of_word (zTS_good (h w hw))⟩
theorem zcall_ev {go : ev_G} {nx mi n : Nat} {call : ev_C} {ls st : List Nat} {B F : List (List Nat)} {top : Nat} {q : ev_R} (h : eo_call nx mi n call go pc ls st B F top = some q) : ∃ a b c, st = a ++ b ∧ a.length = n ∧ (∀ x ∈ a, x ≠ 7) ∧ b.length ≤ 4 ∧ call mi (a.reverse.flatMap zl1) B F top = some c ∧ go nx ls (c.1 ++ b) c.2.1 c.2.2.1 c.2.2.2 = some q := by
  obtain ⟨a, b, e, hl, h7, h⟩ := ev_take_some n st [] _ _ h
  obtain ⟨hb, h⟩ := ev_upto_some 4 b _ _ h
  rw [List.append_nil] at h
  cases hc : call mi (a.reverse.flatMap zl1) B F top with
  | none => rw [hc] at h; cases h
  | some c =>
    rw [hc] at h
    replace h : ev_app b c.1 (fun st' => go nx ls st' c.2.1 c.2.2.1 c.2.2.2) = some q := h
    rw [ev_app_eq] at h
    exact ⟨a, b, c, e, hl, h7, hb, hc, h⟩
/-- the start of a call, at the callee's words -/
theorem zpre_at {R : Room} {f : Nat} {s U : State} {ls : List Nat} {B F : List (List Nat)} {top : Nat} {H : Heap} {locs : List Loc} {cells slots : Nat} {LS : Array Slot} {a : List Nat} (hX : zX al tf gm dC dI N d maxL f R s ls B F top H locs cells slots LS) (hK : zK gm dC dI s) (hQ : zQ al tf s) (hU : U.heap = H) (hW : s.WarmedH U.vm) : zPre al tf gm dC dI a (B ++ F.reverse) (a.map (zv al tf)).toArray U :=
  ⟨rfl, by rw [hU]; exact hX.2.2.1, va_K.moved hW.alike hK, hQ.moved hX.2.2.2.1 hU hW⟩
theorem zo_callS {nx mi n index : Nat} {y2 : MethodName} {b2 : ByteArray} {m2 : Nat} {r2 : Option FieldType} (hz : zi[mi]? = some (y2, b2, m2, r2)) (hd : decode bytes pc = .ok (.invokestatic index, 3)) (hn : nx = pc + 3) (hl : Cond.methodLink y.cls index y2 ∈ zTS) (hs : Cond.static y2 ∈ zTS) (hi : Cond.initialized y2.cls ∈ zTS) (hp : (parseMethodDescriptor y2.desc).map (fun d => d.parameters.length) = some n) (hmh : y2.cls ≠ "java/lang/invoke/MethodHandle" ∧ y2.cls ≠ "java/lang/invoke/VarHandle") : zO zi al tf gm dC dI N d l y bytes maxL ret pc (eo_call nx mi n) := by
  intro p e R s m args below meth cc Q rt hrt call go f hM hC hG ls st B F top qq h hT H locs cells slots LS hX
  subst hn
  obtain ⟨a, b, c, rfl, hal, h7, hb, hc, h⟩ := zcall_ev h
  have h7r : ∀ x ∈ a.reverse, x ≠ 7 := fun x hx => h7 x (List.mem_reverse.mp hx)
  obtain ⟨i, hi1, hr1, hm, hco, hMet⟩ := hC mi _ B F top c h7r hc hX.2.1
  have hi2 : i = (y2, b2, m2, r2) := Option.some.inj (hi1.symm.trans hz)
  subst hi2
  obtain ⟨-, -, -, -, h5, h6, -⟩ := id hX
  rw [Nat.succ_mul] at h5 h6
  have hfr := hM.2.2.2.2.2.2.2.2.2.2.2.2.1
  have hlo := hM.2.2.2.2.2.2.2.2.2.2.2.2.2
  have hcat := zcat_le (al := al) (tf := tf) b
  refine zcall_go (a := (a.reverse.map (zv al tf)).toArray) (va_runS (As := a.reverse.map (zv al tf)) (n := n) ⟨hM.1, hM.2.1, hM.2.2.1, hM.2.2.2.2.2.1, hM.2.2.2.2.2.2.1⟩ hMet (va_cwS n hM.2.2.2.2.2.2.1 (zGood fun w hw => ?_) rfl rfl rfl ⟨hmh.1, hmh.2, hp⟩ ⟨hfr, ?_⟩) ⟨zPre.blind, fun U hU hW => zpre_at hX hM.2.2.2.2.2.2.2.2.1 hM.2.2.2.2.2.2.2.2.2.1 hU hW⟩ rfl (by rw [List.length_map, List.length_reverse]; exact hal) (hX.1.1.trans hX.2.2.2.2.2.2) (by show _ = (List.map _ a.reverse).reverse ++ List.map _ b; rw [List.map_append, List.map_reverse, List.reverse_reverse]) (by show 2 * 0 + _ ≤ 8; omega) hd ⟨by omega, by omega⟩) hr1 hG h hT hX
  · unfold va_wsS at hw
    rcases List.mem_append.mp hw with hw | hw
    · simp only [List.mem_cons, List.not_mem_nil, or_false] at hw
      rcases hw with rfl | rfl | rfl
      · exact hl
      · exact hs
      · exact hi
    · rcases List.mem_cons.mp hw with rfl | hw
      · exact hco
      · exact hw
  · show 8 + (m2 + 11) + 40 * d ≤ R.locals
    have hm : m2 ≤ 21 := hm
    omega
end ZK
end
section
section ZR
variable {zi : zMs} {al : Nat → Nat} {tf : Nat × Nat} {gm dC : Nat → ClassId} {dI : Nat → Nat → Nat} {N d : Nat} {l : Launch} {y : MethodName} {bytes : ByteArray} {maxL : Nat} {ret : Option FieldType} {pc : Nat}
theorem zcallv_ev {go : ev_G} {nx mi n c : Nat} {call : ev_C} {ls st : List Nat} {B F : List (List Nat)} {top : Nat} {q : ev_R} (hI : zI N B F top) (h : eo_callv N nx mi n c call go pc ls st B F top = some q) : ∃ u as b fs k, st = (u :: as).reverse ++ b ∧ as.length + 1 = n ∧ (∀ x ∈ u :: as, x ≠ 7) ∧ u % 4 = 2 ∧ (B ++ F.reverse)[u / 4]? = some ((16 + c) :: fs) ∧ b.length ≤ 4 ∧ call mi ((u :: as).flatMap zl1) B F top = some k ∧ go nx ls (k.1 ++ b) k.2.1 k.2.2.1 k.2.2.2 = some q := by
  replace h := ev_take_some n st [] _ _ h
  obtain ⟨a, b, rfl, hl, h7, h⟩ := h
  rw [List.append_nil] at h
  replace h := ev_uc_some h
  obtain ⟨u', t, hu', h⟩ := h
  replace h := ev_r_some h
  obtain ⟨hu, h⟩ := h
  replace h := ev_at_some hI h
  obtain ⟨cell, hcell, h⟩ := h
  replace h := ev_uc_some h
  obtain ⟨kd, fs, rfl, h⟩ := h
  replace h := ev_b_some h
  obtain ⟨hkd, h⟩ := h
  have hkd : kd = 16 + c := zb_eq.mp hkd
  subst hkd
  replace h := ev_upto_some 4 b _ _ h
  obtain ⟨hb, h⟩ := h
  cases hr : a.reverse with
  | nil => rw [hr] at hu'; cases hu'
  | cons u as =>
    have e1 : a = (u :: as).reverse := by rw [← hr, List.reverse_reverse]
    have e2 : u = u' := by
      rw [hr, List.flatMap_cons] at hu'
      unfold zl1 at hu'
      split at hu' <;> exact (List.cons.inj hu').1
    subst e2
    cases hc : call mi (a.reverse.flatMap zl1) B F top with
    | none => rw [hc] at h; cases h
    | some k =>
      rw [hc] at h
      replace h : ev_app b k.1 (fun st' => go nx ls st' k.2.1 k.2.2.1 k.2.2.2) = some q := h
      rw [ev_app_eq] at h
      refine ⟨u, as, b, fs, k, by rw [e1], by rw [← hl, e1]; simp, fun x hx => h7 x (by rw [e1]; exact List.mem_reverse.mpr hx), hu, hcell, hb, by rw [← hr]; exact hc, h⟩
/-- what a call with a receiver must bring -/
def zRun (al : Nat → Nat) (tf : Nat × Nat) (gm dC : Nat → ClassId) (dI : Nat → Nat → Nat) (d : Nat) (l : Launch) (y : MethodName) (bytes : ByteArray) (maxL : Nat) (ret : Option FieldType) (pc n : Nat) (C : String) (y2 : MethodName) (b2 : ByteArray) (m2 : Nat) (r2 : Option FieldType) : Prop :=
  ∀ (p : Program) (e : Env) (R : Room) (s : State) (m : MethodId) (args : Array Value) (below : List Frame) (meth : Method) (c : Code) (H : Heap) (locs : List Loc) (cells slots : Nat) (LS : Array Slot) (Pc : Array Value → State → Prop) (Qc : Array Value → State → Outcome → State → Prop) (b : Addr) (As rest : List Value) (cC : ClassId),
    zM al tf gm dC dI d y bytes maxL ret p R s m args meth c → Cond.code y2 b2 m2 r2 ∈ zTS → m2 ≤ 21 → Met l y2 (Cond.code y2 b2 m2 r2 :: zTS) (zrm d) Pc Qc (zC d) (zS d) (zA al) → ClassAt s C cC → PreV s H C b Pc As → As.length + 1 = n → LS.size = maxL → (rest.map fun v => v.category).sum ≤ 8 → cells + zC d ≤ R.cells ∧ slots + zS d ≤ R.slots →
    va_Run p l e R s m args below meth c H locs cells slots (zC d) (zS d) (F0 m pc LS (As.reverse ++ .ref b :: rest)) rest (Qc (Value.ref b :: As).toArray) (zA al)
theorem zo_recv {nx mi n c k : Nat} {C : String} {T : u_T} {y2 : MethodName} {b2 : ByteArray} {m2 : Nat} {r2 : Option FieldType} (hcl : zCl c C T k) (hz : zi[mi]? = some (y2, b2, m2, r2)) (hn : nx = pc + 3) (hrun : zRun al tf gm dC dI d l y bytes maxL ret pc n C y2 b2 m2 r2) : zO zi al tf gm dC dI N d l y bytes maxL ret pc (eo_callv N nx mi n c) := by
  intro p e R s m args below meth cc Q rt hrt call go f hM hC hG ls st B F top qq h hT H locs cells slots LS hX
  subst hn
  obtain ⟨u, as, b, fs, q, rfl, hal, h7, hu, hcell, hb, hc, h⟩ := zcallv_ev hX.2.1 h
  obtain ⟨i, hi1, hr1, hm, hco, hMet⟩ := hC mi _ B F top q h7 hc hX.2.1
  have hi2 : i = (y2, b2, m2, r2) := Option.some.inj (hi1.symm.trans hz)
  subst hi2
  obtain ⟨-, -, -, -, h5, h6, -⟩ := id hX
  rw [Nat.succ_mul] at h5 h6
  have hcat := zcat_le (al := al) (tf := tf) b
  have hK : zK gm dC dI s := hM.2.2.2.2.2.2.2.2.1
  have he := zw_get (al := al) (tf := tf) (gm := gm) hcell
  rw [ze_o] at he
  have hrc := va_recv hK hX.2.2.1.1 hcl.1 he
  have eu : zv al tf u = .ref (al (u / 4)) := zv_r hu
  have key := hrun p e R s m args below meth cc H locs cells slots LS _ _ (al (u / 4)) (as.map (zv al tf)) (b.map (zv al tf)) (dC c) hM hco hm hMet (hK.1 c _ hcl.1).2 ⟨zPre.blind, hrc, fun U hU hW => ?_⟩ (by rw [List.length_map]; exact hal) (hX.1.1.trans hX.2.2.2.2.2.2) (by omega) ⟨by omega, by omega⟩
  · have es : ((u :: as).reverse ++ b).map (zv al tf) = (as.map (zv al tf)).reverse ++ .ref (al (u / 4)) :: b.map (zv al tf) := by
      rw [List.reverse_cons, List.append_assoc, List.map_append, List.map_append, List.map_reverse, List.map_cons, List.map_nil, eu]
      rfl
    rw [es]
    exact zcall_go key hr1 hG h hT hX
  · have hp := zpre_at (a := u :: as) hX hK hM.2.2.2.2.2.2.2.2.2.1 hU hW
    rw [List.map_cons, eu] at hp
    exact hp
theorem zlo {R : Room} {d m2 : Nat} (h : 40 * d + 40 ≤ R.locals) (hm : m2 ≤ 21) : 8 + (m2 + 11) + (zrm d).locals ≤ R.locals := by
  show 8 + (m2 + 11) + 40 * d ≤ R.locals
  omega
theorem zmem_app {ws : List Cond} {w0 : Cond} {w : Cond} (h1 : ∀ w ∈ ws, w ∈ zTS) (h0 : w0 ∈ zTS) (h : w ∈ ws ++ (w0 :: zTS)) : w ∈ zTS := by
  rcases List.mem_append.mp h with h | h
  · exact h1 w h
  · rcases List.mem_cons.mp h with rfl | h
    · exact h0
    · exact h
theorem zr_V {n k index : Nat} {C : String} {y2 : MethodName} {b2 : ByteArray} {m2 : Nat} {r2 : Option FieldType} (hk : n = k + 1) (hd : decode bytes pc = .ok (.invokevirtual index, 3)) (hw : ∀ w ∈ ([.methodLink y.cls index y2, .instanceMethod y2, .selects C y2 y2, .initialized C] : List Cond), w ∈ zTS) (hy : y2.cls = C ∧ y2.cls ≠ "java/lang/invoke/MethodHandle" ∧ y2.cls ≠ "java/lang/invoke/VarHandle" ∧ (parseMethodDescriptor y2.desc).map (fun d => d.parameters.length) = some k) : zRun al tf gm dC dI d l y bytes maxL ret pc n C y2 b2 m2 r2 := by
  intro p e R s m args below meth c H locs cells slots LS Pc Qc b As rest cC hM hco hm hMet hat hp hn hLS hcat hf
  exact va_runV (n := k) ⟨hM.1, hM.2.1, hM.2.2.1, hM.2.2.2.2.2.1, hM.2.2.2.2.2.2.1⟩ hMet (cwV k hM.2.2.2.2.2.2.1 (zGood fun w h => zmem_app hw hco h) rfl rfl rfl hy ⟨hM.2.2.2.2.2.2.2.2.2.2.2.2.1, zlo hM.2.2.2.2.2.2.2.2.2.2.2.2.2 hm⟩) hp rfl (by omega) hLS rfl (by show 2 * 0 + _ ≤ 8; omega) hd hf
theorem zr_U {n k index : Nat} {C owner : String} {x y2 : MethodName} {b2 : ByteArray} {m2 : Nat} {r2 : Option FieldType} (hk : n = k + 1) (hd : decode bytes pc = .ok (.invokevirtual index, 3)) (hw : ∀ w ∈ ([.methodLink y.cls index x, .sameMethod x.cls owner x.name x.desc, .selects C x y2, .instanceMethod y2, .initialized y2.cls] : List Cond), w ∈ zTS) (hyx : y2 = ⟨owner, x.name, x.desc⟩) (hy : owner ≠ "java/lang/invoke/MethodHandle" ∧ owner ≠ "java/lang/invoke/VarHandle" ∧ (parseMethodDescriptor x.desc).map (fun d => d.parameters.length) = some k) : zRun al tf gm dC dI d l y bytes maxL ret pc n C y2 b2 m2 r2 := by
  intro p e R s m args below meth c H locs cells slots LS Pc Qc b As rest cC hM hco hm hMet hat hp hn hLS hcat hf
  exact va_runU (n := k) ⟨hM.1, hM.2.1, hM.2.2.1, hM.2.2.2.2.2.1, hM.2.2.2.2.2.2.1⟩ hMet (va_cwU k hM.2.2.2.2.2.2.1 (zGood fun w h => zmem_app hw hco h) rfl rfl rfl hyx hy ⟨hM.2.2.2.2.2.2.2.2.2.2.2.2.1, zlo hM.2.2.2.2.2.2.2.2.2.2.2.2.2 hm⟩) hp rfl (by omega) hLS rfl (by show 2 * 0 + _ ≤ 8; omega) hd hf
theorem zr_SU {n k index : Nat} {C : String} {y2 : MethodName} {b2 : ByteArray} {m2 : Nat} {r2 : Option FieldType} (hk : n = k + 1) (hd : decode bytes pc = .ok (.invokespecial index, 3)) (hw : ∀ w ∈ ([.methodLink y.cls index y2, .sameMethod y2.cls y2.cls y2.name y2.desc, .superclass y.cls y2.cls, .instanceMethod y2, .initialized y2.cls] : List Cond), w ∈ zTS) (hy : y2.name ≠ "<init>" ∧ (parseMethodDescriptor y2.desc).map (fun d => d.parameters.length) = some k) : zRun al tf gm dC dI d l y bytes maxL ret pc n C y2 b2 m2 r2 := by
  intro p e R s m args below meth c H locs cells slots LS Pc Qc b As rest cC hM hco hm hMet hat hp hn hLS hcat hf
  exact va_runSU (n := k) hat ⟨hM.1, hM.2.1, hM.2.2.1, hM.2.2.2.2.2.1, hM.2.2.2.2.2.2.1⟩ hMet (va_cwSU k hM.2.2.2.2.2.2.1 (zGood fun w h => zmem_app hw hco h) rfl rfl rfl hy ⟨hM.2.2.2.2.2.2.2.2.2.2.2.2.1, zlo hM.2.2.2.2.2.2.2.2.2.2.2.2.2 hm⟩) hp rfl (by omega) hLS rfl (by show 2 * 0 + _ ≤ 8; omega) hd hf
theorem zr_I {n k index : Nat} {C : String} {y2 : MethodName} {b2 : ByteArray} {m2 : Nat} (hk : n = k + 1) (hd : decode bytes pc = .ok (.invokespecial index, 3)) (hw : ∀ w ∈ ([.methodLink y.cls index y2, .initialized y2.cls, .instanceMethod y2] : List Cond), w ∈ zTS) (hi : y2.name = "<init>") (hy : y2.cls ≠ "java/lang/invoke/MethodHandle" ∧ y2.cls ≠ "java/lang/invoke/VarHandle" ∧ (parseMethodDescriptor y2.desc).map (fun d => d.parameters.length) = some k) : zRun al tf gm dC dI d l y bytes maxL ret pc n C y2 b2 m2 none := by
  intro p e R s m args below meth c H locs cells slots LS Pc Qc b As rest cC hM hco hm hMet hat hp hn hLS hcat hf
  have ht := hM.2.2.2.2.2.2.1
  have w1 := ht _ (hw (.methodLink y.cls index y2) (by simp))
  have w2 := ht _ (hw (.initialized y2.cls) (by simp))
  have w3 := ht _ (hw (.instanceMethod y2) (by simp))
  exact va_runI (n := k) ⟨hM.1, hM.2.1, hM.2.2.1, hM.2.2.2.2.2.1, ht⟩ hMet ⟨callB_of k ht (zGood fun w h => zmem_app (ws := []) (fun _ q => absurd q List.not_mem_nil) hco h) rfl rfl rfl w2 w1 hy ⟨hM.2.2.2.2.2.2.2.2.2.2.2.2.1, zlo hM.2.2.2.2.2.2.2.2.2.2.2.2.2 hm⟩, hi, w3⟩ ⟨hp.1, hp.2.2⟩ rfl (by omega) hLS rfl (by show 2 * 0 + _ ≤ 8; omega) hd hf
theorem zr_VN {n k index j : Nat} {own C host : String} {y2 : MethodName} {b2 : ByteArray} {m2 : Nat} {r2 : Option FieldType} (hk : n = k + 1) (hd : decode bytes pc = .ok (.invokevirtual index, 3)) (ho : y.cls = own) (hj : znm[j]? = some (own, index, y2, host)) (hw : ∀ w ∈ ([.initialized y2.cls, .instanceMethod y2, .selects C y2 y2] : List Cond), w ∈ zTS) (hy : y2.cls ≠ "java/lang/invoke/MethodHandle" ∧ y2.cls ≠ "java/lang/invoke/VarHandle" ∧ (parseMethodDescriptor y2.desc).map (fun d => d.parameters.length) = some k) : zRun al tf gm dC dI d l y bytes maxL ret pc n C y2 b2 m2 r2 := by
  intro p e R s m args below meth c H locs cells slots LS Pc Qc b As rest cC hM hco hm hMet hat hp hn hLS hcat hf
  subst ho
  have ht := hM.2.2.2.2.2.2.1
  have w1 := ht _ (hw (.initialized y2.cls) (by simp))
  have w2 := ht _ (hw (.instanceMethod y2) (by simp))
  have w3 := ht _ (hw (.selects C y2 y2) (by simp))
  have hN := hM.2.2.2.2.2.2.2.2.2.1.2.2.2.2.2.2.1 _ (List.mem_of_getElem? hj)
  exact va_runVN (n := k) (host := host) ⟨hM.1, hM.2.1, hM.2.2.1, hM.2.2.2.2.2.1, ht⟩ hMet ⟨va_cnB k ht (zGood fun w h => zmem_app (ws := []) (fun _ q => absurd q List.not_mem_nil) hco h) rfl rfl rfl hN w1 hy ⟨hM.2.2.2.2.2.2.2.2.2.2.2.2.1, zlo hM.2.2.2.2.2.2.2.2.2.2.2.2.2 hm⟩, w2, w3⟩ hp rfl (by omega) hLS rfl (by show 2 * 0 + _ ≤ 8; omega) hd hf
theorem zr_IN {n k index j : Nat} {own C host : String} {y2 : MethodName} {b2 : ByteArray} {m2 : Nat} (hk : n = k + 1) (hd : decode bytes pc = .ok (.invokespecial index, 3)) (ho : y.cls = own) (hj : znm[j]? = some (own, index, y2, host)) (hw : ∀ w ∈ ([.initialized y2.cls, .instanceMethod y2] : List Cond), w ∈ zTS) (hi : y2.name = "<init>") (hy : y2.cls ≠ "java/lang/invoke/MethodHandle" ∧ y2.cls ≠ "java/lang/invoke/VarHandle" ∧ (parseMethodDescriptor y2.desc).map (fun d => d.parameters.length) = some k) : zRun al tf gm dC dI d l y bytes maxL ret pc n C y2 b2 m2 none := by
  intro p e R s m args below meth c H locs cells slots LS Pc Qc b As rest cC hM hco hm hMet hat hp hn hLS hcat hf
  subst ho
  have ht := hM.2.2.2.2.2.2.1
  have w1 := ht _ (hw (.initialized y2.cls) (by simp))
  have w2 := ht _ (hw (.instanceMethod y2) (by simp))
  have hN := hM.2.2.2.2.2.2.2.2.2.1.2.2.2.2.2.2.1 _ (List.mem_of_getElem? hj)
  exact va_runIN (n := k) (host := host) ⟨hM.1, hM.2.1, hM.2.2.1, hM.2.2.2.2.2.1, ht⟩ hMet ⟨va_cnB k ht (zGood fun w h => zmem_app (ws := []) (fun _ q => absurd q List.not_mem_nil) hco h) rfl rfl rfl hN w1 hy ⟨hM.2.2.2.2.2.2.2.2.2.2.2.2.1, zlo hM.2.2.2.2.2.2.2.2.2.2.2.2.2 hm⟩, hi, w2⟩ ⟨hp.1, hp.2.2⟩ rfl (by omega) hLS rfl (by show 2 * 0 + _ ≤ 8; omega) hd hf
/-- a static method of a nest mate -/
theorem zo_callSN {nx mi n index j : Nat} {own host : String} {y2 : MethodName} {b2 : ByteArray} {m2 : Nat} {r2 : Option FieldType} (hz : zi[mi]? = some (y2, b2, m2, r2)) (hd : decode bytes pc = .ok (.invokestatic index, 3)) (hn : nx = pc + 3) (ho : y.cls = own) (hj : znm[j]? = some (own, index, y2, host)) (hs : Cond.static y2 ∈ zTS) (hi : Cond.initialized y2.cls ∈ zTS) (hp : (parseMethodDescriptor y2.desc).map (fun d => d.parameters.length) = some n) (hmh : y2.cls ≠ "java/lang/invoke/MethodHandle" ∧ y2.cls ≠ "java/lang/invoke/VarHandle") : zO zi al tf gm dC dI N d l y bytes maxL ret pc (eo_call nx mi n) := by
  intro p e R s m args below meth cc Q rt hrt call go f hM hC hG ls st B F top qq h hT H locs cells slots LS hX
  subst hn
  subst ho
  obtain ⟨a, b, c, rfl, hal, h7, hb, hc, h⟩ := zcall_ev h
  have h7r : ∀ x ∈ a.reverse, x ≠ 7 := fun x hx => h7 x (List.mem_reverse.mp hx)
  obtain ⟨i, hi1, hr1, hm, hco, hMet⟩ := hC mi _ B F top c h7r hc hX.2.1
  have hi2 : i = (y2, b2, m2, r2) := Option.some.inj (hi1.symm.trans hz)
  subst hi2
  obtain ⟨-, -, -, -, h5, h6, -⟩ := id hX
  rw [Nat.succ_mul] at h5 h6
  have hcat := zcat_le (al := al) (tf := tf) b
  have ht := hM.2.2.2.2.2.2.1
  have hN := hM.2.2.2.2.2.2.2.2.2.1.2.2.2.2.2.2.1 _ (List.mem_of_getElem? hj)
  exact zcall_go (a := (a.reverse.map (zv al tf)).toArray) (va_runSN (As := a.reverse.map (zv al tf)) (n := n) (host := host) ⟨hM.1, hM.2.1, hM.2.2.1, hM.2.2.2.2.2.1, ht⟩ hMet ⟨va_cnB n ht (zGood fun w h => zmem_app (ws := []) (fun _ q => absurd q List.not_mem_nil) hco h) rfl rfl rfl hN (ht _ hi) ⟨hmh.1, hmh.2, hp⟩ ⟨hM.2.2.2.2.2.2.2.2.2.2.2.2.1, zlo hM.2.2.2.2.2.2.2.2.2.2.2.2.2 hm⟩, ht _ hs, trivial⟩ ⟨zPre.blind, fun U hU hW => zpre_at hX hM.2.2.2.2.2.2.2.2.1 hM.2.2.2.2.2.2.2.2.2.1 hU hW⟩ rfl (by rw [List.length_map, List.length_reverse]; exact hal) (hX.1.1.trans hX.2.2.2.2.2.2) (by show _ = (List.map _ a.reverse).reverse ++ List.map _ b; rw [List.map_append, List.map_reverse, List.reverse_reverse]) (by show 2 * 0 + _ ≤ 8; omega) hd ⟨by omega, by omega⟩) hr1 hG h hT hX
end ZR
end
section
section ZNAT
variable {zi : zMs} {al : Nat → Nat} {tf : Nat × Nat} {gm dC : Nat → ClassId} {dI : Nat → Nat → Nat} {N d : Nat} {l : Launch} {y : MethodName} {bytes : ByteArray} {maxL : Nat} {ret : Option FieldType} {pc : Nat}
theorem zpos {v : Nat} (h : v < ev_H) : ¬ nI (v / 4) < 0 ∧ (nI (v / 4)).toNatClampNeg = v / 4 ∧ (nI (v / 4)).toInt = ((v / 4 : Nat) : Int) := by
  unfold ev_H at h
  refine ⟨nI_pos (by omega), nI_clamp (by omega), ?_⟩
  rw [zn_toInt (by omega), if_pos (by omega)]
theorem zfb : ∀ k, k < 128 → fits .byte (.int (nI k)) = true := by decide +kernel
theorem zlaid {fs fd : List Nat} {sp dp n : Nat} (h1 : sp + n ≤ fs.length) (h2 : dp + n ≤ fd.length) (j : Nat) : (fd.take dp ++ ((fs.drop sp).take n ++ fd.drop (dp + n))).getD j 0 = if dp ≤ j ∧ j < dp + n then fs.getD (sp + (j - dp)) 0 else fd.getD j 0 := by
  have l1 : (fd.take dp).length = dp := by rw [List.length_take]; omega
  have l2 : ((fs.drop sp).take n).length = n := by rw [List.length_take, List.length_drop]; omega
  rw [List.getD_eq_getElem?_getD]
  by_cases ha : j < dp
  · rw [List.getElem?_append_left (by omega), List.getElem?_take_of_lt ha, if_neg (by omega), List.getD_eq_getElem?_getD]
  · rw [List.getElem?_append_right (by omega), l1]
    by_cases hb : j < dp + n
    · rw [List.getElem?_append_left (by omega), List.getElem?_take_of_lt (by omega), List.getElem?_drop, if_pos ⟨by omega, hb⟩, List.getD_eq_getElem?_getD]
    · rw [List.getElem?_append_right (by omega), l2, List.getElem?_drop, if_neg (by omega), List.getD_eq_getElem?_getD, show dp + n + (j - dp - n) = j by omega]
theorem zlaid_len {fs fd : List Nat} {sp dp n : Nat} (h1 : sp + n ≤ fs.length) (h2 : dp + n ≤ fd.length) : (fd.take dp ++ ((fs.drop sp).take n ++ fd.drop (dp + n))).length = fd.length := by
  simp only [List.length_append, List.length_take, List.length_drop]
  omega
theorem zo_acopy {nx index : Nat} (hd : decode bytes pc = .ok (.invokestatic index, 3)) (hn : nx = pc + 3) (hw : ∀ w ∈ ([.methodLink y.cls index arraycopyName, .native arraycopyName, .static arraycopyName, .initialized "java/lang/System"] : List Cond), w ∈ zTS) : zO zi al tf gm dC dI N d l y bytes maxL ret pc (eo_acopy N nx) := by
  intro p e R s m args below meth cc Q rt hrt call go f hM hC hG ls st B F top qq h hT H locs cells slots LS hX
  subst hn
  replace h := ev_uc_some h
  obtain ⟨n, s1, rfl, h⟩ := h
  replace h := ev_uc_some h
  obtain ⟨dp, s2, rfl, h⟩ := h
  replace h := ev_uc_some h
  obtain ⟨v, s3, rfl, h⟩ := h
  replace h := ev_uc_some h
  obtain ⟨sp, s4, rfl, h⟩ := h
  replace h := ev_uc_some h
  obtain ⟨u, r, rfl, h⟩ := h
  replace h := ev_i_some h
  obtain ⟨hn4, h⟩ := h
  replace h := ev_i_some h
  obtain ⟨hdp4, h⟩ := h
  replace h := ev_i_some h
  obtain ⟨hsp4, h⟩ := h
  replace h := ev_b_some h
  obtain ⟨hnl, h⟩ := h
  replace h := ev_b_some h
  obtain ⟨hdl, h⟩ := h
  replace h := ev_b_some h
  obtain ⟨hsl, h⟩ := h
  replace h := ev_b_some h
  obtain ⟨hs0, h⟩ := h
  replace h := ev_upto_some 4 _ _ _ h
  obtain ⟨hr4, h⟩ := h
  replace h := ev_r_some h
  obtain ⟨hv, h⟩ := h
  replace h := ev_r_some h
  obtain ⟨hu, h⟩ := h
  replace h := ev_b_none h
  obtain ⟨hne, h⟩ := h
  have hne := zb_ne hne
  replace h := ev_at_some hX.2.1 h
  obtain ⟨cs, hcs, h⟩ := h
  replace h := ev_at_some hX.2.1 h
  obtain ⟨cd, hcd, h⟩ := h
  replace h := ev_uc_some h
  obtain ⟨k1, fs, rfl, h⟩ := h
  replace h := ev_uc_some h
  obtain ⟨k2, fd, rfl, h⟩ := h
  replace h := ev_b_some h
  obtain ⟨hk1, h⟩ := h
  replace h := ev_b_some h
  obtain ⟨hk2, h⟩ := h
  have hk1 : k1 = 1 := zb_eq.mp hk1
  have hk2 : k2 = 1 := zb_eq.mp hk2
  subst hk1
  subst hk2
  rw [ev_drop_eq] at h
  replace h := ev_over_some _ _ _ _ _ _ h
  obtain ⟨g1, g2, g3, h⟩ := h
  have hdlt : v / 4 < (B ++ F.reverse).length := (List.getElem?_eq_some_iff.mp hcd).1
  replace h := ev_put_some hX.2.1 (by rw [← hX.2.1.len]; exact hdlt) h
  obtain ⟨B', F', hI', eW, h⟩ := h
  have hnl : n < ev_H := zb_lt.mp hnl
  have hdl : dp < ev_H := zb_lt.mp hdl
  have hsl : sp < ev_H := zb_lt.mp hsl
  have hs0 : sp ≤ 1000000 * n := zb_le.mp hs0
  have f1 : sp / 4 + n / 4 ≤ fs.length := by
    rw [List.length_drop] at g1
    have g1 : n / 4 ≤ fs.length - sp / 4 := g1
    omega
  have f2 : dp / 4 + n / 4 ≤ fd.length := g2
  obtain ⟨n1, n2, n3⟩ := zpos hnl
  obtain ⟨d1, d2, d3⟩ := zpos hdl
  obtain ⟨s1, s2, s3⟩ := zpos hsl
  have ht := hM.2.2.2.2.2.2.1
  have w1 := ht _ (hw (.methodLink y.cls index arraycopyName) (by simp))
  have w2 := ht _ (hw (.native arraycopyName) (by simp))
  have w3 := ht _ (hw (.static arraycopyName) (by simp))
  have w4 := ht _ (hw (.initialized "java/lang/System") (by simp))
  have hK : zK gm dC dI s := hM.2.2.2.2.2.2.2.2.1
  have ec := hX.2.2.1.1 (u / 4) _ (zw_get hcs)
  have ed := hX.2.2.1.1 (v / 4) _ (zw_get hcd)
  rw [ze_n (by omega)] at ec ed
  have ec : H[al (u / 4)]? = some (vp_cell (gm 1) (fs.length, .inl (fun j => nI (fs.getD j 0 / 4)))) := ec
  have ed : H[al (v / 4)]? = some (vp_cell (gm 1) (fd.length, .inl (fun j => nI (fd.getD j 0 / 4)))) := ed
  have hal : al (u / 4) ≠ al (v / 4) := fun q => hne (hM.2.2.2.2.2.2.2.2.2.2.2.1 _ _ q).symm
  obtain ⟨-, k0, hk0, cm0, hkk0⟩ := (hK.2 1 _ rfl).1 fs.length (fun j => .int (nI (fs.getD j 0 / 4)))
  obtain ⟨-, k9, hk9, cm9, hkk9⟩ := (hK.2 1 _ rfl).1 fd.length (fun j => .int (nI (fd.getD j 0 / 4)))
  have hcat := zcat_le (al := al) (tf := tf) r
  have hloc := hM.2.2.2.2.2.2.2.2.2.2.2.2.2
  rw [List.map_cons, List.map_cons, List.map_cons, List.map_cons, List.map_cons, zv_i hn4, zv_i hdp4, zv_i hsp4, zv_r hu, zv_r hv]
  intro T hTh X
  obtain ⟨vm', X', step⟩ := X.arraycopy hM.1 hM.2.2.2.2.2.1 w1 w2 w3 w4 (src := al (u / 4)) (dst := al (v / 4)) (cs := vp_cell (gm 1) (fs.length, .inl (fun j => nI (fs.getD j 0 / 4)))) (cd := vp_cell (gm 1) (fd.length, .inl (fun j => nI (fd.getD j 0 / 4)))) (srcPos := nI (sp / 4)) (destPos := nI (dp / 4)) (n := nI (n / 4)) (by rw [hTh]; exact ec) (by rw [hTh]; exact ed)
    (fun _ h => by cases h) (fun _ h => by cases h) (fun h => by cases h) (fun h => by cases h) hk0 hk9 hkk0 hkk9 (by simp [refKind]) s1 d1 n1
    (by rw [s3, n3]; show ¬ _ > ((arrV (gm 1) fs.length (fun j => .int (nI (fs.getD j 0 / 4)))).slots.size : Int); rw [arrV_size]; omega)
    (by rw [d3, n3]; show ¬ _ > ((arrV (gm 1) fd.length (fun j => .int (nI (fd.getD j 0 / 4)))).slots.size : Int); rw [arrV_size]; omega)
    (fun vm₁ _ i hi => by
      rw [n2] at hi
      have e : (vp_cell (gm 1) (fs.length, .inl (fun j => nI (fs.getD j 0 / 4)))).slots.getD ((nI (sp / 4)).toNatClampNeg + i) .null = .int (nI (fs.getD (sp / 4 + i) 0 / 4)) := by
        show (arrV (gm 1) fs.length (fun j => .int (nI (fs.getD j 0 / 4)))).slots.getD _ _ = _
        rw [s2, Array.getD_eq_getD_getElem?, arrV_read _ _ (by omega)]
        rfl
      refine ⟨?_, ?_⟩
      · rw [e]
        have hx : fs.getD (sp / 4 + i) 0 < 512 := by
          refine g3 _ ?_
          rw [List.mem_take_iff_getElem]
          refine ⟨i, ?_, ?_⟩
          · show i < min (Nat.div n 4) _
            rw [List.length_drop]
            show i < min (n / 4) (fs.length - sp / 4)
            omega
          · rw [List.getElem_drop, List.getD_eq_getElem?_getD, List.getElem?_eq_getElem (by omega)]
            rfl
        exact zfb _ (by omega)
      · rw [e]
        exact trivial)
    (g := F0 m pc LS (.int (nI (n / 4)) :: .int (nI (dp / 4)) :: .ref (al (v / 4)) :: .int (nI (sp / 4)) :: .ref (al (u / 4)) :: r.map (zv al tf))) rfl (by rw [hM.2.2.1]; exact hX.1.1.trans hX.2.2.2.2.2.2) (rest := r.map (zv al tf)) rfl (by rw [hM.2.1]; exact hd) (Nat.le_trans (by omega) hM.2.2.2.2.2.2.2.2.2.2.2.2.1) (by show 2 * 0 + _ + (7 + 11) ≤ _; omega)
  have e1 : copied (vp_cell (gm 1) (fs.length, .inl (fun j => nI (fs.getD j 0 / 4)))) (vp_cell (gm 1) (fd.length, .inl (fun j => nI (fd.getD j 0 / 4)))) (nI (sp / 4)) (nI (dp / 4)) (nI (n / 4)) = vp_cell (gm 1) ((fd.take (dp / 4) ++ ((fs.drop (sp / 4)).take (n / 4) ++ fd.drop (dp / 4 + n / 4))).length, .inl (fun j => nI ((fd.take (dp / 4) ++ ((fs.drop (sp / 4)).take (n / 4) ++ fd.drop (dp / 4 + n / 4))).getD j 0 / 4))) := by
    have e0 : copied (vp_cell (gm 1) (fs.length, .inl (fun j => nI (fs.getD j 0 / 4)))) (vp_cell (gm 1) (fd.length, .inl (fun j => nI (fd.getD j 0 / 4)))) (nI (sp / 4)) (nI (dp / 4)) (nI (n / 4)) = vp_cell (gm 1) (fd.length, .inl (va_cpy (fun j => nI (fs.getD j 0 / 4)) (fun j => nI (fd.getD j 0 / 4)) (nI (sp / 4)).toNatClampNeg (nI (dp / 4)).toNatClampNeg (nI (n / 4)).toNatClampNeg)) := va_copied (fun z => Value.int z) (gm 1) (gm 1) (fun j => nI (fs.getD j 0 / 4)) (fun j => nI (fd.getD j 0 / 4)) (by rw [s2, n2]; exact f1)
    rw [e0, s2, d2, n2, zlaid_len f1 f2]
    refine congrArg (fun g => vp_cell (gm 1) (fd.length, .inl g)) (funext fun j => ?_)
    rw [zlaid f1 f2]
    unfold va_cpy
    by_cases hj : dp / 4 ≤ j ∧ j < dp / 4 + n / 4
    · rw [if_pos hj, if_pos hj]
    · rw [if_neg hj, if_neg hj]
  rw [e1] at X' step
  have hl : al (v / 4) < H.size := (Array.getElem?_eq_some_iff.mp ed).1
  generalize hfd : fd.take (dp / 4) ++ ((fs.drop (sp / 4)).take (n / 4) ++ fd.drop (dp / 4 + n / 4)) = fd' at X' step h eW
  have oq : ∀ q : Nat, q ≠ al (v / 4) → (H.setIfInBounds (al (v / 4)) (vp_cell (gm 1) (fd'.length, .inl (fun j => nI (fd'.getD j 0 / 4)))))[q]? = H[q]? := fun q hq => by simp [Array.getElem?_setIfInBounds, Ne.symm hq]
  have hheap : ((T.setVm vm').setCell (al (v / 4)) (vp_cell (gm 1) (fd'.length, .inl (fun j => nI (fd'.getD j 0 / 4))))).heap = H.setIfInBounds (al (v / 4)) (vp_cell (gm 1) (fd'.length, .inl (fun j => nI (fd'.getD j 0 / 4)))) := by rw [← hTh]; rfl
  obtain ⟨x1, x2, x3, x4, x5, x6, x7⟩ := hX.down
  obtain ⟨t, a1, b1⟩ := hG (pc + 3) ls r B' F' top qq h hT _ _ cells slots LS ⟨x1, hI', by
      rw [eW]
      exact zH.set hM.2.2.2.2.2.2.2.2.2.2.2.1 x3 hcd (by rw [ze_n (by omega)]; show (H.setIfInBounds (al (v / 4)) _)[al (v / 4)]? = some _; simp [Array.getElem?_setIfInBounds, hl]) (by simp) oq, ⟨by simp; exact x4.1, fun q g1 g2 => by
      rw [oq q (fun e => g2 ⟨_, e⟩)]
      exact x4.2.1 q g1 g2, fun q hq => by
      rcases List.mem_append.mp hq with h | h
      · exact x4.2.2 q h
      · obtain ⟨z, -, hz⟩ := List.mem_map.mp h
        rw [← hz]
        exact ⟨_, rfl⟩⟩, x5, x6, x7⟩ _ hheap X'
  exact ⟨t, step t a1, b1⟩
theorem zo_cast {nx index : Nat} (hd : decode bytes pc = .ok (.checkcast index, 3)) (hn : nx = pc + 3) (hl : Cond.classLink y.cls index "[I" ∈ zTS) : zO zi al tf gm dC dI N d l y bytes maxL ret pc (eo_cast N nx 0) := by
  intro p e R s m args below meth cc Q rt hrt call go f hM hC hG ls st B F top qq h hT H locs cells slots LS hX
  subst hn
  replace h := ev_uc_some h
  obtain ⟨u, r, rfl, h⟩ := h
  replace h := ev_r_some h
  obtain ⟨hu, h⟩ := h
  replace h := ev_at_some hX.2.1 h
  obtain ⟨cell, hcell, h⟩ := h
  replace h := ev_uc_some h
  obtain ⟨kd, fs, rfl, h⟩ := h
  replace h := ev_b_some h
  obtain ⟨hkd, h⟩ := h
  have hkd : kd = 0 := zb_eq.mp hkd
  subst hkd
  have he := zw_get (al := al) (tf := tf) (gm := gm) hcell
  rw [ze_n (by omega)] at he
  have K := hG (pc + 3) ls _ B F top qq h hT H locs cells slots LS hX.down
  rw [List.map_cons, zv_r hu] at K ⊢
  exact va_castA hM.1 hM.2.1 hM.2.2.2.2.2.1 (hM.2.2.2.2.2.2.1 _ hl) hX.2.2.1.1 (u / 4) he ((hM.2.2.2.2.2.2.2.2.1.2 0 _ rfl).2) hd K
theorem zo_clone {nx index : Nat} (hd : decode bytes pc = .ok (.invokevirtual index, 3)) (hn : nx = pc + 3) (hw : ∀ w ∈ ([.methodLink y.cls index ⟨"[I", "clone", "()Ljava/lang/Object;"⟩, .sameMethod "[I" "java/lang/Object" "clone" "()Ljava/lang/Object;", .native ⟨"java/lang/Object", "clone", "()Ljava/lang/Object;"⟩, .instanceMethod ⟨"java/lang/Object", "clone", "()Ljava/lang/Object;"⟩, .selects "[I" ⟨"[I", "clone", "()Ljava/lang/Object;"⟩ ⟨"java/lang/Object", "clone", "()Ljava/lang/Object;"⟩] : List Cond), w ∈ zTS) : zO zi al tf gm dC dI N d l y bytes maxL ret pc (eo_clone N nx 0) := by
  intro p e R s m args below meth cc Q rt hrt call go f hM hC hG ls st B F top qq h hT H locs cells slots LS hX
  subst hn
  replace h := ev_uc_some h
  obtain ⟨u, r, rfl, h⟩ := h
  replace h := ev_upto_some 4 _ _ _ h
  obtain ⟨hr4, h⟩ := h
  replace h := ev_r_some h
  obtain ⟨hu, h⟩ := h
  replace h := ev_at_some hX.2.1 h
  obtain ⟨cell, hcell, h⟩ := h
  replace h := ev_uc_some h
  obtain ⟨kd, fs, rfl, h⟩ := h
  replace h := ev_b_some h
  obtain ⟨hkd, h⟩ := h
  have hkd : kd = 0 := zb_eq.mp hkd
  subst hkd
  rw [ev_len_eq, Nat.zero_add] at h
  replace h := ev_b_some h
  obtain ⟨hsz, h⟩ := h
  have hsz : fs.length ≤ 4000 := zb_le.mp hsz
  rw [ev_nf_eq, ev_nf_eq] at h
  have ht := hM.2.2.2.2.2.2.1
  have w1 := ht _ (hw (.methodLink y.cls index ⟨"[I", "clone", "()Ljava/lang/Object;"⟩) (by simp))
  have w2 := ht _ (hw (.sameMethod "[I" "java/lang/Object" "clone" "()Ljava/lang/Object;") (by simp))
  have w3 := ht _ (hw (.native ⟨"java/lang/Object", "clone", "()Ljava/lang/Object;"⟩) (by simp))
  have w4 := ht _ (hw (.instanceMethod ⟨"java/lang/Object", "clone", "()Ljava/lang/Object;"⟩) (by simp))
  have w5 := ht _ (hw (.selects "[I" ⟨"[I", "clone", "()Ljava/lang/Object;"⟩ ⟨"java/lang/Object", "clone", "()Ljava/lang/Object;"⟩) (by simp))
  have hK : zK gm dC dI s := hM.2.2.2.2.2.2.2.2.1
  have he := hX.2.2.1.1 (u / 4) _ (zw_get hcell)
  rw [ze_n (by omega)] at he
  have he : H[al (u / 4)]? = some (vp_cell (gm 0) (fs.length, .inl (fun j => nI (fs.getD j 0 / 4)))) := he
  have hnm : s.vm.findClass "[I" = some (gm 0) := (hK.2 0 _ rfl).2
  have hcl : va_Nw (.castable "[I" "java/lang/Cloneable") s := hM.2.2.2.2.2.2.2.2.2.1.2.2.2.2.2.2.2.1
  obtain ⟨c0, t0', f1, f2, f3⟩ := Cond.castable_spec (va_Nw.use (A := args) rfl hcl)
  cases hnm.symm.trans f1
  have hsl : (vp_cell (gm 0) (fs.length, .inl (fun j => nI (fs.getD j 0 / 4)))).slots.size = fs.length := arrV_size _ _ _
  have hcat := zcat_le (al := al) (tf := tf) r
  have hloc := hM.2.2.2.2.2.2.2.2.2.2.2.2.2
  obtain ⟨r1, r2⟩ := znew_room (n := fs.length) hX (by omega)
  rw [List.map_cons, zv_r hu]
  intro T hTh X
  obtain ⟨-, kA, hkA, comp, hkind⟩ := State.isArrayOf_alike X.warmed.alike ((hK.2 0 _ rfl).1 0 (fun _ => .null))
  obtain ⟨-, kS, hkS, compS, hkindS⟩ := (hK.2 0 _ rfl).1 0 (fun _ => .null)
  obtain ⟨vm', X', st⟩ := X.cloneArray hM.1 hM.2.2.2.2.2.1 w1 w2 w3 w4 w5 (a := al (u / 4)) (cell := vp_cell (gm 0) (fs.length, .inl (fun j => nI (fs.getD j 0 / 4)))) (by rw [hTh]; exact he) (fun k h => by cases h) (fun h => by cases h) hnm f2 f3
    (fun i v hv => by
      have hk' : T.vm.classes[gm 0]? = some kA := hkA
      have hi : i < fs.length := by
        have := (Array.getElem?_eq_some_iff.mp hv).1
        rw [hsl] at this
        exact this
      have hv' : (arrV (gm 0) fs.length (fun j => .int (nI (fs.getD j 0 / 4)))).slots[i]? = some v := hv
      rw [arrV_read _ _ hi] at hv'
      cases hv'
      show State.fitsSlot _ (gm 0) _ _ _ = _
      simp [State.fitsSlot, State.slotType?, vp_cell, arrV, hk', hkind, fits])
    (g := F0 m pc LS (.ref (al (u / 4)) :: r.map (zv al tf))) rfl (by rw [hM.2.2.1]; exact hX.1.1.trans hX.2.2.2.2.2.2) rfl (by rw [hM.2.1]; exact hd) (Nat.le_trans (by omega) hM.2.2.2.2.2.2.2.2.2.2.2.2.1) (by show 2 * 0 + _ + 14 ≤ _; omega) r1 (by rw [hsl]; exact r2) (hloader := Vm.clonesLoader_of_array hkS hkindS)
  have hcellE : ({ cls := (vp_cell (gm 0) (fs.length, .inl (fun j => nI (fs.getD j 0 / 4)))).cls, slots := (vp_cell (gm 0) (fs.length, .inl (fun j => nI (fs.getD j 0 / 4)))).slots } : Cell) = vp_cell (gm 0) (fs.length, .inl (fun j => nI (fs.getD j 0 / 4))) := rfl
  rw [hcellE, hsl] at X'
  rw [hcellE, hTh] at st
  have htop := hX.2.2.1.top
  have hlen := hX.2.1.len
  obtain ⟨t, a1, b1⟩ := hG (pc + 3) ls _ B _ (top + 1) qq h hT (H.push (vp_cell (gm 0) (fs.length, .inl (fun j => nI (fs.getD j 0 / 4))))) locs (cells + 1) (slots + fs.length) LS (znew_go hX (by
    rw [ze_n (by omega), htop]
    show (H.push _)[H.size]? = some _
    rw [Array.getElem?_push_size]) (by rw [Array.size_push]) (fun q hq => by rw [Array.getElem?_push, if_neg (Nat.ne_of_lt hq)]) (Nat.le_refl 1) (by omega)) ((T.setVm vm').pushCell (vp_cell (gm 0) (fs.length, .inl (fun j => nI (fs.getD j 0 / 4))))) (by rw [← hTh]; rfl) X'
  refine ⟨t, st t ?_, b1⟩
  rw [List.map_cons] at a1
  have ez : zv al tf (Nat.add (Nat.mul 4 top) 2) = .ref H.size := by
    rw [show Nat.add (Nat.mul 4 top) 2 = 4 * top + 2 from rfl, zv_kr, ← hlen, htop]
  rw [ez] at a1
  exact a1
end ZNAT
end
section
/-! the loop and the calls are sound -/
theorem ev_nil_some {α β : Type} {l : List β} {x : Option α} {r : α} (h : ev_nil l x = some r) : l = [] ∧ x = some r := by
  cases l with
  | nil => exact ⟨rfl, h⟩
  | cons _ _ => cases h
theorem ev_tell_some {kind : Nat} {st : List Nat} {α : Type} {kk : List Nat → Option α} {r0 : α} (h : ev_tell kind st kk = some r0) : ∃ rr, kk rr = some r0 ∧ rr.length ≤ 1 := by
  rcases ev_b_or h with ⟨-, h⟩ | ⟨-, h⟩
  · exact ⟨[], (ev_nil_some h).2, Nat.zero_le _⟩
  replace h := ev_uc_some h
  obtain ⟨v, t, -, h⟩ := h
  replace h := (ev_nil_some h).2
  refine ⟨[v], ?_, Nat.le_refl _⟩
  rcases ev_b_or h with ⟨-, h⟩ | ⟨-, h⟩
  · exact (ev_i_some h).2
  rcases ev_b_or h with ⟨-, h⟩ | ⟨-, h⟩
  · exact (ev_b_some (ev_i_some h).2).2
  rcases ev_b_or h with ⟨-, h⟩ | ⟨-, h⟩
  · exact (ev_b_some (ev_i_some h).2).2
  rcases ev_b_or h with ⟨-, h⟩ | ⟨-, h⟩
  · exact (ev_l_some h).2
  rcases ev_b_or h with ⟨-, h⟩ | ⟨-, h⟩
  · exact h
  · exact (ev_b_some h).2
section ZRUN
variable {zi : zMs} {al : Nat → Nat} {tf : Nat × Nat} {gm dC : Nat → ClassId} {dI : Nat → Nat → Nat} {N d : Nat} {l : Launch} {y : MethodName} {bytes : ByteArray} {maxL : Nat} {ret : Option FieldType}
theorem zX.zero {f : Nat} {R : Room} {s : State} {ls : List Nat} {B F : List (List Nat)} {top : Nat} {H : Heap} {locs : List Loc} {cells slots : Nat} {LS : Array Slot} (h : zX al tf gm dC dI N d maxL f R s ls B F top H locs cells slots LS) : zX al tf gm dC dI N d maxL 0 R s ls B F top H locs cells slots LS := by
  obtain ⟨h1, h2, h3, h4, h5, h6, h7⟩ := h
  exact ⟨h1, h2, h3, h4, by omega, by omega, h7⟩
theorem zloop {code : List (List ev_I)} {stop : Nat} {call : ev_C} (hO : ∀ pc ins, zcode code pc = some ins → zO zi al tf gm dC dI N d l y bytes maxL ret pc ins) {p : Program} {e : Env} {R : Room} {s : State} {m : MethodId} {args : Array Value} {below : List Frame} {meth : Method} {c : Code} {Q : State → Prop} {rt : Nat → Prop} (hrt : ∀ k, zRet bytes ret k → rt k) (hstop : rt stop) (hM : zM al tf gm dC dI d y bytes maxL ret p R s m args meth c) (hC : zCs zi al tf gm dC dI N d l call) :
    ∀ f, zG al tf gm dC dI N d maxL f p l e R s m args below meth c Q rt (ev_loop code stop call f) := by
  intro f
  induction f with
  | zero => intro pc ls st B F top q h; cases h
  | succ f ih =>
    intro pc ls st B F top q h hT H locs cells slots LS hX
    replace h : ev_fetch code pc (fun ins => ins call (fun pc' ls' st' B' F' top' => ev_nf pc' fun q => ev_b (Nat.beq q stop) (some (q, ls', st', B', F', top')) (ev_loop code stop call f q ls' st' B' F' top')) pc ls st B F top) = some q := h
    obtain ⟨ins, h1, h2⟩ := ev_fetch_some h
    refine hO pc ins h1 p e R s m args below meth c Q rt hrt call _ f hM hC ?_ ls st B F top q h2 hT H locs cells slots LS hX
    intro pc' ls' st' B' F' top' q' h' hT' H' locs' cells' slots' LS' hX'
    replace h' : ev_nf pc' (fun q => ev_b (Nat.beq q stop) (some (q, ls', st', B', F', top')) (ev_loop code stop call f q ls' st' B' F' top')) = some q' := h'
    rw [ev_nf_eq] at h'
    rcases ev_if zb_eq h' with ⟨e1, e2⟩ | ⟨-, e2⟩
    · subst e1
      cases e2
      exact hT' H' locs' cells' slots' LS' hstop hX'.zero
    · exact ih pc' ls' st' B' F' top' q' e2 hT' H' locs' cells' slots' LS' hX'
def zkind (kind : Nat) (ret : Option FieldType) : Prop := (kind = 0 ∧ ret = none) ∨ (kind = 1 ∧ ret = some .int) ∨ (kind = 2 ∧ ret = some .boolean) ∨ (kind = 3 ∧ (ret = some .byte ∨ ret = some .char)) ∨ (kind = 4 ∧ ret = some .long) ∨ (5 ≤ kind ∧ ∃ ty, ret = some ty ∧ ((∃ n, ty = .object n) ∨ ∃ t, ty = .array t))
theorem znz : ∀ k, k ≤ 1 → narrow .boolean (.int (nI k)) = .int (nI k) := by decide +kernel
theorem znc : ∀ k, k < 128 → narrow .char (.int (nI k)) = .int (nI k) := by decide +kernel
theorem zreturn {kind k : Nat} {st : List Nat} {α : Type} {kk : List Nat → Option α} {r0 : α} (hk : zkind kind ret) (hr : zRet bytes ret k) (h : ev_tell kind st kk = some r0) : ∃ rr, kk rr = some r0 ∧ rr.length ≤ 1 ∧ ∀ (p : Program) (e : Env) (R : Room) (s : State) (m : MethodId) (args : Array Value) (below : List Frame) (meth : Method) (c : Code) (H : Heap) (locs : List Loc) (cells slots : Nat) (LS : Array Slot) (Qc : Array Value → State → Outcome → State → Prop) (free : Addr → Prop), zM al tf gm dC dI d y bytes maxL ret p R s m args meth c → (∀ t : State, t.heap = H → s.WarmedH t.vm → Qc args s (.returned (rr.head?.map (zv al tf))) t) → (∀ q ∈ locs, free q.base) → W p l e R s m args below meth c H locs cells slots (MQ below Qc args s cells slots free) (F0 m k LS (st.map (zv al tf))) := by
  have int : ∀ {ty : FieldType} {v : Nat}, ret = some ty → (ty = .int ∨ ty = .boolean ∨ ty = .byte ∨ ty = .char) → narrow ty (.int (nI (v / 4))) = .int (nI (v / 4)) → v % 4 = 0 → ∀ (p : Program) (e : Env) (R : Room) (s : State) (m : MethodId) (args : Array Value) (below : List Frame) (meth : Method) (c : Code) (H : Heap) (locs : List Loc) (cells slots : Nat) (LS : Array Slot) (Qc : Array Value → State → Outcome → State → Prop) (free : Addr → Prop), zM al tf gm dC dI d y bytes maxL ret p R s m args meth c → (∀ t : State, t.heap = H → s.WarmedH t.vm → Qc args s (.returned (([v] : List Nat).head?.map (zv al tf))) t) → (∀ q ∈ locs, free q.base) → W p l e R s m args below meth c H locs cells slots (MQ below Qc args s cells slots free) (F0 m k LS (([v] : List Nat).map (zv al tf))) := by
    intro ty v hret hty hnar hv p e R s m args below meth c H locs cells slots LS Qc free hM hq hf
    have hd : decode bytes k = .ok (.ireturn, 1) := by
      rcases hr with ⟨h1, -⟩ | ⟨_, -, -, h1⟩ | ⟨h1, -⟩ | ⟨ty', h1, h2, -⟩
      · rw [hret] at h1; cases h1
      · exact h1
      · rw [hret] at h1
        cases h1
        rcases hty with h | h | h | h <;> cases h
      · rw [hret] at h1
        cases h1
        rcases h2 with ⟨_, rfl⟩ | ⟨_, rfl⟩ <;> rcases hty with h | h | h | h <;> cases h
    have ev : zv al tf v = .int (nI (v / 4)) := zv_i hv
    show W p l e R s m args below meth c H locs cells slots _ (F0 m k LS [zv al tf v])
    rw [ev]
    refine W.zret hM.1 hM.2.1 (hM.2.2.2.1.trans hret) hnar (fun t h1 h2 => ?_) hf hd hM.2.2.2.2.1
    have := hq t h1 h2
    rw [List.head?_cons, Option.map_some, ev] at this
    exact this
  replace h := ev_if zb_eq h
  rcases h with ⟨h1, h⟩ | ⟨h1, h⟩
  · replace h := ev_nil_some h
    obtain ⟨rfl, h⟩ := h
    refine ⟨[], h, Nat.zero_le _, fun p e R s m args below meth c H locs cells slots LS Qc free hM hq hf => ?_⟩
    have hret : ret = none := by
      rcases hk with ⟨-, hk⟩ | ⟨h2, -⟩ | ⟨h2, -⟩ | ⟨h2, -⟩ | ⟨h2, -⟩ | ⟨h2, -⟩
      · exact hk
      all_goals omega
    have hd : decode bytes k = .ok (.return_, 1) := by
      rcases hr with ⟨-, h1⟩ | ⟨_, h1, -⟩ | ⟨h1, -⟩ | ⟨ty', h1, -⟩
      · exact h1
      all_goals (rw [hret] at h1; cases h1)
    exact W.vret hM.1 hM.2.1 (hM.2.2.2.1.trans hret) hq hf hd hM.2.2.2.2.1
  · replace h := ev_uc_some h
    obtain ⟨v, t, rfl, h⟩ := h
    replace h := ev_nil_some h
    obtain ⟨rfl, h⟩ := h
    replace h := ev_if zb_eq h
    rcases h with ⟨h2, h⟩ | ⟨h2, h⟩
    · replace h := ev_i_some h
      obtain ⟨hv, h⟩ := h
      have hret : ret = some .int := by
        rcases hk with ⟨h3, -⟩ | ⟨-, hk⟩ | ⟨h3, -⟩ | ⟨h3, -⟩ | ⟨h3, -⟩ | ⟨h3, -⟩
        · omega
        · exact hk
        all_goals omega
      exact ⟨[v], h, Nat.le_refl _, int hret (Or.inl rfl) rfl hv⟩
    replace h := ev_if zb_eq h
    rcases h with ⟨h3, h⟩ | ⟨h3, h⟩
    · replace h := ev_i_some h
      obtain ⟨hv, h⟩ := h
      replace h := ev_b_some h
      obtain ⟨hl, h⟩ := h
      have hl : v ≤ 4 := zb_le.mp hl
      have hret : ret = some .boolean := by
        rcases hk with ⟨h4, -⟩ | ⟨h4, -⟩ | ⟨-, hk⟩ | ⟨h4, -⟩ | ⟨h4, -⟩ | ⟨h4, -⟩
        · omega
        · omega
        · exact hk
        all_goals omega
      exact ⟨[v], h, Nat.le_refl _, int hret (Or.inr (Or.inl rfl)) (znz (v / 4) (by omega)) hv⟩
    replace h := ev_if zb_eq h
    rcases h with ⟨h4, h⟩ | ⟨h4, h⟩
    · replace h := ev_i_some h
      obtain ⟨hv, h⟩ := h
      replace h := ev_b_some h
      obtain ⟨hl, h⟩ := h
      have hl : v < 512 := zb_lt.mp hl
      have hret : ret = some .byte ∨ ret = some .char := by
        rcases hk with ⟨h5, -⟩ | ⟨h5, -⟩ | ⟨h5, -⟩ | ⟨-, hk⟩ | ⟨h5, -⟩ | ⟨h5, -⟩
        · omega
        · omega
        · omega
        · exact hk
        all_goals omega
      rcases hret with hret | hret
      · exact ⟨[v], h, Nat.le_refl _, int hret (Or.inr (Or.inr (Or.inl rfl))) (znb (v / 4) (by omega)) hv⟩
      · exact ⟨[v], h, Nat.le_refl _, int hret (Or.inr (Or.inr (Or.inr rfl))) (znc (v / 4) (by omega)) hv⟩
    replace h := ev_if zb_eq h
    rcases h with ⟨h5, h⟩ | ⟨h5, h⟩
    · replace h := ev_l_some h
      obtain ⟨hv, h⟩ := h
      have hret : ret = some .long := by
        rcases hk with ⟨h6, -⟩ | ⟨h6, -⟩ | ⟨h6, -⟩ | ⟨h6, -⟩ | ⟨-, hk⟩ | ⟨h6, -⟩
        · omega
        · omega
        · omega
        · omega
        · exact hk
        · omega
      refine ⟨[v], h, Nat.le_refl _, fun p e R s m args below meth c H locs cells slots LS Qc free hM hq hf => ?_⟩
      have hd : decode bytes k = .ok (.lreturn, 1) := by
        rcases hr with ⟨h1, -⟩ | ⟨ty', h1, h2, -⟩ | ⟨-, h1⟩ | ⟨ty', h1, h2, -⟩
        · rw [hret] at h1; cases h1
        · rw [hret] at h1
          cases h1
          rcases h2 with h | h | h | h <;> cases h
        · exact h1
        · rw [hret] at h1
          cases h1
          rcases h2 with ⟨_, h⟩ | ⟨_, h⟩ <;> cases h
      have ev : zv al tf v = .long (lN (v / 4)) := zv_l hv
      show W p l e R s m args below meth c H locs cells slots _ (F0 m k LS [zv al tf v])
      rw [ev]
      refine W.lret hM.1 hM.2.1 (hM.2.2.2.1.trans hret) (fun t h1 h2 => ?_) hf hd hM.2.2.2.2.1
      have := hq t h1 h2
      rw [List.head?_cons, Option.map_some, ev] at this
      exact this
    · have hret : ∃ ty, ret = some ty ∧ ((∃ n, ty = .object n) ∨ ∃ t, ty = .array t) := by
        rcases hk with ⟨h6, -⟩ | ⟨h6, -⟩ | ⟨h6, -⟩ | ⟨h6, -⟩ | ⟨h6, -⟩ | ⟨-, hk⟩
        · omega
        · omega
        · omega
        · omega
        · omega
        · exact hk
      obtain ⟨ty, hret, hty⟩ := hret
      have key : (v % 4 = 2 ∨ v = 3) ∧ kk [v] = some r0 := by
        replace h := ev_if zb_eq h
        rcases h with ⟨h6, h⟩ | ⟨h6, h⟩
        · exact ⟨Or.inl h6, h⟩
        · replace h := ev_b_some h
          exact ⟨Or.inr (zb_eq.mp h.1), h.2⟩
      obtain ⟨hv, h⟩ := key
      refine ⟨[v], h, Nat.le_refl _, fun p e R s m args below meth c H locs cells slots LS Qc free hM hq hf => ?_⟩
      have hd : decode bytes k = .ok (.areturn, 1) := by
        rcases hr with ⟨h1, -⟩ | ⟨ty', h1, h2, -⟩ | ⟨h1, -⟩ | ⟨ty', h1, h2, h3⟩
        · rw [hret] at h1; cases h1
        · rw [hret] at h1
          cases h1
          rcases h2 with h | h | h | h <;> rcases hty with ⟨_, g⟩ | ⟨_, g⟩ <;> rw [h] at g <;> cases g
        · rw [hret] at h1
          cases h1
          rcases hty with ⟨_, h⟩ | ⟨_, h⟩ <;> cases h
        · exact h3
      have ev : zv al tf v = .null ∨ ∃ a, zv al tf v = .ref a := by
        rcases hv with hv | rfl
        · exact Or.inr ⟨_, zv_r hv⟩
        · exact Or.inl rfl
      exact W.aret hM.1 hM.2.1 (hM.2.2.2.1.trans hret) hty ev hq hf hd hM.2.2.2.2.1
theorem zsl {as : List Nat} (h7 : ∀ x ∈ as, x ≠ 7) : (lg_sl (as.map (zv al tf))).length = (as.flatMap zl1).length ∧ ∀ i q, q ∈ zlf al tf i (as.flatMap zl1) → q ∈ lv_args i (as.map (zv al tf)) := by
  induction as with
  | nil => exact ⟨rfl, fun i q h => by cases h⟩
  | cons x t ih =>
    obtain ⟨ih1, ih2⟩ := ih (fun z hz => h7 z (List.mem_cons_of_mem _ hz))
    have hx := h7 x List.mem_cons_self
    by_cases hc : x % 4 = 1
    · have ec : (zv al tf x).category = 2 := by rw [zv_l hc]; rfl
      have e1 : zl1 x = [x, 7] := if_pos hc
      refine ⟨?_, fun i q h => ?_⟩
      · rw [List.flatMap_cons, List.length_append, ← ih1, e1]
        show (List.flatMap _ (zv al tf x :: _)).length = _
        rw [List.flatMap_cons, List.length_append, if_pos ec]
        rfl
      · rw [List.flatMap_cons, e1] at h
        replace h : q ∈ (if x = 7 then _ else (i, zv al tf x) :: (if (7 : Nat) = 7 then zlf al tf (i + 1 + 1) (t.flatMap zl1) else _)) := h
        rw [if_neg hx, if_pos rfl] at h
        show q ∈ (i, zv al tf x) :: lv_args (if (zv al tf x).category = 2 then i + 2 else i + 1) _
        rw [if_pos ec]
        rcases List.mem_cons.mp h with rfl | h
        · exact List.mem_cons_self
        · exact List.mem_cons_of_mem _ (ih2 (i + 2) q h)
    · have ec : (zv al tf x).category ≠ 2 := by rw [zv_c1 hc]; decide
      have e1 : zl1 x = [x] := if_neg hc
      refine ⟨?_, fun i q h => ?_⟩
      · rw [List.flatMap_cons, List.length_append, ← ih1, e1]
        show (List.flatMap _ (zv al tf x :: _)).length = _
        rw [List.flatMap_cons, List.length_append, if_neg ec]
        rfl
      · rw [List.flatMap_cons, e1] at h
        replace h : q ∈ (if x = 7 then _ else (i, zv al tf x) :: zlf al tf (i + 1) (t.flatMap zl1)) := h
        rw [if_neg hx] at h
        show q ∈ (i, zv al tf x) :: lv_args (if (zv al tf x).category = 2 then i + 2 else i + 1) _
        rw [if_neg ec]
        rcases List.mem_cons.mp h with rfl | h
        · exact List.mem_cons_self
        · exact List.mem_cons_of_mem _ (ih2 (i + 1) q h)
theorem zlf_rep (n : Nat) : ∀ i q, q ∉ zlf al tf i (List.replicate n 7) := by
  induction n with
  | zero => intro i q h; cases h
  | succ n ih =>
    intro i q h
    rw [List.replicate_succ] at h
    replace h : q ∈ (if (7 : Nat) = 7 then zlf al tf (i + 1) (List.replicate n 7) else _) := h
    rw [if_pos rfl] at h
    exact ih _ _ h
theorem zlf_pad (n : Nat) : ∀ (ls : List Nat) i q, q ∈ zlf al tf i (ls ++ List.replicate n 7) → q ∈ zlf al tf i ls
  | [], i, q, h => absurd h (zlf_rep n i q)
  | v :: t, i, q, h => by
    replace h : q ∈ (if v = 7 then zlf al tf (i + 1) (t ++ List.replicate n 7) else (i, zv al tf v) :: zlf al tf (i + 1) (t ++ List.replicate n 7)) := h
    show q ∈ (if v = 7 then zlf al tf (i + 1) t else (i, zv al tf v) :: zlf al tf (i + 1) t)
    by_cases h7 : v = 7
    · rw [if_pos h7] at h ⊢
      exact zlf_pad n t _ _ h
    · rw [if_neg h7] at h ⊢
      rcases List.mem_cons.mp h with rfl | h
      · exact List.mem_cons_self
      · exact List.mem_cons_of_mem _ (zlf_pad n t _ _ h)
/-- the frame at the start -/
theorem zentry {as : List Nat} (h7 : ∀ x ∈ as, x ≠ 7) (hl : (as.flatMap zl1).length ≤ maxL) : ∃ LS, (∀ m, entryFrame m (as.map (zv al tf)).toArray maxL = F0 m 0 LS []) ∧ zFr al tf (as.flatMap zl1 ++ List.replicate (maxL - (as.flatMap zl1).length) 7) LS := by
  obtain ⟨h1, h2⟩ := zsl (al := al) (tf := tf) h7
  have hh := lv_entry (as.map (zv al tf)) (n := maxL) (by rw [h1]; exact hl)
  refine ⟨_, fun m => lg_entry_eq m _ _, ?_⟩
  unfold zFr
  have el : (as.flatMap zl1 ++ List.replicate (maxL - (as.flatMap zl1).length) 7).length = maxL := by
    rw [List.length_append, List.length_replicate]
    omega
  rw [el]
  exact ⟨hh.1, hh.2.1, fun q hq => hh.2.2 q (h2 0 q (zlf_pad _ _ 0 q hq))⟩
/-- what a method of the table must bring -/
def zTab (zi : zMs) (al : Nat → Nat) (tf : Nat × Nat) (gm dC : Nat → ClassId) (dI : Nat → Nat → Nat) (N : Nat) (l : Launch) (mi : Nat) (q : ev_P) : Prop :=
  ∃ y bytes maxL ret, zi[mi]? = some (y, bytes, maxL, ret) ∧ q.2.1 = maxL ∧ maxL ≤ 21 ∧ zkind q.2.2 ret ∧ plainFor y = true ∧ Cond.code y bytes maxL ret ∈ zTS ∧ ∀ d pc ins, zcode q.1 pc = some ins → zO zi al tf gm dC dI N d l y bytes maxL ret pc ins
theorem zrun {tab : List ev_P} (hinj : ∀ i j, al i = al j → i = j) (hT : ∀ mi q, tab[mi]? = some q → zTab zi al tf gm dC dI N l mi q) : ∀ d, zCs zi al tf gm dC dI N d l (ev_run tab d) := by
  intro d
  induction d with
  | zero => intro mi as B F top q h7 h; cases h
  | succ d ih =>
    intro mi as B F top q h7 h hI
    replace h : ev_meth tab mi (fun q => ev_pad q.2.1 (as.flatMap zl1) fun ls => @Option.rec ev_R (fun _ => Option ev_V) none (fun r => ev_b (Nat.beq r.1 99999) none (ev_tell q.2.2 r.2.2.1 fun l => some (l, r.2.2.2.1, r.2.2.2.2.1, r.2.2.2.2.2))) (ev_loop q.1 99999 (ev_run tab d) ev_fuel 0 ls [] B F top)) = some q := h
    obtain ⟨P, hP, h⟩ := ev_meth_some h
    obtain ⟨hl, h⟩ := ev_pad_some _ _ _ _ h
    obtain ⟨y, bytes, maxL, ret, hz, hm1, hm2, hk, hpl, hco, hO⟩ := hT mi P hP
    rw [hm1] at hl h
    cases hloop : ev_loop P.1 99999 (ev_run tab d) ev_fuel 0 (as.flatMap zl1 ++ List.replicate (maxL - (as.flatMap zl1).length) 7) [] B F top with
    | none => rw [hloop] at h; cases h
    | some r =>
      rw [hloop] at h
      replace h : ev_b (Nat.beq r.1 99999) none (ev_tell P.2.2 r.2.2.1 fun l => some (l, r.2.2.2.1, r.2.2.2.2.1, r.2.2.2.2.2)) = some q := h
      obtain ⟨hne, h⟩ := ev_b_none h
      have hne := zb_ne hne
      obtain ⟨rr, hrr, hrl⟩ := ev_tell_some h
      cases hrr
      refine ⟨_, hz, hrl, hm2, hco, ?_⟩
      refine va_MetF (cc := bytes) (maxL := maxL) (ret := ret) hpl rfl ?_
      intro p e s m args below meth c s₁ Bd hml hv
      obtain ⟨rfl, hH, hK, hQ⟩ := hv
      have hts := atoms_spec (ws := Cond.code y bytes maxL ret :: zTS) Bd.pre
      have hown : s.vm.findClass y.cls = some m.cls := findClass_of_methodNamed Bd.named
      have hM : zM al tf gm dC dI d y bytes maxL ret p (zrm (d + 1)) s m (as.map (zv al tf)).toArray meth c := ⟨Bd.exec, Bd.bytes, hml, Bd.returns, Bd.notSynchronized, hown, fun w hw => hts w (List.mem_cons_of_mem _ hw), fun h => by rw [(name_of_methodNamed Bd.named Bd.method).1]; exact h, hK, hQ, trivial, hinj, Nat.le_refl _, by show 40 * d + 40 ≤ 40 * (d + 1); omega⟩
      obtain ⟨LS, hLS, hFr⟩ := zentry (al := al) (tf := tf) h7 hl
      rw [hLS]
      have key := zloop (zi := zi) (stop := 99999) (hO d) (p := p) (e := e) (R := zrm (d + 1)) (s := s) (m := m) (args := (as.map (zv al tf)).toArray) (below := below) (meth := meth) (c := c) (Q := MQ below (zPost al tf gm dC dI N rr r.2.2.2.1 r.2.2.2.2.1 r.2.2.2.2.2) (as.map (zv al tf)).toArray s (zC (d + 1)) (zS (d + 1)) (zA al)) (rt := fun k => zRet bytes ret k ∨ k = 99999) (fun k h => Or.inl h) (Or.inr rfl) hM ih ev_fuel
      refine key 0 _ [] B F top r hloop ?_ s.heap [] 0 0 LS ⟨hFr, hI, hH, va_S.rf, by show 0 + _ ≤ zC (d + 1); rw [Nat.zero_add]; exact Nat.le_refl _, by show 0 + _ ≤ zS (d + 1); rw [Nat.zero_add]; exact Nat.le_refl _, by rw [List.length_append, List.length_replicate]; omega⟩
      intro H locs cells slots LS2 hrt hX
      have hrt : zRet bytes ret r.1 := hrt.resolve_right hne
      obtain ⟨rr2, h1, h2, h3⟩ := zreturn (al := al) (tf := tf) (gm := gm) (dC := dC) (dI := dI) (d := d) (y := y) (maxL := maxL) hk hrt h
      cases h1
      obtain ⟨x1, x2, x3, x4, x5, x6, x7⟩ := hX
      refine W.widen (show cells ≤ zC (d + 1) by have h : cells + 0 * _ ≤ zC (d + 1) := x5; omega) (show slots ≤ zS (d + 1) by have h : slots + 0 * _ ≤ zS (d + 1) := x6; omega) (h3 p e (zrm (d + 1)) s m _ below meth c H locs _ _ LS2 _ _ hM (fun t h1 h2 => ?_) (fun q hq => x4.2.2 q hq))
      exact ⟨rfl, ⟨by rw [h1]; exact x3, x2⟩, x4.F h1⟩
end ZRUN
end
section
section ZMORE
variable {zi : zMs} {al : Nat → Nat} {tf : Nat × Nat} {gm dC : Nat → ClassId} {dI : Nat → Nat → Nat} {N d : Nat} {l : Launch} {y : MethodName} {bytes : ByteArray} {maxL : Nat} {ret : Option FieldType} {pc : Nat}
theorem zsel {C : String} {x x2 : MethodName} {s : State} {args : Array Value} {n : Nat} (hx : x.cls ≠ "java/lang/invoke/MethodHandle" ∧ x.cls ≠ "java/lang/invoke/VarHandle") (hins : (Cond.instantiable C n).before args s = true) (hpriv : (Cond.privateMethod x).before args s = true) (hinst : (Cond.instanceMethod x).before args s = true) (h2 : (Cond.selects C x2 x2).before args s = true) (hi2 : (Cond.instanceMethod x2).before args s = true) (hc2 : x2.cls = x.cls) : (Cond.selects C x x).before args s = true := by
  obtain ⟨c, k, hc, hk, -, hniab, -, -⟩ := Cond.instantiable_spec hins
  obtain ⟨mk, methM, hnamed, hmethM, -, -⟩ := Cond.instanceMethod_spec hinst
  obtain ⟨mk2, methM2, hnamed2, -, -, -⟩ := Cond.instanceMethod_spec hi2
  have hfound : s.methodFound? x.cls x.name x.desc = some mk := State.methodFound?_of_named hnamed hx
  have hfound2 : s.methodFound? x2.cls x2.name x2.desc = some mk2 := State.methodFound?_of_named hnamed2 (by rw [hc2]; exact hx)
  obtain ⟨c2, r2, m2, q1, q2, q3, q4, kP, hkP, hkPi⟩ := Cond.selects_spec h2
  cases hfound2.symm.trans q2
  have he : mk2.cls = mk.cls := by
    have e1 := findClass_of_methodNamed hnamed
    have e2 := findClass_of_methodNamed hnamed2
    rw [hc2] at e2
    exact Option.some.inj (e2.symm.trans e1)
  cases hnamed2.symm.trans q3
  rw [he] at hkP
  have hsel : selectMethod {} s.vm c mk = .method mk := selectMethod_private hmethM (Cond.privateMethod_at hpriv mk methM hnamed hmethM)
  simp only [Cond.before, Cond.holds, Cond.value, hc, hfound, hnamed, hsel, hk, hkP]
  simp [hkPi]
theorem zr_O {n k index : Nat} {C owner : String} {x y2 : MethodName} {b2 b0 : ByteArray} {m2 m0 : Nat} {r2 r0 : Option FieldType} (hk : n = k + 1) (hd : decode bytes pc = .ok (.invokevirtual index, 3)) (hw : ∀ w ∈ ([.methodLink y.cls index x, .sameMethod x.cls owner x.name x.desc, .instanceMethod ⟨owner, x.name, x.desc⟩, .selects C x y2, .instanceMethod y2, .initialized y2.cls] : List Cond), w ∈ zTS) (h0 : Cond.code ⟨owner, x.name, x.desc⟩ b0 m0 r0 ∈ zTS) (hy : owner ≠ "java/lang/invoke/MethodHandle" ∧ owner ≠ "java/lang/invoke/VarHandle" ∧ (parseMethodDescriptor x.desc).map (fun d => d.parameters.length) = some k) : zRun al tf gm dC dI d l y bytes maxL ret pc n C y2 b2 m2 r2 := by
  intro p e R s m args below meth c H locs cells slots LS Pc Qc b As rest cC hM hco hm hMet hat hp hn hLS hcat hf
  exact va_runU (n := k) ⟨hM.1, hM.2.1, hM.2.2.1, hM.2.2.2.2.2.1, hM.2.2.2.2.2.2.1⟩ hMet (va_cwO k hM.2.2.2.2.2.2.1 (zGood fun w h => zmem_app hw hco h) rfl rfl rfl h0 hy ⟨hM.2.2.2.2.2.2.2.2.2.2.2.2.1, zlo hM.2.2.2.2.2.2.2.2.2.2.2.2.2 hm⟩) hp rfl (by omega) hLS rfl (by show 2 * 0 + _ ≤ 8; omega) hd hf
theorem zo_putzF {nx c k n index : Nat} {C : String} {T : u_T} {ty0 : Nat → FieldType} {ty : FieldType} (hc : zCl c C T n) (hty : ∀ k, k < n → parseFieldDescriptor (T k).2.2.1 = some (ty0 k)) (hk : k < n) (hd : decode bytes pc = .ok (.putfield index, 3)) (hn : nx = pc + 3) (hl : Cond.fieldLink y.cls index (T k).1 (T k).2.1 (T k).2.2.1 ∈ zTS) (hfin : (T k).2.2.2 = true) (hin : y.name = "<init>") (hdecl : (T k).1 = y.cls) (hpd : parseFieldDescriptor (T k).2.2.1 = some ty) (hnf : ty = .byte ∨ ty = .boolean) : zO zi al tf gm dC dI N d l y bytes maxL ret pc (eo_putz N nx c k) := by
  refine zo_put (nx := nx) (j := 0) (P := fun v => v ≤ 4) hc hty hk (fun call go ls st B F top q h => ?_) (fun p e R s m args below meth cc Q H locs cells slots LS rest a ce v hM q1 q2 q3 hlt hj hP kk => ?_)
  · replace h := ev_uc_some h
    obtain ⟨v, r, rfl, h⟩ := h
    obtain ⟨hb, h⟩ := ev_b_some h
    exact ⟨h, fun v' u r' e => by cases e; exact zb_le.mp hb⟩
  · subst hn
    have hnf2 : narrow ty (zv al tf v) = zv al tf v ∧ fits ty (zv al tf v) = true := by
      have hv : v = 0 ∨ v = 4 := by omega
      rcases hnf with rfl | rfl <;> rcases hv with rfl | rfl <;> exact ⟨rfl, rfl⟩
    obtain ⟨hS, hfc, kC, hkC, hkind⟩ := hM.2.2.2.2.2.2.2.2.1.1 c _ hc.1
    obtain ⟨cf, kf, fi, fd, hi, hsl⟩ := hS k hk
    have hlay := hM.2.2.2.2.2.2.1 _ (hc.2.1 _ (u_in_lay hk))
    unfold u_lay at hlay
    rw [if_pos hfin] at hlay
    have hst := (u_facts hfc hkC (u_lays hM.2.2.2.2.2.2.1 hc.2.1 hk) hi).1
    have hcf : m.cls = cf := by
      obtain ⟨_, _, c', _, _, _, -, -, hf', -, -, -, hown2, -⟩ := Cond.laysFinal_spec hlay
      have e1 : c' = cf := by have := hi.symm.trans hf'; simp at this; exact this.1.symm
      rw [hdecl] at hown2
      rw [← e1]
      exact Option.some.inj (hM.2.2.2.2.2.1.symm.trans hown2)
    have h6 := u_fits hfc hkC hkind (Or.inr hlay) hi hpd hnf2.1 hnf2.2
    refine W.putFinK hM.1 hM.2.1 hM.2.2.2.2.2.1 (hM.2.2.2.2.2.2.1 _ hl) hi hst hcf (hM.2.2.2.2.2.2.2.1 hin) (by rw [q2]; exact h6) q1 q3 (by rw [hsl]; exact hlt) rfl rfl hd fun H' e1 e2 e3 => ?_
    rw [hsl] at e1 ⊢
    exact kk H' e1 e2 e3
theorem zo_ane {nx tg : Nat} {off : Int} (hd : decode bytes pc = .ok (.if_acmp .ne off, 3)) (hn : nx = pc + 3) (ht : (pc : Int) + off = (tg : Int)) : zO zi al tf gm dC dI N d l y bytes maxL ret pc (eo_ane nx tg) := by
  intro p e R s m args below meth cc Q rt hrt call go f hM hC hG ls st B F top q h hT H locs cells slots LS hX
  subst hn
  replace h := ev_uc_some h
  obtain ⟨v, s1, rfl, h⟩ := h
  replace h := ev_uc_some h
  obtain ⟨u, r, rfl, h⟩ := h
  replace h := ev_r_some h
  obtain ⟨hv, h⟩ := h
  replace h := ev_r_some h
  obtain ⟨hu, h⟩ := h
  have K : W p l e R s m args below meth cc H locs cells slots Q (F0 m (if zv al tf u = zv al tf v then pc + 3 else tg) LS (r.map (zv al tf))) := by
    replace h := ev_if zb_eq h
    rcases h with ⟨h1, h⟩ | ⟨h1, h⟩
    · subst h1
      rw [if_pos rfl]
      exact hG (pc + 3) ls r B F top q h hT H locs cells slots LS hX.down
    · rw [if_neg (fun q => h1 ?_)]
      · exact hG tg ls r B F top q h hT H locs cells slots LS hX.down
      · rw [zv_r hu, zv_r hv] at q
        have q2 : u / 4 = v / 4 := hM.2.2.2.2.2.2.2.2.2.2.2.1 _ _ (by injection q)
        omega
  rw [List.map_cons, List.map_cons, zv_r hu, zv_r hv]
  rw [zv_r hu, zv_r hv] at K
  by_cases hq : al (u / 4) = al (v / 4)
  · rw [if_pos (by rw [hq])] at K
    exact lv_acmp_ne (rx := some (al (u / 4))) (ry := some (al (v / 4))) hM.1 hM.2.1 hd ht
      (fun h => absurd (congrArg some hq) h) (fun _ => K)
  · rw [if_neg (fun q => hq (by injection q))] at K
    exact lv_acmp_ne (rx := some (al (u / 4))) (ry := some (al (v / 4))) hM.1 hM.2.1 hd ht
      (fun _ => K) (fun h => absurd (Option.some.inj h) hq)
theorem zo_pop2 {nx : Nat} (hd : decode bytes pc = .ok (.pop2, 1)) (hn : nx = pc + 1) : zO zi al tf gm dC dI N d l y bytes maxL ret pc (eo_pop2 nx) := by
  intro p e R s m args below meth cc Q rt hrt call go f hM hC hG ls st B F top q h hT H locs cells slots LS hX
  subst hn
  replace h := ev_uc_some h
  obtain ⟨u, r, rfl, h⟩ := h
  replace h := ev_l_some h
  obtain ⟨hu, h⟩ := h
  rw [List.map_cons, zv_l hu]
  exact lv_pop2_2 hM.1 hM.2.1 hd rfl (hG (pc + 1) ls r B F top q h hT H locs cells slots LS hX.down)
theorem zo_ldcws {nx id index : Nat} {tx : String} (hd : decode bytes pc = .ok (.ldc_w index, 3)) (hn : nx = pc + 3) (hl : (y.cls, index, tx, id) ∈ zstrs) : zO zi al tf gm dC dI N d l y bytes maxL ret pc (eo_push nx (4 * (tf.2 + id) + 2)) :=
  zo_push fun p e R s m args below meth c Q H locs cells slots LS rest hM _ K => by
    have hZ := hM.2.2.2.2.2.2.2.2.2.1.2.2.2.2.1 _ hl
    rw [zv_kr, hn] at K
    intro T hT X
    obtain ⟨t, a1, b1⟩ := K T hT X
    exact ⟨t, X.ldcStringW hM.1 hM.2.2.2.2.2.1 (text := tx) (a := al (tf.2 + id)) hZ.1 hZ.2 (g := F0 m pc LS rest) rfl (by rw [hM.2.1]; exact hd) t a1, b1⟩
theorem zal_nil : ∀ w ∈ ([] : List Cond), w ∈ zTS := fun _ h => absurd h List.not_mem_nil
theorem zal_cons {a : Cond} {l : List Cond} (h : a ∈ zTS) (t : ∀ w ∈ l, w ∈ zTS) : ∀ w ∈ a :: l, w ∈ zTS := fun w hw => by
  rcases List.mem_cons.mp hw with rfl | hw
  · exact h
  · exact t w hw
theorem zo_no : zO zi al tf gm dC dI N d l y bytes maxL ret pc eo_no := by
  intro p e R s m args below meth cc Q rt hrt call go f hM hC hG ls st B F top q h
  cases h
/-- certificates, one by one -/
def zAllR (P : Nat → ev_I → Prop) : Nat → List ev_I → Prop
  | _, [] => True
  | b, f :: t => P b f ∧ zAllR P (b + 1) t
def zAllC (P : Nat → ev_I → Prop) : Nat → List (List ev_I) → Prop
  | _, [] => True
  | b, r :: t => zAllR P (16 * b) r ∧ zAllC P (b + 1) t
theorem zAllR_at {P : Nat → ev_I → Prop} : ∀ {l : List ev_I} {b j : Nat} {i : ev_I}, zAllR P b l → l[j]? = some i → P (b + j) i
  | [], _, _, _, _, h => by simp at h
  | _ :: _, _, 0, _, hA, h => by
    simp at h
    subst h
    exact hA.1
  | _ :: t, b, j + 1, i, hA, h => by
    have := zAllR_at (l := t) (b := b + 1) (j := j) hA.2 (by simpa using h)
    rw [show b + (j + 1) = b + 1 + j by omega]
    exact this
theorem zAllC_at {P : Nat → ev_I → Prop} : ∀ {l : List (List ev_I)} {b c : Nat} {r : List ev_I}, zAllC P b l → l[c]? = some r → zAllR P (16 * (b + c)) r
  | [], _, _, _, _, h => by simp at h
  | _ :: _, _, 0, _, hA, h => by
    simp at h
    subst h
    exact hA.1
  | _ :: t, b, c + 1, r, hA, h => by
    have := zAllC_at (l := t) (b := b + 1) (c := c) hA.2 (by simpa using h)
    rw [show b + (c + 1) = b + 1 + c by omega]
    exact this
theorem zAll {P : Nat → ev_I → Prop} {code : List (List ev_I)} (h : zAllC P 0 code) (pc : Nat) (i : ev_I) (hc : zcode code pc = some i) : P pc i := by
  unfold zcode at hc
  obtain ⟨r, h1, h2⟩ := Option.bind_eq_some_iff.mp hc
  have := zAllR_at (zAllC_at h h1) h2
  rw [show 16 * (0 + pc / 16) + pc % 16 = pc by omega] at this
  exact this
end ZMORE
end
