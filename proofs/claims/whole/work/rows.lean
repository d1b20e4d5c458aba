section
-- ===== PART A: goes FIRST, ahead of the names: the tables' words, and 'selects' of the private methods out of them =====
/-- a private method of a class that the tables say can be made, by its rows of tables_1 -/
def lw_okq (q : MethodName × Nat) : Prop := (q.1.cls ≠ "java/lang/invoke/MethodHandle" ∧ q.1.cls ≠ "java/lang/invoke/VarHandle") ∧ Cond.instantiable q.1.cls q.2 ∈ tables_1 ∧ Cond.privateMethod q.1 ∈ tables_1 ∧ Cond.instanceMethod q.1 ∈ tables_1
theorem lw_p0 : lw_okq (⟨"IceParliament$Tape", "takeLetters", "()V"⟩, 9) := ⟨⟨by decide +kernel, by decide +kernel⟩, List.mem_of_getElem? (i := 36) (by decide +kernel), List.mem_of_getElem? (i := 573) (by decide +kernel), List.mem_of_getElem? (i := 574) (by decide +kernel)⟩
theorem lw_p1 : lw_okq (⟨"IceParliament$Tape", "takeDigits", "()V"⟩, 9) := ⟨⟨by decide +kernel, by decide +kernel⟩, List.mem_of_getElem? (i := 36) (by decide +kernel), List.mem_of_getElem? (i := 578) (by decide +kernel), List.mem_of_getElem? (i := 579) (by decide +kernel)⟩
theorem lw_p2 : lw_okq (⟨"IceParliament$YardReader", "readLine", "()Z"⟩, 4) := ⟨⟨by decide +kernel, by decide +kernel⟩, List.mem_of_getElem? (i := 244) (by decide +kernel), List.mem_of_getElem? (i := 673) (by decide +kernel), List.mem_of_getElem? (i := 674) (by decide +kernel)⟩
theorem lw_p3 : lw_okq (⟨"IceParliament$YardReader", "readSpot", "()Z"⟩, 4) := ⟨⟨by decide +kernel, by decide +kernel⟩, List.mem_of_getElem? (i := 244) (by decide +kernel), List.mem_of_getElem? (i := 703) (by decide +kernel), List.mem_of_getElem? (i := 704) (by decide +kernel)⟩
theorem lw_p4 : lw_okq (⟨"IceParliament$YardReader", "takeHead", "(LIceParliament$Roll;)Z"⟩, 4) := ⟨⟨by decide +kernel, by decide +kernel⟩, List.mem_of_getElem? (i := 244) (by decide +kernel), List.mem_of_getElem? (i := 707) (by decide +kernel), List.mem_of_getElem? (i := 708) (by decide +kernel)⟩
theorem lw_p5 : lw_okq (⟨"IceParliament$Tape", "isName", "()Z"⟩, 9) := ⟨⟨by decide +kernel, by decide +kernel⟩, List.mem_of_getElem? (i := 36) (by decide +kernel), List.mem_of_getElem? (i := 724) (by decide +kernel), List.mem_of_getElem? (i := 725) (by decide +kernel)⟩
theorem lw_p6 : lw_okq (⟨"IceParliament$YardReader", "readCarver", "()Z"⟩, 4) := ⟨⟨by decide +kernel, by decide +kernel⟩, List.mem_of_getElem? (i := 244) (by decide +kernel), List.mem_of_getElem? (i := 765) (by decide +kernel), List.mem_of_getElem? (i := 766) (by decide +kernel)⟩
theorem lw_p7 : lw_okq (⟨"IceParliament$YardReader", "takeSide", "(I)Z"⟩, 4) := ⟨⟨by decide +kernel, by decide +kernel⟩, List.mem_of_getElem? (i := 244) (by decide +kernel), List.mem_of_getElem? (i := 769) (by decide +kernel), List.mem_of_getElem? (i := 770) (by decide +kernel)⟩
theorem lw_p8 : lw_okq (⟨"IceParliament$YardReader", "readAct", "()Z"⟩, 4) := ⟨⟨by decide +kernel, by decide +kernel⟩, List.mem_of_getElem? (i := 244) (by decide +kernel), List.mem_of_getElem? (i := 777) (by decide +kernel), List.mem_of_getElem? (i := 778) (by decide +kernel)⟩
theorem lw_p9 : lw_okq (⟨"IceParliament$YardReader", "takeKind", "(I)Z"⟩, 4) := ⟨⟨by decide +kernel, by decide +kernel⟩, List.mem_of_getElem? (i := 244) (by decide +kernel), List.mem_of_getElem? (i := 781) (by decide +kernel), List.mem_of_getElem? (i := 782) (by decide +kernel)⟩
theorem lw_p10 : lw_okq (⟨"IceParliament$YardReader", "takeMover", "(I)Z"⟩, 4) := ⟨⟨by decide +kernel, by decide +kernel⟩, List.mem_of_getElem? (i := 244) (by decide +kernel), List.mem_of_getElem? (i := 794) (by decide +kernel), List.mem_of_getElem? (i := 795) (by decide +kernel)⟩
theorem lw_p11 : lw_okq (⟨"IceParliament$YardReader", "readClash", "()Z"⟩, 4) := ⟨⟨by decide +kernel, by decide +kernel⟩, List.mem_of_getElem? (i := 244) (by decide +kernel), List.mem_of_getElem? (i := 804) (by decide +kernel), List.mem_of_getElem? (i := 805) (by decide +kernel)⟩
theorem lw_p12 : lw_okq (⟨"IceParliament$YardReader", "readNights", "()Z"⟩, 4) := ⟨⟨by decide +kernel, by decide +kernel⟩, List.mem_of_getElem? (i := 244) (by decide +kernel), List.mem_of_getElem? (i := 821) (by decide +kernel), List.mem_of_getElem? (i := 822) (by decide +kernel)⟩
theorem lw_p13 : lw_okq (⟨"IceParliament$YardReader", "readMild", "()Z"⟩, 4) := ⟨⟨by decide +kernel, by decide +kernel⟩, List.mem_of_getElem? (i := 244) (by decide +kernel), List.mem_of_getElem? (i := 835) (by decide +kernel), List.mem_of_getElem? (i := 836) (by decide +kernel)⟩
theorem lw_p14 : lw_okq (⟨"IceParliament$LawReader", "takeOpenings", "()Z"⟩, 6) := ⟨⟨by decide +kernel, by decide +kernel⟩, List.mem_of_getElem? (i := 250) (by decide +kernel), List.mem_of_getElem? (i := 847) (by decide +kernel), List.mem_of_getElem? (i := 848) (by decide +kernel)⟩
theorem lw_p15 : lw_okq (⟨"IceParliament$LawReader", "push", "(I)V"⟩, 6) := ⟨⟨by decide +kernel, by decide +kernel⟩, List.mem_of_getElem? (i := 250) (by decide +kernel), List.mem_of_getElem? (i := 854) (by decide +kernel), List.mem_of_getElem? (i := 855) (by decide +kernel)⟩
def lw_privs_1 : List (MethodName × Nat) := [(⟨"IceParliament$Tape", "takeLetters", "()V"⟩, 9), (⟨"IceParliament$Tape", "takeDigits", "()V"⟩, 9), (⟨"IceParliament$YardReader", "readLine", "()Z"⟩, 4), (⟨"IceParliament$YardReader", "readSpot", "()Z"⟩, 4), (⟨"IceParliament$YardReader", "takeHead", "(LIceParliament$Roll;)Z"⟩, 4), (⟨"IceParliament$Tape", "isName", "()Z"⟩, 9), (⟨"IceParliament$YardReader", "readCarver", "()Z"⟩, 4), (⟨"IceParliament$YardReader", "takeSide", "(I)Z"⟩, 4), (⟨"IceParliament$YardReader", "readAct", "()Z"⟩, 4), (⟨"IceParliament$YardReader", "takeKind", "(I)Z"⟩, 4), (⟨"IceParliament$YardReader", "takeMover", "(I)Z"⟩, 4), (⟨"IceParliament$YardReader", "readClash", "()Z"⟩, 4), (⟨"IceParliament$YardReader", "readNights", "()Z"⟩, 4), (⟨"IceParliament$YardReader", "readMild", "()Z"⟩, 4), (⟨"IceParliament$LawReader", "takeOpenings", "()Z"⟩, 6), (⟨"IceParliament$LawReader", "push", "(I)V"⟩, 6)]
theorem lw_r1 : ∀ q ∈ lw_privs_1, lw_okq q := List.forall_mem_cons.mpr ⟨lw_p0, List.forall_mem_cons.mpr ⟨lw_p1, List.forall_mem_cons.mpr ⟨lw_p2, List.forall_mem_cons.mpr ⟨lw_p3, List.forall_mem_cons.mpr ⟨lw_p4, List.forall_mem_cons.mpr ⟨lw_p5, List.forall_mem_cons.mpr ⟨lw_p6, List.forall_mem_cons.mpr ⟨lw_p7, List.forall_mem_cons.mpr ⟨lw_p8, List.forall_mem_cons.mpr ⟨lw_p9, List.forall_mem_cons.mpr ⟨lw_p10, List.forall_mem_cons.mpr ⟨lw_p11, List.forall_mem_cons.mpr ⟨lw_p12, List.forall_mem_cons.mpr ⟨lw_p13, List.forall_mem_cons.mpr ⟨lw_p14, List.forall_mem_cons.mpr ⟨lw_p15, fun _ h => absurd h List.not_mem_nil⟩⟩⟩⟩⟩⟩⟩⟩⟩⟩⟩⟩⟩⟩⟩⟩
theorem lw_p16 : lw_okq (⟨"IceParliament$LawReader", "takeLeaf", "()Z"⟩, 6) := ⟨⟨by decide +kernel, by decide +kernel⟩, List.mem_of_getElem? (i := 250) (by decide +kernel), List.mem_of_getElem? (i := 858) (by decide +kernel), List.mem_of_getElem? (i := 859) (by decide +kernel)⟩
theorem lw_p17 : lw_okq (⟨"IceParliament$LawReader", "factHere", "()I"⟩, 6) := ⟨⟨by decide +kernel, by decide +kernel⟩, List.mem_of_getElem? (i := 250) (by decide +kernel), List.mem_of_getElem? (i := 863) (by decide +kernel), List.mem_of_getElem? (i := 864) (by decide +kernel)⟩
theorem lw_p18 : lw_okq (⟨"IceParliament$LawReader", "closeNots", "()V"⟩, 6) := ⟨⟨by decide +kernel, by decide +kernel⟩, List.mem_of_getElem? (i := 250) (by decide +kernel), List.mem_of_getElem? (i := 873) (by decide +kernel), List.mem_of_getElem? (i := 874) (by decide +kernel)⟩
theorem lw_p19 : lw_okq (⟨"IceParliament$LawReader", "takeClosings", "()V"⟩, 6) := ⟨⟨by decide +kernel, by decide +kernel⟩, List.mem_of_getElem? (i := 250) (by decide +kernel), List.mem_of_getElem? (i := 877) (by decide +kernel), List.mem_of_getElem? (i := 878) (by decide +kernel)⟩
theorem lw_p20 : lw_okq (⟨"IceParliament$LawReader", "settle", "(I)V"⟩, 6) := ⟨⟨by decide +kernel, by decide +kernel⟩, List.mem_of_getElem? (i := 250) (by decide +kernel), List.mem_of_getElem? (i := 881) (by decide +kernel), List.mem_of_getElem? (i := 882) (by decide +kernel)⟩
theorem lw_p21 : lw_okq (⟨"IceParliament$LawReader", "joinHere", "()I"⟩, 6) := ⟨⟨by decide +kernel, by decide +kernel⟩, List.mem_of_getElem? (i := 250) (by decide +kernel), List.mem_of_getElem? (i := 888) (by decide +kernel), List.mem_of_getElem? (i := 889) (by decide +kernel)⟩
theorem lw_p22 : lw_okq (⟨"IceParliament$LawReader", "takeEnd", "()Z"⟩, 6) := ⟨⟨by decide +kernel, by decide +kernel⟩, List.mem_of_getElem? (i := 250) (by decide +kernel), List.mem_of_getElem? (i := 894) (by decide +kernel), List.mem_of_getElem? (i := 895) (by decide +kernel)⟩
theorem lw_p23 : lw_okq (⟨"IceParliament$LawReader", "takeJoin", "(I)Z"⟩, 6) := ⟨⟨by decide +kernel, by decide +kernel⟩, List.mem_of_getElem? (i := 250) (by decide +kernel), List.mem_of_getElem? (i := 899) (by decide +kernel), List.mem_of_getElem? (i := 900) (by decide +kernel)⟩
theorem lw_p24 : lw_okq (⟨"IceParliament$Session", "readLine", "(LIceParliament$Tape;LIceParliament$Yard;)Z"⟩, 4) := ⟨⟨by decide +kernel, by decide +kernel⟩, List.mem_of_getElem? (i := 288) (by decide +kernel), List.mem_of_getElem? (i := 940) (by decide +kernel), List.mem_of_getElem? (i := 941) (by decide +kernel)⟩
theorem lw_p25 : lw_okq (⟨"IceParliament$Session", "takeNames", "(LIceParliament$Tape;LIceParliament$Yard;I)Z"⟩, 4) := ⟨⟨by decide +kernel, by decide +kernel⟩, List.mem_of_getElem? (i := 288) (by decide +kernel), List.mem_of_getElem? (i := 955) (by decide +kernel), List.mem_of_getElem? (i := 956) (by decide +kernel)⟩
theorem lw_p26 : lw_okq (⟨"IceParliament", "isAct", "(I)Z"⟩, 14) := ⟨⟨by decide +kernel, by decide +kernel⟩, List.mem_of_getElem? (i := 28) (by decide +kernel), List.mem_of_getElem? (i := 970) (by decide +kernel), List.mem_of_getElem? (i := 971) (by decide +kernel)⟩
theorem lw_p27 : lw_okq (⟨"IceParliament", "isCarver", "(I)Z"⟩, 14) := ⟨⟨by decide +kernel, by decide +kernel⟩, List.mem_of_getElem? (i := 28) (by decide +kernel), List.mem_of_getElem? (i := 1029) (by decide +kernel), List.mem_of_getElem? (i := 1030) (by decide +kernel)⟩
theorem lw_p28 : lw_okq (⟨"IceParliament", "isSpot", "(I)Z"⟩, 14) := ⟨⟨by decide +kernel, by decide +kernel⟩, List.mem_of_getElem? (i := 28) (by decide +kernel), List.mem_of_getElem? (i := 1070) (by decide +kernel), List.mem_of_getElem? (i := 1071) (by decide +kernel)⟩
theorem lw_p29 : lw_okq (⟨"IceParliament", "keepForUndo", "()V"⟩, 14) := ⟨⟨by decide +kernel, by decide +kernel⟩, List.mem_of_getElem? (i := 28) (by decide +kernel), List.mem_of_getElem? (i := 1082) (by decide +kernel), List.mem_of_getElem? (i := 1083) (by decide +kernel)⟩
theorem lw_p30 : lw_okq (⟨"IceParliament$State", "lose", "(II)Z"⟩, 11) := ⟨⟨by decide +kernel, by decide +kernel⟩, List.mem_of_getElem? (i := 312) (by decide +kernel), List.mem_of_getElem? (i := 1126) (by decide +kernel), List.mem_of_getElem? (i := 1127) (by decide +kernel)⟩
theorem lw_p31 : lw_okq (⟨"IceParliament$Trial", "follow", "(III)Z"⟩, 8) := ⟨⟨by decide +kernel, by decide +kernel⟩, List.mem_of_getElem? (i := 467) (by decide +kernel), List.mem_of_getElem? (i := 1157) (by decide +kernel), List.mem_of_getElem? (i := 1158) (by decide +kernel)⟩
def lw_privs_2 : List (MethodName × Nat) := [(⟨"IceParliament$LawReader", "takeLeaf", "()Z"⟩, 6), (⟨"IceParliament$LawReader", "factHere", "()I"⟩, 6), (⟨"IceParliament$LawReader", "closeNots", "()V"⟩, 6), (⟨"IceParliament$LawReader", "takeClosings", "()V"⟩, 6), (⟨"IceParliament$LawReader", "settle", "(I)V"⟩, 6), (⟨"IceParliament$LawReader", "joinHere", "()I"⟩, 6), (⟨"IceParliament$LawReader", "takeEnd", "()Z"⟩, 6), (⟨"IceParliament$LawReader", "takeJoin", "(I)Z"⟩, 6), (⟨"IceParliament$Session", "readLine", "(LIceParliament$Tape;LIceParliament$Yard;)Z"⟩, 4), (⟨"IceParliament$Session", "takeNames", "(LIceParliament$Tape;LIceParliament$Yard;I)Z"⟩, 4), (⟨"IceParliament", "isAct", "(I)Z"⟩, 14), (⟨"IceParliament", "isCarver", "(I)Z"⟩, 14), (⟨"IceParliament", "isSpot", "(I)Z"⟩, 14), (⟨"IceParliament", "keepForUndo", "()V"⟩, 14), (⟨"IceParliament$State", "lose", "(II)Z"⟩, 11), (⟨"IceParliament$Trial", "follow", "(III)Z"⟩, 8)]
theorem lw_r2 : ∀ q ∈ lw_privs_2, lw_okq q := List.forall_mem_cons.mpr ⟨lw_p16, List.forall_mem_cons.mpr ⟨lw_p17, List.forall_mem_cons.mpr ⟨lw_p18, List.forall_mem_cons.mpr ⟨lw_p19, List.forall_mem_cons.mpr ⟨lw_p20, List.forall_mem_cons.mpr ⟨lw_p21, List.forall_mem_cons.mpr ⟨lw_p22, List.forall_mem_cons.mpr ⟨lw_p23, List.forall_mem_cons.mpr ⟨lw_p24, List.forall_mem_cons.mpr ⟨lw_p25, List.forall_mem_cons.mpr ⟨lw_p26, List.forall_mem_cons.mpr ⟨lw_p27, List.forall_mem_cons.mpr ⟨lw_p28, List.forall_mem_cons.mpr ⟨lw_p29, List.forall_mem_cons.mpr ⟨lw_p30, List.forall_mem_cons.mpr ⟨lw_p31, fun _ h => absurd h List.not_mem_nil⟩⟩⟩⟩⟩⟩⟩⟩⟩⟩⟩⟩⟩⟩⟩⟩
theorem lw_p32 : lw_okq (⟨"IceParliament$Trial", "tryBegin", "(II)Z"⟩, 8) := ⟨⟨by decide +kernel, by decide +kernel⟩, List.mem_of_getElem? (i := 467) (by decide +kernel), List.mem_of_getElem? (i := 1161) (by decide +kernel), List.mem_of_getElem? (i := 1162) (by decide +kernel)⟩
theorem lw_p33 : lw_okq (⟨"IceParliament$Trial", "tryCarve", "(II)Z"⟩, 8) := ⟨⟨by decide +kernel, by decide +kernel⟩, List.mem_of_getElem? (i := 467) (by decide +kernel), List.mem_of_getElem? (i := 1167) (by decide +kernel), List.mem_of_getElem? (i := 1168) (by decide +kernel)⟩
theorem lw_p34 : lw_okq (⟨"IceParliament$Trial", "liveDay", "()V"⟩, 8) := ⟨⟨by decide +kernel, by decide +kernel⟩, List.mem_of_getElem? (i := 467) (by decide +kernel), List.mem_of_getElem? (i := 1188) (by decide +kernel), List.mem_of_getElem? (i := 1189) (by decide +kernel)⟩
theorem lw_p35 : lw_okq (⟨"IceParliament$Trial", "draw", "(I)I"⟩, 8) := ⟨⟨by decide +kernel, by decide +kernel⟩, List.mem_of_getElem? (i := 467) (by decide +kernel), List.mem_of_getElem? (i := 1192) (by decide +kernel), List.mem_of_getElem? (i := 1193) (by decide +kernel)⟩
theorem lw_p36 : lw_okq (⟨"IceParliament$Planner", "callWorkers", "()V"⟩, 15) := ⟨⟨by decide +kernel, by decide +kernel⟩, List.mem_of_getElem? (i := 382) (by decide +kernel), List.mem_of_getElem? (i := 1249) (by decide +kernel), List.mem_of_getElem? (i := 1250) (by decide +kernel)⟩
theorem lw_p37 : lw_okq (⟨"IceParliament$Planner", "listStanding", "()V"⟩, 15) := ⟨⟨by decide +kernel, by decide +kernel⟩, List.mem_of_getElem? (i := 382) (by decide +kernel), List.mem_of_getElem? (i := 1254) (by decide +kernel), List.mem_of_getElem? (i := 1255) (by decide +kernel)⟩
theorem lw_p38 : lw_okq (⟨"IceParliament$Planner", "worthByCrew", "(III)I"⟩, 15) := ⟨⟨by decide +kernel, by decide +kernel⟩, List.mem_of_getElem? (i := 382) (by decide +kernel), List.mem_of_getElem? (i := 1259) (by decide +kernel), List.mem_of_getElem? (i := 1260) (by decide +kernel)⟩
theorem lw_p39 : lw_okq (⟨"IceParliament$Planner", "canWork", "(II)Z"⟩, 15) := ⟨⟨by decide +kernel, by decide +kernel⟩, List.mem_of_getElem? (i := 382) (by decide +kernel), List.mem_of_getElem? (i := 1264) (by decide +kernel), List.mem_of_getElem? (i := 1265) (by decide +kernel)⟩
theorem lw_p40 : lw_okq (⟨"IceParliament$Planner", "howManyRows", "()I"⟩, 15) := ⟨⟨by decide +kernel, by decide +kernel⟩, List.mem_of_getElem? (i := 382) (by decide +kernel), List.mem_of_getElem? (i := 1273) (by decide +kernel), List.mem_of_getElem? (i := 1274) (by decide +kernel)⟩
theorem lw_p41 : lw_okq (⟨"IceParliament$Planner", "worthOfRow", "()I"⟩, 15) := ⟨⟨by decide +kernel, by decide +kernel⟩, List.mem_of_getElem? (i := 382) (by decide +kernel), List.mem_of_getElem? (i := 1277) (by decide +kernel), List.mem_of_getElem? (i := 1278) (by decide +kernel)⟩
theorem lw_p42 : lw_okq (⟨"IceParliament$Planner", "keepRow", "()V"⟩, 15) := ⟨⟨by decide +kernel, by decide +kernel⟩, List.mem_of_getElem? (i := 382) (by decide +kernel), List.mem_of_getElem? (i := 1281) (by decide +kernel), List.mem_of_getElem? (i := 1282) (by decide +kernel)⟩
theorem lw_p43 : lw_okq (⟨"IceParliament$Planner", "stepRow", "()V"⟩, 15) := ⟨⟨by decide +kernel, by decide +kernel⟩, List.mem_of_getElem? (i := 382) (by decide +kernel), List.mem_of_getElem? (i := 1285) (by decide +kernel), List.mem_of_getElem? (i := 1286) (by decide +kernel)⟩
theorem lw_p44 : lw_okq (⟨"IceParliament$Planner", "fillGains", "()V"⟩, 15) := ⟨⟨by decide +kernel, by decide +kernel⟩, List.mem_of_getElem? (i := 382) (by decide +kernel), List.mem_of_getElem? (i := 1297) (by decide +kernel), List.mem_of_getElem? (i := 1298) (by decide +kernel)⟩
theorem lw_p45 : lw_okq (⟨"IceParliament$Planner", "fillBest", "()V"⟩, 15) := ⟨⟨by decide +kernel, by decide +kernel⟩, List.mem_of_getElem? (i := 382) (by decide +kernel), List.mem_of_getElem? (i := 1303) (by decide +kernel), List.mem_of_getElem? (i := 1304) (by decide +kernel)⟩
theorem lw_p46 : lw_okq (⟨"IceParliament$Planner", "firstPlace", "(II)I"⟩, 15) := ⟨⟨by decide +kernel, by decide +kernel⟩, List.mem_of_getElem? (i := 382) (by decide +kernel), List.mem_of_getElem? (i := 1308) (by decide +kernel), List.mem_of_getElem? (i := 1309) (by decide +kernel)⟩
theorem lw_p47 : lw_okq (⟨"IceParliament$Planner", "spreadOdds", "(III)V"⟩, 15) := ⟨⟨by decide +kernel, by decide +kernel⟩, List.mem_of_getElem? (i := 382) (by decide +kernel), List.mem_of_getElem? (i := 1328) (by decide +kernel), List.mem_of_getElem? (i := 1329) (by decide +kernel)⟩
def lw_privs_3 : List (MethodName × Nat) := [(⟨"IceParliament$Trial", "tryBegin", "(II)Z"⟩, 8), (⟨"IceParliament$Trial", "tryCarve", "(II)Z"⟩, 8), (⟨"IceParliament$Trial", "liveDay", "()V"⟩, 8), (⟨"IceParliament$Trial", "draw", "(I)I"⟩, 8), (⟨"IceParliament$Planner", "callWorkers", "()V"⟩, 15), (⟨"IceParliament$Planner", "listStanding", "()V"⟩, 15), (⟨"IceParliament$Planner", "worthByCrew", "(III)I"⟩, 15), (⟨"IceParliament$Planner", "canWork", "(II)Z"⟩, 15), (⟨"IceParliament$Planner", "howManyRows", "()I"⟩, 15), (⟨"IceParliament$Planner", "worthOfRow", "()I"⟩, 15), (⟨"IceParliament$Planner", "keepRow", "()V"⟩, 15), (⟨"IceParliament$Planner", "stepRow", "()V"⟩, 15), (⟨"IceParliament$Planner", "fillGains", "()V"⟩, 15), (⟨"IceParliament$Planner", "fillBest", "()V"⟩, 15), (⟨"IceParliament$Planner", "firstPlace", "(II)I"⟩, 15), (⟨"IceParliament$Planner", "spreadOdds", "(III)V"⟩, 15)]
theorem lw_r3 : ∀ q ∈ lw_privs_3, lw_okq q := List.forall_mem_cons.mpr ⟨lw_p32, List.forall_mem_cons.mpr ⟨lw_p33, List.forall_mem_cons.mpr ⟨lw_p34, List.forall_mem_cons.mpr ⟨lw_p35, List.forall_mem_cons.mpr ⟨lw_p36, List.forall_mem_cons.mpr ⟨lw_p37, List.forall_mem_cons.mpr ⟨lw_p38, List.forall_mem_cons.mpr ⟨lw_p39, List.forall_mem_cons.mpr ⟨lw_p40, List.forall_mem_cons.mpr ⟨lw_p41, List.forall_mem_cons.mpr ⟨lw_p42, List.forall_mem_cons.mpr ⟨lw_p43, List.forall_mem_cons.mpr ⟨lw_p44, List.forall_mem_cons.mpr ⟨lw_p45, List.forall_mem_cons.mpr ⟨lw_p46, List.forall_mem_cons.mpr ⟨lw_p47, fun _ h => absurd h List.not_mem_nil⟩⟩⟩⟩⟩⟩⟩⟩⟩⟩⟩⟩⟩⟩⟩⟩
theorem lw_p48 : lw_okq (⟨"IceParliament$Planner", "worthBehind", "(III)I"⟩, 15) := ⟨⟨by decide +kernel, by decide +kernel⟩, List.mem_of_getElem? (i := 382) (by decide +kernel), List.mem_of_getElem? (i := 1344) (by decide +kernel), List.mem_of_getElem? (i := 1345) (by decide +kernel)⟩
theorem lw_p49 : lw_okq (⟨"IceParliament$Breath", "foresee", "()V"⟩, 7) := ⟨⟨by decide +kernel, by decide +kernel⟩, List.mem_of_getElem? (i := 438) (by decide +kernel), List.mem_of_getElem? (i := 1362) (by decide +kernel), List.mem_of_getElem? (i := 1363) (by decide +kernel)⟩
theorem lw_p50 : lw_okq (⟨"IceParliament$Breath", "isAsTold", "(I)Z"⟩, 7) := ⟨⟨by decide +kernel, by decide +kernel⟩, List.mem_of_getElem? (i := 438) (by decide +kernel), List.mem_of_getElem? (i := 1369) (by decide +kernel), List.mem_of_getElem? (i := 1370) (by decide +kernel)⟩
theorem lw_p51 : lw_okq (⟨"IceParliament$Breath", "feetBy", "(II)I"⟩, 7) := ⟨⟨by decide +kernel, by decide +kernel⟩, List.mem_of_getElem? (i := 438) (by decide +kernel), List.mem_of_getElem? (i := 1373) (by decide +kernel), List.mem_of_getElem? (i := 1374) (by decide +kernel)⟩
theorem lw_p52 : lw_okq (⟨"IceParliament$Breath", "greatestAlike", "(I)I"⟩, 7) := ⟨⟨by decide +kernel, by decide +kernel⟩, List.mem_of_getElem? (i := 438) (by decide +kernel), List.mem_of_getElem? (i := 1395) (by decide +kernel), List.mem_of_getElem? (i := 1396) (by decide +kernel)⟩
theorem lw_p53 : lw_okq (⟨"java/lang/Throwable", "fillInStackTrace", "(I)Ljava/lang/Throwable;"⟩, 6) := ⟨⟨by decide +kernel, by decide +kernel⟩, List.mem_of_getElem? (i := 1447) (by decide +kernel), List.mem_of_getElem? (i := 1445) (by decide +kernel), List.mem_of_getElem? (i := 1446) (by decide +kernel)⟩
theorem lw_p54 : lw_okq (⟨"IceParliamentModel", "lay", "(J)V"⟩, 40) := ⟨⟨by decide +kernel, by decide +kernel⟩, List.mem_of_getElem? (i := 1488) (by decide +kernel), List.mem_of_getElem? (i := 1486) (by decide +kernel), List.mem_of_getElem? (i := 1487) (by decide +kernel)⟩
theorem lw_p55 : lw_okq (⟨"IceParliamentModel", "standsAsAlways", "(I)V"⟩, 40) := ⟨⟨by decide +kernel, by decide +kernel⟩, List.mem_of_getElem? (i := 1488) (by decide +kernel), List.mem_of_getElem? (i := 1529) (by decide +kernel), List.mem_of_getElem? (i := 1530) (by decide +kernel)⟩
theorem lw_p56 : lw_okq (⟨"IceParliamentModel", "begins", "()V"⟩, 40) := ⟨⟨by decide +kernel, by decide +kernel⟩, List.mem_of_getElem? (i := 1488) (by decide +kernel), List.mem_of_getElem? (i := 1533) (by decide +kernel), List.mem_of_getElem? (i := 1534) (by decide +kernel)⟩
theorem lw_p57 : lw_okq (⟨"IceParliamentModel", "starts", "(I)V"⟩, 40) := ⟨⟨by decide +kernel, by decide +kernel⟩, List.mem_of_getElem? (i := 1488) (by decide +kernel), List.mem_of_getElem? (i := 1537) (by decide +kernel), List.mem_of_getElem? (i := 1538) (by decide +kernel)⟩
theorem lw_p58 : lw_okq (⟨"IceParliamentModel", "acts", "()I"⟩, 40) := ⟨⟨by decide +kernel, by decide +kernel⟩, List.mem_of_getElem? (i := 1488) (by decide +kernel), List.mem_of_getElem? (i := 1541) (by decide +kernel), List.mem_of_getElem? (i := 1542) (by decide +kernel)⟩
theorem lw_p59 : lw_okq (⟨"IceParliamentModel", "actOf", "(II)I"⟩, 40) := ⟨⟨by decide +kernel, by decide +kernel⟩, List.mem_of_getElem? (i := 1488) (by decide +kernel), List.mem_of_getElem? (i := 1545) (by decide +kernel), List.mem_of_getElem? (i := 1546) (by decide +kernel)⟩
theorem lw_p60 : lw_okq (⟨"IceParliamentModel", "cutAll", "()V"⟩, 40) := ⟨⟨by decide +kernel, by decide +kernel⟩, List.mem_of_getElem? (i := 1488) (by decide +kernel), List.mem_of_getElem? (i := 1675) (by decide +kernel), List.mem_of_getElem? (i := 1676) (by decide +kernel)⟩
theorem lw_p61 : lw_okq (⟨"IceParliamentModel", "readLine", "()V"⟩, 40) := ⟨⟨by decide +kernel, by decide +kernel⟩, List.mem_of_getElem? (i := 1488) (by decide +kernel), List.mem_of_getElem? (i := 1694) (by decide +kernel), List.mem_of_getElem? (i := 1695) (by decide +kernel)⟩
theorem lw_p62 : lw_okq (⟨"IceParliamentModel", "isWord", "(I)Z"⟩, 40) := ⟨⟨by decide +kernel, by decide +kernel⟩, List.mem_of_getElem? (i := 1488) (by decide +kernel), List.mem_of_getElem? (i := 1698) (by decide +kernel), List.mem_of_getElem? (i := 1699) (by decide +kernel)⟩
theorem lw_p63 : lw_okq (⟨"IceParliamentModel", "readSpot", "()V"⟩, 40) := ⟨⟨by decide +kernel, by decide +kernel⟩, List.mem_of_getElem? (i := 1488) (by decide +kernel), List.mem_of_getElem? (i := 1702) (by decide +kernel), List.mem_of_getElem? (i := 1703) (by decide +kernel)⟩
def lw_privs_4 : List (MethodName × Nat) := [(⟨"IceParliament$Planner", "worthBehind", "(III)I"⟩, 15), (⟨"IceParliament$Breath", "foresee", "()V"⟩, 7), (⟨"IceParliament$Breath", "isAsTold", "(I)Z"⟩, 7), (⟨"IceParliament$Breath", "feetBy", "(II)I"⟩, 7), (⟨"IceParliament$Breath", "greatestAlike", "(I)I"⟩, 7), (⟨"java/lang/Throwable", "fillInStackTrace", "(I)Ljava/lang/Throwable;"⟩, 6), (⟨"IceParliamentModel", "lay", "(J)V"⟩, 40), (⟨"IceParliamentModel", "standsAsAlways", "(I)V"⟩, 40), (⟨"IceParliamentModel", "begins", "()V"⟩, 40), (⟨"IceParliamentModel", "starts", "(I)V"⟩, 40), (⟨"IceParliamentModel", "acts", "()I"⟩, 40), (⟨"IceParliamentModel", "actOf", "(II)I"⟩, 40), (⟨"IceParliamentModel", "cutAll", "()V"⟩, 40), (⟨"IceParliamentModel", "readLine", "()V"⟩, 40), (⟨"IceParliamentModel", "isWord", "(I)Z"⟩, 40), (⟨"IceParliamentModel", "readSpot", "()V"⟩, 40)]
theorem lw_r4 : ∀ q ∈ lw_privs_4, lw_okq q := List.forall_mem_cons.mpr ⟨lw_p48, List.forall_mem_cons.mpr ⟨lw_p49, List.forall_mem_cons.mpr ⟨lw_p50, List.forall_mem_cons.mpr ⟨lw_p51, List.forall_mem_cons.mpr ⟨lw_p52, List.forall_mem_cons.mpr ⟨lw_p53, List.forall_mem_cons.mpr ⟨lw_p54, List.forall_mem_cons.mpr ⟨lw_p55, List.forall_mem_cons.mpr ⟨lw_p56, List.forall_mem_cons.mpr ⟨lw_p57, List.forall_mem_cons.mpr ⟨lw_p58, List.forall_mem_cons.mpr ⟨lw_p59, List.forall_mem_cons.mpr ⟨lw_p60, List.forall_mem_cons.mpr ⟨lw_p61, List.forall_mem_cons.mpr ⟨lw_p62, List.forall_mem_cons.mpr ⟨lw_p63, fun _ h => absurd h List.not_mem_nil⟩⟩⟩⟩⟩⟩⟩⟩⟩⟩⟩⟩⟩⟩⟩⟩
theorem lw_p64 : lw_okq (⟨"IceParliamentModel", "wrong", "(I)V"⟩, 40) := ⟨⟨by decide +kernel, by decide +kernel⟩, List.mem_of_getElem? (i := 1488) (by decide +kernel), List.mem_of_getElem? (i := 1706) (by decide +kernel), List.mem_of_getElem? (i := 1707) (by decide +kernel)⟩
theorem lw_p65 : lw_okq (⟨"IceParliamentModel", "readName", "(I)V"⟩, 40) := ⟨⟨by decide +kernel, by decide +kernel⟩, List.mem_of_getElem? (i := 1488) (by decide +kernel), List.mem_of_getElem? (i := 1710) (by decide +kernel), List.mem_of_getElem? (i := 1711) (by decide +kernel)⟩
theorem lw_p66 : lw_okq (⟨"IceParliamentModel", "isName", "()Z"⟩, 40) := ⟨⟨by decide +kernel, by decide +kernel⟩, List.mem_of_getElem? (i := 1488) (by decide +kernel), List.mem_of_getElem? (i := 1714) (by decide +kernel), List.mem_of_getElem? (i := 1715) (by decide +kernel)⟩
theorem lw_p67 : lw_okq (⟨"IceParliamentModel", "wordHere", "(II)I"⟩, 40) := ⟨⟨by decide +kernel, by decide +kernel⟩, List.mem_of_getElem? (i := 1488) (by decide +kernel), List.mem_of_getElem? (i := 1718) (by decide +kernel), List.mem_of_getElem? (i := 1719) (by decide +kernel)⟩
theorem lw_p68 : lw_okq (⟨"IceParliamentModel", "find", "(Z)I"⟩, 40) := ⟨⟨by decide +kernel, by decide +kernel⟩, List.mem_of_getElem? (i := 1488) (by decide +kernel), List.mem_of_getElem? (i := 1722) (by decide +kernel), List.mem_of_getElem? (i := 1723) (by decide +kernel)⟩
theorem lw_p69 : lw_okq (⟨"IceParliamentModel", "takeAfter", "(III)I"⟩, 40) := ⟨⟨by decide +kernel, by decide +kernel⟩, List.mem_of_getElem? (i := 1488) (by decide +kernel), List.mem_of_getElem? (i := 1726) (by decide +kernel), List.mem_of_getElem? (i := 1727) (by decide +kernel)⟩
theorem lw_p70 : lw_okq (⟨"IceParliamentModel", "takeWord", "(I)V"⟩, 40) := ⟨⟨by decide +kernel, by decide +kernel⟩, List.mem_of_getElem? (i := 1488) (by decide +kernel), List.mem_of_getElem? (i := 1730) (by decide +kernel), List.mem_of_getElem? (i := 1731) (by decide +kernel)⟩
theorem lw_p71 : lw_okq (⟨"IceParliamentModel", "hasWord", "(I)Z"⟩, 40) := ⟨⟨by decide +kernel, by decide +kernel⟩, List.mem_of_getElem? (i := 1488) (by decide +kernel), List.mem_of_getElem? (i := 1734) (by decide +kernel), List.mem_of_getElem? (i := 1735) (by decide +kernel)⟩
theorem lw_p72 : lw_okq (⟨"IceParliamentModel", "takeNumber", "(II)I"⟩, 40) := ⟨⟨by decide +kernel, by decide +kernel⟩, List.mem_of_getElem? (i := 1488) (by decide +kernel), List.mem_of_getElem? (i := 1738) (by decide +kernel), List.mem_of_getElem? (i := 1739) (by decide +kernel)⟩
theorem lw_p73 : lw_okq (⟨"IceParliamentModel", "readCarver", "()V"⟩, 40) := ⟨⟨by decide +kernel, by decide +kernel⟩, List.mem_of_getElem? (i := 1488) (by decide +kernel), List.mem_of_getElem? (i := 1742) (by decide +kernel), List.mem_of_getElem? (i := 1743) (by decide +kernel)⟩
theorem lw_p74 : lw_okq (⟨"IceParliamentModel", "takeOne", "(II)I"⟩, 40) := ⟨⟨by decide +kernel, by decide +kernel⟩, List.mem_of_getElem? (i := 1488) (by decide +kernel), List.mem_of_getElem? (i := 1746) (by decide +kernel), List.mem_of_getElem? (i := 1747) (by decide +kernel)⟩
theorem lw_p75 : lw_okq (⟨"IceParliamentModel", "readAct", "()V"⟩, 40) := ⟨⟨by decide +kernel, by decide +kernel⟩, List.mem_of_getElem? (i := 1488) (by decide +kernel), List.mem_of_getElem? (i := 1750) (by decide +kernel), List.mem_of_getElem? (i := 1751) (by decide +kernel)⟩
theorem lw_p76 : lw_okq (⟨"IceParliamentModel", "takeTold", "(ZI)I"⟩, 40) := ⟨⟨by decide +kernel, by decide +kernel⟩, List.mem_of_getElem? (i := 1488) (by decide +kernel), List.mem_of_getElem? (i := 1754) (by decide +kernel), List.mem_of_getElem? (i := 1755) (by decide +kernel)⟩
theorem lw_p77 : lw_okq (⟨"IceParliamentModel", "toldHere", "(ZI)I"⟩, 40) := ⟨⟨by decide +kernel, by decide +kernel⟩, List.mem_of_getElem? (i := 1488) (by decide +kernel), List.mem_of_getElem? (i := 1758) (by decide +kernel), List.mem_of_getElem? (i := 1759) (by decide +kernel)⟩
theorem lw_p78 : lw_okq (⟨"IceParliamentModel", "readClash", "()V"⟩, 40) := ⟨⟨by decide +kernel, by decide +kernel⟩, List.mem_of_getElem? (i := 1488) (by decide +kernel), List.mem_of_getElem? (i := 1765) (by decide +kernel), List.mem_of_getElem? (i := 1766) (by decide +kernel)⟩
theorem lw_p79 : lw_okq (⟨"IceParliamentModel", "readOnce", "()V"⟩, 40) := ⟨⟨by decide +kernel, by decide +kernel⟩, List.mem_of_getElem? (i := 1488) (by decide +kernel), List.mem_of_getElem? (i := 1769) (by decide +kernel), List.mem_of_getElem? (i := 1770) (by decide +kernel)⟩
def lw_privs_5 : List (MethodName × Nat) := [(⟨"IceParliamentModel", "wrong", "(I)V"⟩, 40), (⟨"IceParliamentModel", "readName", "(I)V"⟩, 40), (⟨"IceParliamentModel", "isName", "()Z"⟩, 40), (⟨"IceParliamentModel", "wordHere", "(II)I"⟩, 40), (⟨"IceParliamentModel", "find", "(Z)I"⟩, 40), (⟨"IceParliamentModel", "takeAfter", "(III)I"⟩, 40), (⟨"IceParliamentModel", "takeWord", "(I)V"⟩, 40), (⟨"IceParliamentModel", "hasWord", "(I)Z"⟩, 40), (⟨"IceParliamentModel", "takeNumber", "(II)I"⟩, 40), (⟨"IceParliamentModel", "readCarver", "()V"⟩, 40), (⟨"IceParliamentModel", "takeOne", "(II)I"⟩, 40), (⟨"IceParliamentModel", "readAct", "()V"⟩, 40), (⟨"IceParliamentModel", "takeTold", "(ZI)I"⟩, 40), (⟨"IceParliamentModel", "toldHere", "(ZI)I"⟩, 40), (⟨"IceParliamentModel", "readClash", "()V"⟩, 40), (⟨"IceParliamentModel", "readOnce", "()V"⟩, 40)]
theorem lw_r5 : ∀ q ∈ lw_privs_5, lw_okq q := List.forall_mem_cons.mpr ⟨lw_p64, List.forall_mem_cons.mpr ⟨lw_p65, List.forall_mem_cons.mpr ⟨lw_p66, List.forall_mem_cons.mpr ⟨lw_p67, List.forall_mem_cons.mpr ⟨lw_p68, List.forall_mem_cons.mpr ⟨lw_p69, List.forall_mem_cons.mpr ⟨lw_p70, List.forall_mem_cons.mpr ⟨lw_p71, List.forall_mem_cons.mpr ⟨lw_p72, List.forall_mem_cons.mpr ⟨lw_p73, List.forall_mem_cons.mpr ⟨lw_p74, List.forall_mem_cons.mpr ⟨lw_p75, List.forall_mem_cons.mpr ⟨lw_p76, List.forall_mem_cons.mpr ⟨lw_p77, List.forall_mem_cons.mpr ⟨lw_p78, List.forall_mem_cons.mpr ⟨lw_p79, fun _ h => absurd h List.not_mem_nil⟩⟩⟩⟩⟩⟩⟩⟩⟩⟩⟩⟩⟩⟩⟩⟩
theorem lw_p80 : lw_okq (⟨"IceParliamentModel", "readNights", "()V"⟩, 40) := ⟨⟨by decide +kernel, by decide +kernel⟩, List.mem_of_getElem? (i := 1488) (by decide +kernel), List.mem_of_getElem? (i := 1773) (by decide +kernel), List.mem_of_getElem? (i := 1774) (by decide +kernel)⟩
theorem lw_p81 : lw_okq (⟨"IceParliamentModel", "all", "(I)V"⟩, 40) := ⟨⟨by decide +kernel, by decide +kernel⟩, List.mem_of_getElem? (i := 1488) (by decide +kernel), List.mem_of_getElem? (i := 1777) (by decide +kernel), List.mem_of_getElem? (i := 1778) (by decide +kernel)⟩
theorem lw_p82 : lw_okq (⟨"IceParliamentModel", "test", "(I)V"⟩, 40) := ⟨⟨by decide +kernel, by decide +kernel⟩, List.mem_of_getElem? (i := 1488) (by decide +kernel), List.mem_of_getElem? (i := 1781) (by decide +kernel), List.mem_of_getElem? (i := 1782) (by decide +kernel)⟩
theorem lw_p83 : lw_okq (⟨"IceParliamentModel", "sums", "(I)V"⟩, 40) := ⟨⟨by decide +kernel, by decide +kernel⟩, List.mem_of_getElem? (i := 1488) (by decide +kernel), List.mem_of_getElem? (i := 1785) (by decide +kernel), List.mem_of_getElem? (i := 1786) (by decide +kernel)⟩
theorem lw_p84 : lw_okq (⟨"IceParliamentModel", "products", "(I)V"⟩, 40) := ⟨⟨by decide +kernel, by decide +kernel⟩, List.mem_of_getElem? (i := 1488) (by decide +kernel), List.mem_of_getElem? (i := 1789) (by decide +kernel), List.mem_of_getElem? (i := 1790) (by decide +kernel)⟩
theorem lw_p85 : lw_okq (⟨"IceParliamentModel", "takePart", "(I)V"⟩, 40) := ⟨⟨by decide +kernel, by decide +kernel⟩, List.mem_of_getElem? (i := 1488) (by decide +kernel), List.mem_of_getElem? (i := 1793) (by decide +kernel), List.mem_of_getElem? (i := 1794) (by decide +kernel)⟩
theorem lw_p86 : lw_okq (⟨"IceParliamentModel", "isSign", "(I)Z"⟩, 40) := ⟨⟨by decide +kernel, by decide +kernel⟩, List.mem_of_getElem? (i := 1488) (by decide +kernel), List.mem_of_getElem? (i := 1797) (by decide +kernel), List.mem_of_getElem? (i := 1798) (by decide +kernel)⟩
theorem lw_p87 : lw_okq (⟨"IceParliamentModel", "emit", "(II)V"⟩, 40) := ⟨⟨by decide +kernel, by decide +kernel⟩, List.mem_of_getElem? (i := 1488) (by decide +kernel), List.mem_of_getElem? (i := 1801) (by decide +kernel), List.mem_of_getElem? (i := 1802) (by decide +kernel)⟩
theorem lw_p88 : lw_okq (⟨"IceParliamentModel", "hasSign", "(I)Z"⟩, 40) := ⟨⟨by decide +kernel, by decide +kernel⟩, List.mem_of_getElem? (i := 1488) (by decide +kernel), List.mem_of_getElem? (i := 1805) (by decide +kernel), List.mem_of_getElem? (i := 1806) (by decide +kernel)⟩
theorem lw_p89 : lw_okq (⟨"IceParliamentModel", "takeSign", "(I)V"⟩, 40) := ⟨⟨by decide +kernel, by decide +kernel⟩, List.mem_of_getElem? (i := 1488) (by decide +kernel), List.mem_of_getElem? (i := 1809) (by decide +kernel), List.mem_of_getElem? (i := 1810) (by decide +kernel)⟩
theorem lw_p90 : lw_okq (⟨"IceParliamentModel", "isAct", "(I)Z"⟩, 40) := ⟨⟨by decide +kernel, by decide +kernel⟩, List.mem_of_getElem? (i := 1488) (by decide +kernel), List.mem_of_getElem? (i := 1821) (by decide +kernel), List.mem_of_getElem? (i := 1822) (by decide +kernel)⟩
theorem lw_p91 : lw_okq (⟨"IceParliamentModel", "stood", "(II)Z"⟩, 40) := ⟨⟨by decide +kernel, by decide +kernel⟩, List.mem_of_getElem? (i := 1488) (by decide +kernel), List.mem_of_getElem? (i := 1825) (by decide +kernel), List.mem_of_getElem? (i := 1826) (by decide +kernel)⟩
theorem lw_p92 : lw_okq (⟨"IceParliamentModel", "needs", "(I)I"⟩, 40) := ⟨⟨by decide +kernel, by decide +kernel⟩, List.mem_of_getElem? (i := 1488) (by decide +kernel), List.mem_of_getElem? (i := 1829) (by decide +kernel), List.mem_of_getElem? (i := 1830) (by decide +kernel)⟩
theorem lw_p93 : lw_okq (⟨"IceParliamentModel", "inForce", "(II)Z"⟩, 40) := ⟨⟨by decide +kernel, by decide +kernel⟩, List.mem_of_getElem? (i := 1488) (by decide +kernel), List.mem_of_getElem? (i := 1833) (by decide +kernel), List.mem_of_getElem? (i := 1834) (by decide +kernel)⟩
theorem lw_p94 : lw_okq (⟨"IceParliamentModel", "meltsNow", "(IIZ)I"⟩, 40) := ⟨⟨by decide +kernel, by decide +kernel⟩, List.mem_of_getElem? (i := 1488) (by decide +kernel), List.mem_of_getElem? (i := 1837) (by decide +kernel), List.mem_of_getElem? (i := 1838) (by decide +kernel)⟩
theorem lw_p95 : lw_okq (⟨"IceParliamentModel", "meltOf", "(IIIIZ)I"⟩, 40) := ⟨⟨by decide +kernel, by decide +kernel⟩, List.mem_of_getElem? (i := 1488) (by decide +kernel), List.mem_of_getElem? (i := 1841) (by decide +kernel), List.mem_of_getElem? (i := 1842) (by decide +kernel)⟩
def lw_privs_6 : List (MethodName × Nat) := [(⟨"IceParliamentModel", "readNights", "()V"⟩, 40), (⟨"IceParliamentModel", "all", "(I)V"⟩, 40), (⟨"IceParliamentModel", "test", "(I)V"⟩, 40), (⟨"IceParliamentModel", "sums", "(I)V"⟩, 40), (⟨"IceParliamentModel", "products", "(I)V"⟩, 40), (⟨"IceParliamentModel", "takePart", "(I)V"⟩, 40), (⟨"IceParliamentModel", "isSign", "(I)Z"⟩, 40), (⟨"IceParliamentModel", "emit", "(II)V"⟩, 40), (⟨"IceParliamentModel", "hasSign", "(I)Z"⟩, 40), (⟨"IceParliamentModel", "takeSign", "(I)V"⟩, 40), (⟨"IceParliamentModel", "isAct", "(I)Z"⟩, 40), (⟨"IceParliamentModel", "stood", "(II)Z"⟩, 40), (⟨"IceParliamentModel", "needs", "(I)I"⟩, 40), (⟨"IceParliamentModel", "inForce", "(II)Z"⟩, 40), (⟨"IceParliamentModel", "meltsNow", "(IIZ)I"⟩, 40), (⟨"IceParliamentModel", "meltOf", "(IIIIZ)I"⟩, 40)]
theorem lw_r6 : ∀ q ∈ lw_privs_6, lw_okq q := List.forall_mem_cons.mpr ⟨lw_p80, List.forall_mem_cons.mpr ⟨lw_p81, List.forall_mem_cons.mpr ⟨lw_p82, List.forall_mem_cons.mpr ⟨lw_p83, List.forall_mem_cons.mpr ⟨lw_p84, List.forall_mem_cons.mpr ⟨lw_p85, List.forall_mem_cons.mpr ⟨lw_p86, List.forall_mem_cons.mpr ⟨lw_p87, List.forall_mem_cons.mpr ⟨lw_p88, List.forall_mem_cons.mpr ⟨lw_p89, List.forall_mem_cons.mpr ⟨lw_p90, List.forall_mem_cons.mpr ⟨lw_p91, List.forall_mem_cons.mpr ⟨lw_p92, List.forall_mem_cons.mpr ⟨lw_p93, List.forall_mem_cons.mpr ⟨lw_p94, List.forall_mem_cons.mpr ⟨lw_p95, fun _ h => absurd h List.not_mem_nil⟩⟩⟩⟩⟩⟩⟩⟩⟩⟩⟩⟩⟩⟩⟩⟩
theorem lw_p96 : lw_okq (⟨"IceParliamentModel", "warmthOf", "(IZ)I"⟩, 40) := ⟨⟨by decide +kernel, by decide +kernel⟩, List.mem_of_getElem? (i := 1488) (by decide +kernel), List.mem_of_getElem? (i := 1845) (by decide +kernel), List.mem_of_getElem? (i := 1846) (by decide +kernel)⟩
theorem lw_p97 : lw_okq (⟨"IceParliamentModel", "worthAt", "(I)I"⟩, 40) := ⟨⟨by decide +kernel, by decide +kernel⟩, List.mem_of_getElem? (i := 1488) (by decide +kernel), List.mem_of_getElem? (i := 1849) (by decide +kernel), List.mem_of_getElem? (i := 1850) (by decide +kernel)⟩
theorem lw_p98 : lw_okq (⟨"IceParliamentModel", "isCarver", "(I)Z"⟩, 40) := ⟨⟨by decide +kernel, by decide +kernel⟩, List.mem_of_getElem? (i := 1488) (by decide +kernel), List.mem_of_getElem? (i := 1860) (by decide +kernel), List.mem_of_getElem? (i := 1861) (by decide +kernel)⟩
theorem lw_p99 : lw_okq (⟨"IceParliamentModel", "carvers", "()I"⟩, 40) := ⟨⟨by decide +kernel, by decide +kernel⟩, List.mem_of_getElem? (i := 1488) (by decide +kernel), List.mem_of_getElem? (i := 1864) (by decide +kernel), List.mem_of_getElem? (i := 1865) (by decide +kernel)⟩
theorem lw_p100 : lw_okq (⟨"IceParliamentModel", "forceOf", "(I)I"⟩, 40) := ⟨⟨by decide +kernel, by decide +kernel⟩, List.mem_of_getElem? (i := 1488) (by decide +kernel), List.mem_of_getElem? (i := 1872) (by decide +kernel), List.mem_of_getElem? (i := 1873) (by decide +kernel)⟩
theorem lw_p101 : lw_okq (⟨"IceParliamentModel", "worthOf", "(I)I"⟩, 40) := ⟨⟨by decide +kernel, by decide +kernel⟩, List.mem_of_getElem? (i := 1488) (by decide +kernel), List.mem_of_getElem? (i := 1880) (by decide +kernel), List.mem_of_getElem? (i := 1881) (by decide +kernel)⟩
theorem lw_p102 : lw_okq (⟨"IceParliamentModel", "isSpot", "(I)Z"⟩, 40) := ⟨⟨by decide +kernel, by decide +kernel⟩, List.mem_of_getElem? (i := 1488) (by decide +kernel), List.mem_of_getElem? (i := 1888) (by decide +kernel), List.mem_of_getElem? (i := 1889) (by decide +kernel)⟩
theorem lw_p103 : lw_okq (⟨"IceParliamentModel", "spots", "()I"⟩, 40) := ⟨⟨by decide +kernel, by decide +kernel⟩, List.mem_of_getElem? (i := 1488) (by decide +kernel), List.mem_of_getElem? (i := 1892) (by decide +kernel), List.mem_of_getElem? (i := 1893) (by decide +kernel)⟩
theorem lw_p104 : lw_okq (⟨"IceParliamentModel", "mayBegin", "(III)Z"⟩, 40) := ⟨⟨by decide +kernel, by decide +kernel⟩, List.mem_of_getElem? (i := 1488) (by decide +kernel), List.mem_of_getElem? (i := 1896) (by decide +kernel), List.mem_of_getElem? (i := 1897) (by decide +kernel)⟩
theorem lw_p105 : lw_okq (⟨"IceParliamentModel", "isFree", "(II)Z"⟩, 40) := ⟨⟨by decide +kernel, by decide +kernel⟩, List.mem_of_getElem? (i := 1488) (by decide +kernel), List.mem_of_getElem? (i := 1900) (by decide +kernel), List.mem_of_getElem? (i := 1901) (by decide +kernel)⟩
theorem lw_p106 : lw_okq (⟨"IceParliamentModel", "keeps", "()V"⟩, 40) := ⟨⟨by decide +kernel, by decide +kernel⟩, List.mem_of_getElem? (i := 1488) (by decide +kernel), List.mem_of_getElem? (i := 1904) (by decide +kernel), List.mem_of_getElem? (i := 1905) (by decide +kernel)⟩
theorem lw_p107 : lw_okq (⟨"IceParliamentModel", "copies", "(II)V"⟩, 40) := ⟨⟨by decide +kernel, by decide +kernel⟩, List.mem_of_getElem? (i := 1488) (by decide +kernel), List.mem_of_getElem? (i := 1908) (by decide +kernel), List.mem_of_getElem? (i := 1909) (by decide +kernel)⟩
theorem lw_p108 : lw_okq (⟨"IceParliamentModel", "puts", "(III)V"⟩, 40) := ⟨⟨by decide +kernel, by decide +kernel⟩, List.mem_of_getElem? (i := 1488) (by decide +kernel), List.mem_of_getElem? (i := 1912) (by decide +kernel), List.mem_of_getElem? (i := 1913) (by decide +kernel)⟩
theorem lw_p109 : lw_okq (⟨"IceParliamentModel", "mayCarve", "(III)Z"⟩, 40) := ⟨⟨by decide +kernel, by decide +kernel⟩, List.mem_of_getElem? (i := 1488) (by decide +kernel), List.mem_of_getElem? (i := 1920) (by decide +kernel), List.mem_of_getElem? (i := 1921) (by decide +kernel)⟩
theorem lw_p110 : lw_okq (⟨"IceParliamentModel", "chips", "(III)I"⟩, 40) := ⟨⟨by decide +kernel, by decide +kernel⟩, List.mem_of_getElem? (i := 1488) (by decide +kernel), List.mem_of_getElem? (i := 1924) (by decide +kernel), List.mem_of_getElem? (i := 1925) (by decide +kernel)⟩
theorem lw_p111 : lw_okq (⟨"IceParliamentModel", "mayProp", "(II)Z"⟩, 40) := ⟨⟨by decide +kernel, by decide +kernel⟩, List.mem_of_getElem? (i := 1488) (by decide +kernel), List.mem_of_getElem? (i := 1932) (by decide +kernel), List.mem_of_getElem? (i := 1933) (by decide +kernel)⟩
def lw_privs_7 : List (MethodName × Nat) := [(⟨"IceParliamentModel", "warmthOf", "(IZ)I"⟩, 40), (⟨"IceParliamentModel", "worthAt", "(I)I"⟩, 40), (⟨"IceParliamentModel", "isCarver", "(I)Z"⟩, 40), (⟨"IceParliamentModel", "carvers", "()I"⟩, 40), (⟨"IceParliamentModel", "forceOf", "(I)I"⟩, 40), (⟨"IceParliamentModel", "worthOf", "(I)I"⟩, 40), (⟨"IceParliamentModel", "isSpot", "(I)Z"⟩, 40), (⟨"IceParliamentModel", "spots", "()I"⟩, 40), (⟨"IceParliamentModel", "mayBegin", "(III)Z"⟩, 40), (⟨"IceParliamentModel", "isFree", "(II)Z"⟩, 40), (⟨"IceParliamentModel", "keeps", "()V"⟩, 40), (⟨"IceParliamentModel", "copies", "(II)V"⟩, 40), (⟨"IceParliamentModel", "puts", "(III)V"⟩, 40), (⟨"IceParliamentModel", "mayCarve", "(III)Z"⟩, 40), (⟨"IceParliamentModel", "chips", "(III)I"⟩, 40), (⟨"IceParliamentModel", "mayProp", "(II)Z"⟩, 40)]
theorem lw_r7 : ∀ q ∈ lw_privs_7, lw_okq q := List.forall_mem_cons.mpr ⟨lw_p96, List.forall_mem_cons.mpr ⟨lw_p97, List.forall_mem_cons.mpr ⟨lw_p98, List.forall_mem_cons.mpr ⟨lw_p99, List.forall_mem_cons.mpr ⟨lw_p100, List.forall_mem_cons.mpr ⟨lw_p101, List.forall_mem_cons.mpr ⟨lw_p102, List.forall_mem_cons.mpr ⟨lw_p103, List.forall_mem_cons.mpr ⟨lw_p104, List.forall_mem_cons.mpr ⟨lw_p105, List.forall_mem_cons.mpr ⟨lw_p106, List.forall_mem_cons.mpr ⟨lw_p107, List.forall_mem_cons.mpr ⟨lw_p108, List.forall_mem_cons.mpr ⟨lw_p109, List.forall_mem_cons.mpr ⟨lw_p110, List.forall_mem_cons.mpr ⟨lw_p111, fun _ h => absurd h List.not_mem_nil⟩⟩⟩⟩⟩⟩⟩⟩⟩⟩⟩⟩⟩⟩⟩⟩
theorem lw_p112 : lw_okq (⟨"IceParliamentModel", "burns", "(II)I"⟩, 40) := ⟨⟨by decide +kernel, by decide +kernel⟩, List.mem_of_getElem? (i := 1488) (by decide +kernel), List.mem_of_getElem? (i := 1940) (by decide +kernel), List.mem_of_getElem? (i := 1941) (by decide +kernel)⟩
theorem lw_p113 : lw_okq (⟨"IceParliamentModel", "passes", "(IZ)I"⟩, 40) := ⟨⟨by decide +kernel, by decide +kernel⟩, List.mem_of_getElem? (i := 1488) (by decide +kernel), List.mem_of_getElem? (i := 1948) (by decide +kernel), List.mem_of_getElem? (i := 1949) (by decide +kernel)⟩
theorem lw_p114 : lw_okq (⟨"IceParliamentModel", "tallThen", "(IIZ)I"⟩, 40) := ⟨⟨by decide +kernel, by decide +kernel⟩, List.mem_of_getElem? (i := 1488) (by decide +kernel), List.mem_of_getElem? (i := 1952) (by decide +kernel), List.mem_of_getElem? (i := 1953) (by decide +kernel)⟩
theorem lw_p115 : lw_okq (⟨"IceParliamentModel", "does", "(III)Z"⟩, 40) := ⟨⟨by decide +kernel, by decide +kernel⟩, List.mem_of_getElem? (i := 1488) (by decide +kernel), List.mem_of_getElem? (i := 1964) (by decide +kernel), List.mem_of_getElem? (i := 1965) (by decide +kernel)⟩
theorem lw_p116 : lw_okq (⟨"IceParliamentModel", "clashesIn", "(I)I"⟩, 40) := ⟨⟨by decide +kernel, by decide +kernel⟩, List.mem_of_getElem? (i := 1488) (by decide +kernel), List.mem_of_getElem? (i := 1976) (by decide +kernel), List.mem_of_getElem? (i := 1977) (by decide +kernel)⟩
theorem lw_p117 : lw_okq (⟨"IceParliamentModel", "findTakers", "()V"⟩, 40) := ⟨⟨by decide +kernel, by decide +kernel⟩, List.mem_of_getElem? (i := 1488) (by decide +kernel), List.mem_of_getElem? (i := 1988) (by decide +kernel), List.mem_of_getElem? (i := 1989) (by decide +kernel)⟩
theorem lw_p118 : lw_okq (⟨"IceParliamentModel", "works", "(II)V"⟩, 40) := ⟨⟨by decide +kernel, by decide +kernel⟩, List.mem_of_getElem? (i := 1488) (by decide +kernel), List.mem_of_getElem? (i := 1992) (by decide +kernel), List.mem_of_getElem? (i := 1993) (by decide +kernel)⟩
theorem lw_p119 : lw_okq (⟨"IceParliamentModel", "worksBy", "(I)V"⟩, 40) := ⟨⟨by decide +kernel, by decide +kernel⟩, List.mem_of_getElem? (i := 1488) (by decide +kernel), List.mem_of_getElem? (i := 1996) (by decide +kernel), List.mem_of_getElem? (i := 1997) (by decide +kernel)⟩
theorem lw_p120 : lw_okq (⟨"IceParliamentModel", "nightsAt", "(III)I"⟩, 40) := ⟨⟨by decide +kernel, by decide +kernel⟩, List.mem_of_getElem? (i := 1488) (by decide +kernel), List.mem_of_getElem? (i := 2004) (by decide +kernel), List.mem_of_getElem? (i := 2005) (by decide +kernel)⟩
theorem lw_p121 : lw_okq (⟨"IceParliamentModel", "laysPlaces", "(IIII)V"⟩, 40) := ⟨⟨by decide +kernel, by decide +kernel⟩, List.mem_of_getElem? (i := 1488) (by decide +kernel), List.mem_of_getElem? (i := 2008) (by decide +kernel), List.mem_of_getElem? (i := 2009) (by decide +kernel)⟩
theorem lw_p122 : lw_okq (⟨"IceParliamentModel", "standing", "(IIIIII)J"⟩, 40) := ⟨⟨by decide +kernel, by decide +kernel⟩, List.mem_of_getElem? (i := 1488) (by decide +kernel), List.mem_of_getElem? (i := 2020) (by decide +kernel), List.mem_of_getElem? (i := 2021) (by decide +kernel)⟩
theorem lw_p123 : lw_okq (⟨"IceParliamentModel", "worthBehind", "(II)I"⟩, 40) := ⟨⟨by decide +kernel, by decide +kernel⟩, List.mem_of_getElem? (i := 1488) (by decide +kernel), List.mem_of_getElem? (i := 2029) (by decide +kernel), List.mem_of_getElem? (i := 2030) (by decide +kernel)⟩
theorem lw_p124 : lw_okq (⟨"IceParliamentModel", "fitsTold", "(I)Z"⟩, 40) := ⟨⟨by decide +kernel, by decide +kernel⟩, List.mem_of_getElem? (i := 1488) (by decide +kernel), List.mem_of_getElem? (i := 2041) (by decide +kernel), List.mem_of_getElem? (i := 2042) (by decide +kernel)⟩
theorem lw_p125 : lw_okq (⟨"IceParliamentModel", "carvedSet", "()I"⟩, 40) := ⟨⟨by decide +kernel, by decide +kernel⟩, List.mem_of_getElem? (i := 1488) (by decide +kernel), List.mem_of_getElem? (i := 2045) (by decide +kernel), List.mem_of_getElem? (i := 2046) (by decide +kernel)⟩
theorem lw_p126 : lw_okq (⟨"IceParliamentModel", "tallBy", "(II)I"⟩, 40) := ⟨⟨by decide +kernel, by decide +kernel⟩, List.mem_of_getElem? (i := 1488) (by decide +kernel), List.mem_of_getElem? (i := 2049) (by decide +kernel), List.mem_of_getElem? (i := 2050) (by decide +kernel)⟩
theorem lw_p127 : lw_okq (⟨"IceParliamentModel", "greatestAt", "(I)I"⟩, 40) := ⟨⟨by decide +kernel, by decide +kernel⟩, List.mem_of_getElem? (i := 1488) (by decide +kernel), List.mem_of_getElem? (i := 2057) (by decide +kernel), List.mem_of_getElem? (i := 2058) (by decide +kernel)⟩
def lw_privs_8 : List (MethodName × Nat) := [(⟨"IceParliamentModel", "burns", "(II)I"⟩, 40), (⟨"IceParliamentModel", "passes", "(IZ)I"⟩, 40), (⟨"IceParliamentModel", "tallThen", "(IIZ)I"⟩, 40), (⟨"IceParliamentModel", "does", "(III)Z"⟩, 40), (⟨"IceParliamentModel", "clashesIn", "(I)I"⟩, 40), (⟨"IceParliamentModel", "findTakers", "()V"⟩, 40), (⟨"IceParliamentModel", "works", "(II)V"⟩, 40), (⟨"IceParliamentModel", "worksBy", "(I)V"⟩, 40), (⟨"IceParliamentModel", "nightsAt", "(III)I"⟩, 40), (⟨"IceParliamentModel", "laysPlaces", "(IIII)V"⟩, 40), (⟨"IceParliamentModel", "standing", "(IIIIII)J"⟩, 40), (⟨"IceParliamentModel", "worthBehind", "(II)I"⟩, 40), (⟨"IceParliamentModel", "fitsTold", "(I)Z"⟩, 40), (⟨"IceParliamentModel", "carvedSet", "()I"⟩, 40), (⟨"IceParliamentModel", "tallBy", "(II)I"⟩, 40), (⟨"IceParliamentModel", "greatestAt", "(I)I"⟩, 40)]
theorem lw_r8 : ∀ q ∈ lw_privs_8, lw_okq q := List.forall_mem_cons.mpr ⟨lw_p112, List.forall_mem_cons.mpr ⟨lw_p113, List.forall_mem_cons.mpr ⟨lw_p114, List.forall_mem_cons.mpr ⟨lw_p115, List.forall_mem_cons.mpr ⟨lw_p116, List.forall_mem_cons.mpr ⟨lw_p117, List.forall_mem_cons.mpr ⟨lw_p118, List.forall_mem_cons.mpr ⟨lw_p119, List.forall_mem_cons.mpr ⟨lw_p120, List.forall_mem_cons.mpr ⟨lw_p121, List.forall_mem_cons.mpr ⟨lw_p122, List.forall_mem_cons.mpr ⟨lw_p123, List.forall_mem_cons.mpr ⟨lw_p124, List.forall_mem_cons.mpr ⟨lw_p125, List.forall_mem_cons.mpr ⟨lw_p126, List.forall_mem_cons.mpr ⟨lw_p127, fun _ h => absurd h List.not_mem_nil⟩⟩⟩⟩⟩⟩⟩⟩⟩⟩⟩⟩⟩⟩⟩⟩
theorem lw_p128 : lw_okq (⟨"IceParliamentModel", "drawsNight", "()I"⟩, 40) := ⟨⟨by decide +kernel, by decide +kernel⟩, List.mem_of_getElem? (i := 1488) (by decide +kernel), List.mem_of_getElem? (i := 2072) (by decide +kernel), List.mem_of_getElem? (i := 2073) (by decide +kernel)⟩
theorem lw_p129 : lw_okq (⟨"IceParliamentModel", "draw", "(I)I"⟩, 40) := ⟨⟨by decide +kernel, by decide +kernel⟩, List.mem_of_getElem? (i := 1488) (by decide +kernel), List.mem_of_getElem? (i := 2076) (by decide +kernel), List.mem_of_getElem? (i := 2077) (by decide +kernel)⟩
theorem lw_p130 : lw_okq (⟨"IceParliamentModel", "howMany", "(I)I"⟩, 40) := ⟨⟨by decide +kernel, by decide +kernel⟩, List.mem_of_getElem? (i := 1488) (by decide +kernel), List.mem_of_getElem? (i := 2092) (by decide +kernel), List.mem_of_getElem? (i := 2093) (by decide +kernel)⟩
theorem lw_p131 : lw_okq (⟨"IceParliamentModel", "toldMany", "()I"⟩, 40) := ⟨⟨by decide +kernel, by decide +kernel⟩, List.mem_of_getElem? (i := 1488) (by decide +kernel), List.mem_of_getElem? (i := 2096) (by decide +kernel), List.mem_of_getElem? (i := 2097) (by decide +kernel)⟩
def lw_privs_9 : List (MethodName × Nat) := [(⟨"IceParliamentModel", "drawsNight", "()I"⟩, 40), (⟨"IceParliamentModel", "draw", "(I)I"⟩, 40), (⟨"IceParliamentModel", "howMany", "(I)I"⟩, 40), (⟨"IceParliamentModel", "toldMany", "()I"⟩, 40)]
theorem lw_r9 : ∀ q ∈ lw_privs_9, lw_okq q := List.forall_mem_cons.mpr ⟨lw_p128, List.forall_mem_cons.mpr ⟨lw_p129, List.forall_mem_cons.mpr ⟨lw_p130, List.forall_mem_cons.mpr ⟨lw_p131, fun _ h => absurd h List.not_mem_nil⟩⟩⟩⟩
def lw_privs : List (MethodName × Nat) := lw_privs_1 ++ (lw_privs_2 ++ (lw_privs_3 ++ (lw_privs_4 ++ (lw_privs_5 ++ (lw_privs_6 ++ (lw_privs_7 ++ (lw_privs_8 ++ (lw_privs_9))))))))
def lw_tbl : List Cond := k2_sels lw_privs ++ tables_1
theorem lw_privs_ok : ∀ q ∈ lw_privs, lw_okq q := by
  show ∀ q ∈ lw_privs_1 ++ (lw_privs_2 ++ (lw_privs_3 ++ (lw_privs_4 ++ (lw_privs_5 ++ (lw_privs_6 ++ (lw_privs_7 ++ (lw_privs_8 ++ (lw_privs_9)))))))), lw_okq q
  exact List.forall_mem_append.mpr ⟨lw_r1, List.forall_mem_append.mpr ⟨lw_r2, List.forall_mem_append.mpr ⟨lw_r3, List.forall_mem_append.mpr ⟨lw_r4, List.forall_mem_append.mpr ⟨lw_r5, List.forall_mem_append.mpr ⟨lw_r6, List.forall_mem_append.mpr ⟨lw_r7, List.forall_mem_append.mpr ⟨lw_r8, lw_r9⟩⟩⟩⟩⟩⟩⟩⟩
def RX0 : String := "IceParliament$Breath"
def TX0 : u_T := fun k => match k with
  | 0 => ("IceParliament$Breath", "size", "I", false)
  | 1 => ("IceParliament$Breath", "yard", "LIceParliament$Yard;", true)
  | 2 => ("IceParliament$Breath", "now", "LIceParliament$State;", true)
  | 3 => ("IceParliament$Breath", "fits", "[I", true)
  | 4 => ("IceParliament$Breath", "calm", "[I", true)
  | 5 => ("IceParliament$Breath", "mouths", "[I", true)
  | _ => ("IceParliament$Breath", "alike", "[I", true)
def tyX0 : Nat → FieldType := fun k => match k with
  | 0 => .int
  | 1 => .object "IceParliament$Yard"
  | 2 => .object "IceParliament$State"
  | 3 => .array .int
  | 4 => .array .int
  | 5 => .array .int
  | _ => .array .int
abbrev wsX00 : List Cond := u_ws RX0 TX0 7
theorem nmX0 : ∀ a, a < 7 → ∀ b, b < 7 → a ≠ b → (TX0 a).2.1 ≠ (TX0 b).2.1 := by decide +kernel
theorem tyX0_ok : ∀ k, k < 7 → parseFieldDescriptor (TX0 k).2.2.1 = some (tyX0 k) := by decide +kernel
def RX1 : String := "IceParliament$Law"
def TX1 : u_T := fun k => match k with
  | 0 => ("IceParliament$Law", "told", "Z", false)
  | 1 => ("IceParliament$Law", "code", "[I", true)
  | 2 => ("IceParliament$Law", "size", "I", false)
  | _ => ("IceParliament$Law", "stack", "[I", true)
def tyX1 : Nat → FieldType := fun k => match k with
  | 0 => .boolean
  | 1 => .array .int
  | 2 => .int
  | _ => .array .int
abbrev wsX10 : List Cond := u_ws RX1 TX1 4
theorem nmX1 : ∀ a, a < 4 → ∀ b, b < 4 → a ≠ b → (TX1 a).2.1 ≠ (TX1 b).2.1 := by decide +kernel
theorem tyX1_ok : ∀ k, k < 4 → parseFieldDescriptor (TX1 k).2.2.1 = some (tyX1 k) := by decide +kernel
def RX2 : String := "IceParliament$LawReader"
def TX2 : u_T := fun k => match k with
  | 0 => ("IceParliament$LawReader", "tape", "LIceParliament$Tape;", true)
  | 1 => ("IceParliament$LawReader", "open", "[I", true)
  | 2 => ("IceParliament$LawReader", "opens", "I", false)
  | 3 => ("IceParliament$LawReader", "nested", "I", false)
  | 4 => ("IceParliament$LawReader", "law", "LIceParliament$Law;", false)
  | _ => ("IceParliament$LawReader", "melting", "Z", false)
def tyX2 : Nat → FieldType := fun k => match k with
  | 0 => .object "IceParliament$Tape"
  | 1 => .array .int
  | 2 => .int
  | 3 => .int
  | 4 => .object "IceParliament$Law"
  | _ => .boolean
abbrev wsX20 : List Cond := u_ws RX2 TX2 6
theorem nmX2 : ∀ a, a < 6 → ∀ b, b < 6 → a ≠ b → (TX2 a).2.1 ≠ (TX2 b).2.1 := by decide +kernel
theorem tyX2_ok : ∀ k, k < 6 → parseFieldDescriptor (TX2 k).2.2.1 = some (tyX2 k) := by decide +kernel
def RX3 : String := "IceParliament$Planner"
def TX3 : u_T := fun k => match k with
  | 0 => ("IceParliament$Planner", "takes", "[I", true)
  | 1 => ("IceParliament$Planner", "placeOf", "[I", true)
  | 2 => ("IceParliament$Planner", "yard", "LIceParliament$Yard;", true)
  | 3 => ("IceParliament$Planner", "now", "LIceParliament$State;", true)
  | 4 => ("IceParliament$Planner", "worker", "[I", true)
  | 5 => ("IceParliament$Planner", "workers", "I", false)
  | 6 => ("IceParliament$Planner", "standing", "[I", true)
  | 7 => ("IceParliament$Planner", "stand", "I", false)
  | 8 => ("IceParliament$Planner", "worthBy", "[[I", true)
  | 9 => ("IceParliament$Planner", "row", "[I", true)
  | 10 => ("IceParliament$Planner", "crew", "[I", true)
  | 11 => ("IceParliament$Planner", "gain", "[[I", true)
  | 12 => ("IceParliament$Planner", "best", "[[I", true)
  | 13 => ("IceParliament$Planner", "odds", "[J", true)
  | _ => ("IceParliament$Planner", "later", "[J", true)
def tyX3 : Nat → FieldType := fun k => match k with
  | 0 => .array .int
  | 1 => .array .int
  | 2 => .object "IceParliament$Yard"
  | 3 => .object "IceParliament$State"
  | 4 => .array .int
  | 5 => .int
  | 6 => .array .int
  | 7 => .int
  | 8 => .array (.array .int)
  | 9 => .array .int
  | 10 => .array .int
  | 11 => .array (.array .int)
  | 12 => .array (.array .int)
  | 13 => .array .long
  | _ => .array .long
abbrev wsX30 : List Cond := u_ws RX3 TX3 15
theorem nmX3 : ∀ a, a < 15 → ∀ b, b < 15 → a ≠ b → (TX3 a).2.1 ≠ (TX3 b).2.1 := by decide +kernel
theorem tyX3_ok : ∀ k, k < 15 → parseFieldDescriptor (TX3 k).2.2.1 = some (tyX3 k) := by decide +kernel
def RX4 : String := "IceParliament$Roll"
def TX4 : u_T := fun k => match k with
  | 0 => ("IceParliament$Roll", "size", "I", false)
  | _ => ("IceParliament$Roll", "names", "[J", true)
def tyX4 : Nat → FieldType := fun k => match k with
  | 0 => .int
  | _ => .array .long
abbrev wsX40 : List Cond := u_ws RX4 TX4 2
theorem nmX4 : ∀ a, a < 2 → ∀ b, b < 2 → a ≠ b → (TX4 a).2.1 ≠ (TX4 b).2.1 := by decide +kernel
theorem tyX4_ok : ∀ k, k < 2 → parseFieldDescriptor (TX4 k).2.2.1 = some (tyX4 k) := by decide +kernel
def RX5 : String := "IceParliament$Session"
def TX5 : u_T := fun k => match k with
  | 0 => ("IceParliament$Session", "deed", "[I", true)
  | 1 => ("IceParliament$Session", "first", "[I", true)
  | 2 => ("IceParliament$Session", "second", "[I", true)
  | _ => ("IceParliament$Session", "size", "I", false)
def tyX5 : Nat → FieldType := fun k => match k with
  | 0 => .array .int
  | 1 => .array .int
  | 2 => .array .int
  | _ => .int
abbrev wsX50 : List Cond := u_ws RX5 TX5 4
theorem nmX5 : ∀ a, a < 4 → ∀ b, b < 4 → a ≠ b → (TX5 a).2.1 ≠ (TX5 b).2.1 := by decide +kernel
theorem tyX5_ok : ∀ k, k < 4 → parseFieldDescriptor (TX5 k).2.2.1 = some (tyX5 k) := by decide +kernel
def RX6 : String := "IceParliament$State"
def TX6 : u_T := fun k => match k with
  | 0 => ("IceParliament$State", "night", "I", false)
  | 1 => ("IceParliament$State", "feet", "[I", true)
  | 2 => ("IceParliament$State", "chips", "[I", true)
  | 3 => ("IceParliament$State", "props", "[I", true)
  | 4 => ("IceParliament$State", "spot", "[I", true)
  | 5 => ("IceParliament$State", "carved", "[I", true)
  | 6 => ("IceParliament$State", "told", "[I", true)
  | 7 => ("IceParliament$State", "begun", "I", false)
  | 8 => ("IceParliament$State", "fallen", "I", false)
  | 9 => ("IceParliament$State", "hurt", "I", false)
  | _ => ("IceParliament$State", "yard", "LIceParliament$Yard;", true)
def tyX6 : Nat → FieldType := fun k => match k with
  | 0 => .int
  | 1 => .array .int
  | 2 => .array .int
  | 3 => .array .int
  | 4 => .array .int
  | 5 => .array .int
  | 6 => .array .int
  | 7 => .int
  | 8 => .int
  | 9 => .int
  | _ => .object "IceParliament$Yard"
abbrev wsX60 : List Cond := u_ws RX6 TX6 11
theorem nmX6 : ∀ a, a < 11 → ∀ b, b < 11 → a ≠ b → (TX6 a).2.1 ≠ (TX6 b).2.1 := by decide +kernel
theorem tyX6_ok : ∀ k, k < 11 → parseFieldDescriptor (TX6 k).2.2.1 = some (tyX6 k) := by decide +kernel
def RX7 : String := "IceParliament$Tape"
def TX7 : u_T := fun k => match k with
  | 0 => ("IceParliament$Tape", "size", "I", false)
  | 1 => ("IceParliament$Tape", "fault", "I", false)
  | 2 => ("IceParliament$Tape", "number", "I", false)
  | 3 => ("IceParliament$Tape", "found", "I", false)
  | 4 => ("IceParliament$Tape", "signs", "[C", true)
  | 5 => ("IceParliament$Tape", "kind", "I", false)
  | 6 => ("IceParliament$Tape", "place", "I", false)
  | 7 => ("IceParliament$Tape", "next", "I", false)
  | _ => ("IceParliament$Tape", "packed", "J", false)
def tyX7 : Nat → FieldType := fun k => match k with
  | 0 => .int
  | 1 => .int
  | 2 => .int
  | 3 => .int
  | 4 => .array .char
  | 5 => .int
  | 6 => .int
  | 7 => .int
  | _ => .long
abbrev wsX70 : List Cond := u_ws RX7 TX7 9
theorem nmX7 : ∀ a, a < 9 → ∀ b, b < 9 → a ≠ b → (TX7 a).2.1 ≠ (TX7 b).2.1 := by decide +kernel
theorem tyX7_ok : ∀ k, k < 9 → parseFieldDescriptor (TX7 k).2.2.1 = some (tyX7 k) := by decide +kernel
def RX8 : String := "IceParliament$Trial"
def TX8 : u_T := fun k => match k with
  | 0 => ("IceParliament$Trial", "wrongLine", "I", false)
  | 1 => ("IceParliament$Trial", "bareNight", "I", false)
  | 2 => ("IceParliament$Trial", "worth", "I", false)
  | 3 => ("IceParliament$Trial", "gone", "I", false)
  | 4 => ("IceParliament$Trial", "hurt", "I", false)
  | 5 => ("IceParliament$Trial", "yard", "LIceParliament$Yard;", true)
  | 6 => ("IceParliament$Trial", "state", "LIceParliament$State;", true)
  | _ => ("IceParliament$Trial", "drawn", "J", false)
def tyX8 : Nat → FieldType := fun k => match k with
  | 0 => .int
  | 1 => .int
  | 2 => .int
  | 3 => .int
  | 4 => .int
  | 5 => .object "IceParliament$Yard"
  | 6 => .object "IceParliament$State"
  | _ => .long
abbrev wsX80 : List Cond := u_ws RX8 TX8 8
theorem nmX8 : ∀ a, a < 8 → ∀ b, b < 8 → a ≠ b → (TX8 a).2.1 ≠ (TX8 b).2.1 := by decide +kernel
theorem tyX8_ok : ∀ k, k < 8 → parseFieldDescriptor (TX8 k).2.2.1 = some (tyX8 k) := by decide +kernel
def RX9 : String := "IceParliament$Yard"
def TX9 : u_T := fun k => match k with
  | 0 => ("IceParliament$Yard", "spots", "LIceParliament$Roll;", true)
  | 1 => ("IceParliament$Yard", "carvers", "LIceParliament$Roll;", true)
  | 2 => ("IceParliament$Yard", "acts", "LIceParliament$Roll;", true)
  | 3 => ("IceParliament$Yard", "shade", "[I", true)
  | 4 => ("IceParliament$Yard", "side", "[I", true)
  | 5 => ("IceParliament$Yard", "skill", "[I", true)
  | 6 => ("IceParliament$Yard", "kind", "[I", true)
  | 7 => ("IceParliament$Yard", "feet", "[I", true)
  | 8 => ("IceParliament$Yard", "chips", "[I", true)
  | 9 => ("IceParliament$Yard", "worth", "[I", true)
  | 10 => ("IceParliament$Yard", "mover", "[I", true)
  | 11 => ("IceParliament$Yard", "foes", "[I", true)
  | 12 => ("IceParliament$Yard", "pairs", "I", false)
  | 13 => ("IceParliament$Yard", "warmth", "[I", true)
  | 14 => ("IceParliament$Yard", "nights", "I", false)
  | 15 => ("IceParliament$Yard", "mild", "I", false)
  | 16 => ("IceParliament$Yard", "melts", "LIceParliament$Law;", true)
  | _ => ("IceParliament$Yard", "carves", "LIceParliament$Law;", true)
def tyX9 : Nat → FieldType := fun k => match k with
  | 0 => .object "IceParliament$Roll"
  | 1 => .object "IceParliament$Roll"
  | 2 => .object "IceParliament$Roll"
  | 3 => .array .int
  | 4 => .array .int
  | 5 => .array .int
  | 6 => .array .int
  | 7 => .array .int
  | 8 => .array .int
  | 9 => .array .int
  | 10 => .array .int
  | 11 => .array .int
  | 12 => .int
  | 13 => .array .int
  | 14 => .int
  | 15 => .int
  | 16 => .object "IceParliament$Law"
  | _ => .object "IceParliament$Law"
abbrev wsX90 : List Cond := u_ws RX9 TX9 18
theorem nmX9 : ∀ a, a < 18 → ∀ b, b < 18 → a ≠ b → (TX9 a).2.1 ≠ (TX9 b).2.1 := by decide +kernel
theorem tyX9_ok : ∀ k, k < 18 → parseFieldDescriptor (TX9 k).2.2.1 = some (tyX9 k) := by decide +kernel
def RX10 : String := "IceParliament$YardReader"
def TX10 : u_T := fun k => match k with
  | 0 => ("IceParliament$YardReader", "tape", "LIceParliament$Tape;", true)
  | 1 => ("IceParliament$YardReader", "yard", "LIceParliament$Yard;", true)
  | 2 => ("IceParliament$YardReader", "laws", "LIceParliament$LawReader;", true)
  | _ => ("IceParliament$YardReader", "mildTold", "Z", false)
def tyX10 : Nat → FieldType := fun k => match k with
  | 0 => .object "IceParliament$Tape"
  | 1 => .object "IceParliament$Yard"
  | 2 => .object "IceParliament$LawReader"
  | _ => .boolean
abbrev wsX100 : List Cond := u_ws RX10 TX10 4
theorem nmX10 : ∀ a, a < 4 → ∀ b, b < 4 → a ≠ b → (TX10 a).2.1 ≠ (TX10 b).2.1 := by decide +kernel
theorem tyX10_ok : ∀ k, k < 4 → parseFieldDescriptor (TX10 k).2.2.1 = some (tyX10 k) := by decide +kernel
def RX11 : String := "IceParliament"
def TX11 : u_T := fun k => match k with
  | 0 => ("IceParliament", "tape", "LIceParliament$Tape;", true)
  | 1 => ("IceParliament", "yard", "LIceParliament$Yard;", true)
  | 2 => ("IceParliament", "draft", "LIceParliament$Yard;", true)
  | 3 => ("IceParliament", "reader", "LIceParliament$YardReader;", true)
  | 4 => ("IceParliament", "lines", "LIceParliament$Session;", true)
  | 5 => ("IceParliament", "draftLines", "LIceParliament$Session;", true)
  | 6 => ("IceParliament", "now", "LIceParliament$State;", true)
  | 7 => ("IceParliament", "past", "[LIceParliament$State;", true)
  | 8 => ("IceParliament", "undoable", "I", false)
  | 9 => ("IceParliament", "marks", "[LIceParliament$State;", true)
  | 10 => ("IceParliament", "marked", "I", false)
  | 11 => ("IceParliament", "planner", "LIceParliament$Planner;", true)
  | 12 => ("IceParliament", "breath", "LIceParliament$Breath;", true)
  | _ => ("IceParliament", "trial", "LIceParliament$Trial;", true)
def tyX11 : Nat → FieldType := fun k => match k with
  | 0 => .object "IceParliament$Tape"
  | 1 => .object "IceParliament$Yard"
  | 2 => .object "IceParliament$Yard"
  | 3 => .object "IceParliament$YardReader"
  | 4 => .object "IceParliament$Session"
  | 5 => .object "IceParliament$Session"
  | 6 => .object "IceParliament$State"
  | 7 => .array (.object "IceParliament$State")
  | 8 => .int
  | 9 => .array (.object "IceParliament$State")
  | 10 => .int
  | 11 => .object "IceParliament$Planner"
  | 12 => .object "IceParliament$Breath"
  | _ => .object "IceParliament$Trial"
abbrev wsX110 : List Cond := u_ws RX11 TX11 14
theorem nmX11 : ∀ a, a < 14 → ∀ b, b < 14 → a ≠ b → (TX11 a).2.1 ≠ (TX11 b).2.1 := by decide +kernel
theorem tyX11_ok : ∀ k, k < 14 → parseFieldDescriptor (TX11 k).2.2.1 = some (tyX11 k) := by decide +kernel
def RX12 : String := "IceParliamentModel"
def TX12 : u_T := fun k => match k with
  | 0 => ("IceParliamentModel", "thrown", "I", false)
  | 1 => ("IceParliamentModel", "tape", "[I", true)
  | 2 => ("IceParliamentModel", "taped", "I", false)
  | 3 => ("IceParliamentModel", "size", "I", false)
  | 4 => ("IceParliamentModel", "sort", "[I", true)
  | 5 => ("IceParliamentModel", "place", "[I", true)
  | 6 => ("IceParliamentModel", "value", "[J", true)
  | 7 => ("IceParliamentModel", "at", "I", false)
  | 8 => ("IceParliamentModel", "fault", "I", false)
  | 9 => ("IceParliamentModel", "words", "[J", true)
  | 10 => ("IceParliamentModel", "yards", "[I", true)
  | 11 => ("IceParliamentModel", "op", "[I", true)
  | 12 => ("IceParliamentModel", "arg", "[I", true)
  | 13 => ("IceParliamentModel", "codes", "I", false)
  | 14 => ("IceParliamentModel", "names", "[J", true)
  | 15 => ("IceParliamentModel", "readNames", "[J", true)
  | 16 => ("IceParliamentModel", "nameOf", "[I", true)
  | 17 => ("IceParliamentModel", "readNameOf", "[I", true)
  | 18 => ("IceParliamentModel", "namesMany", "I", false)
  | 19 => ("IceParliamentModel", "readMany", "I", false)
  | 20 => ("IceParliamentModel", "once", "I", false)
  | 21 => ("IceParliamentModel", "factsHere", "I", false)
  | 22 => ("IceParliamentModel", "lines", "[I", true)
  | 23 => ("IceParliamentModel", "facts", "[I", true)
  | 24 => ("IceParliamentModel", "pile", "[I", true)
  | 25 => ("IceParliamentModel", "state", "[I", true)
  | 26 => ("IceParliamentModel", "undos", "I", false)
  | 27 => ("IceParliamentModel", "isMarked", "[Z", true)
  | 28 => ("IceParliamentModel", "taker", "[I", true)
  | 29 => ("IceParliamentModel", "taken", "[I", true)
  | 30 => ("IceParliamentModel", "bestTaken", "[I", true)
  | 31 => ("IceParliamentModel", "takers", "I", false)
  | 32 => ("IceParliamentModel", "mostWorth", "I", false)
  | 33 => ("IceParliamentModel", "lasting", "[I", true)
  | 34 => ("IceParliamentModel", "spotRow", "[I", true)
  | 35 => ("IceParliamentModel", "bestSpots", "[I", true)
  | 36 => ("IceParliamentModel", "mostNights", "I", false)
  | 37 => ("IceParliamentModel", "placed", "I", false)
  | 38 => ("IceParliamentModel", "alike", "[I", true)
  | _ => ("IceParliamentModel", "g", "J", false)
def tyX12 : Nat → FieldType := fun k => match k with
  | 0 => .int
  | 1 => .array .int
  | 2 => .int
  | 3 => .int
  | 4 => .array .int
  | 5 => .array .int
  | 6 => .array .long
  | 7 => .int
  | 8 => .int
  | 9 => .array .long
  | 10 => .array .int
  | 11 => .array .int
  | 12 => .array .int
  | 13 => .int
  | 14 => .array .long
  | 15 => .array .long
  | 16 => .array .int
  | 17 => .array .int
  | 18 => .int
  | 19 => .int
  | 20 => .int
  | 21 => .int
  | 22 => .array .int
  | 23 => .array .int
  | 24 => .array .int
  | 25 => .array .int
  | 26 => .int
  | 27 => .array .boolean
  | 28 => .array .int
  | 29 => .array .int
  | 30 => .array .int
  | 31 => .int
  | 32 => .int
  | 33 => .array .int
  | 34 => .array .int
  | 35 => .array .int
  | 36 => .int
  | 37 => .int
  | 38 => .array .int
  | _ => .long
abbrev wsX120 : List Cond := u_ws RX12 TX12 40
theorem nmX12 : ∀ a, a < 40 → ∀ b, b < 40 → a ≠ b → (TX12 a).2.1 ≠ (TX12 b).2.1 := by decide +kernel
theorem tyX12_ok : ∀ k, k < 40 → parseFieldDescriptor (TX12 k).2.2.1 = some (tyX12 k) := by decide +kernel
def vwCl : List vw_C := [(RX0, TX0, 7), (RX1, TX1, 4), (RX2, TX2, 6), (RX3, TX3, 15), (RX4, TX4, 2), (RX5, TX5, 4), (RX6, TX6, 11), (RX7, TX7, 9), (RX8, TX8, 8), (RX9, TX9, 18), (RX10, TX10, 4), (RX11, TX11, 14), (RX12, TX12, 40)]
theorem inX0 : ∀ w ∈ wsX00, w ∈ lw_tbl := by decide +kernel
theorem inX1 : ∀ w ∈ wsX10, w ∈ lw_tbl := by decide +kernel
theorem inX2 : ∀ w ∈ wsX20, w ∈ lw_tbl := by decide +kernel
theorem inX3 : ∀ w ∈ wsX30, w ∈ lw_tbl := by decide +kernel
theorem inX4 : ∀ w ∈ wsX40, w ∈ lw_tbl := by decide +kernel
theorem inX5 : ∀ w ∈ wsX50, w ∈ lw_tbl := by decide +kernel
theorem inX6 : ∀ w ∈ wsX60, w ∈ lw_tbl := by decide +kernel
theorem inX7 : ∀ w ∈ wsX70, w ∈ lw_tbl := by decide +kernel
theorem inX8 : ∀ w ∈ wsX80, w ∈ lw_tbl := by decide +kernel
theorem inX9 : ∀ w ∈ wsX90, w ∈ lw_tbl := by decide +kernel
theorem inX10 : ∀ w ∈ wsX100, w ∈ lw_tbl := by decide +kernel
theorem inX11 : ∀ w ∈ wsX110, w ∈ lw_tbl := by decide +kernel
theorem inX12 : ∀ w ∈ wsX120, w ∈ lw_tbl := by decide +kernel
end
section
/-! ABSTRACT VALUES, MEMORY, CELLS. A reference is (tag, length, index): tags 0..12 objects by class number, 20 int[], 21 char[], 22 boolean[], 23 long[], 24 State[], 30.. int[][] (rows of rowL), 40 String constant, 41 its bytes, 50 an opaque reference. -/
abbrev Ref3 : Type := Nat × Nat × Nat
abbrev AV : Type := Int32 ⊕ (Int64 ⊕ Ref3)
abbrev Mem : Type := (Nat → Nat → Int32) × (Nat → Nat → Int64) × (Nat → Nat → Nat)
abbrev Res : Type := Option (Option AV × Mem)
abbrev vI (x : Int32) : AV := .inl x
abbrev vJ (x : Int64) : AV := .inr (.inl x)
abbrev vR (t n k : Nat) : AV := .inr (.inr (t, n, k))
def cv (ρ : Nat → Nat) : AV → Value
  | .inl x => .int x
  | .inr (.inl x) => .long x
  | .inr (.inr q) => .ref (ρ q.2.2)
def sI (M : Mem) (k j : Nat) (v : Int32) : Mem := (fun a b => if a = k ∧ b = j then v else M.1 a b, M.2)
def sJ (M : Mem) (k j : Nat) (v : Int64) : Mem := (M.1, fun a b => if a = k ∧ b = j then v else M.2.1 a b, M.2.2)
def sR (M : Mem) (k j : Nat) (v : Nat) : Mem := (M.1, M.2.1, fun a b => if a = k ∧ b = j then v else M.2.2 a b)
def cpI (M : Mem) (a sp b dp n : Nat) : Mem := (fun k j => if k = b then va_cpy (M.1 a) (M.1 b) sp dp n j else M.1 k j, M.2)
def cpJ (M : Mem) (a sp b dp n : Nat) : Mem := (M.1, fun k j => if k = b then va_cpy (M.2.1 a) (M.2.1 b) sp dp n j else M.2.1 k j, M.2.2)
/-- how many fields a class has -/
def clN : Nat → Nat
  | 0 => 7
  | 1 => 4
  | 2 => 6
  | 3 => 15
  | 4 => 2
  | 5 => 4
  | 6 => 11
  | 7 => 9
  | 8 => 8
  | 9 => 18
  | 10 => 4
  | 11 => 14
  | 12 => 40
  | _ => 0
/-- kinds of fields: 0 int, 1 long, 2 a fixed reference, 3 a reference that changes, 4 boolean -/
def fk : Nat → Nat → Nat
  | 0, 1 => 2
  | 0, 2 => 2
  | 0, 3 => 2
  | 0, 4 => 2
  | 0, 5 => 2
  | 0, 6 => 2
  | 1, 0 => 4
  | 1, 1 => 2
  | 1, 3 => 2
  | 2, 0 => 2
  | 2, 1 => 2
  | 2, 4 => 3
  | 2, 5 => 4
  | 3, 0 => 2
  | 3, 1 => 2
  | 3, 2 => 2
  | 3, 3 => 2
  | 3, 4 => 2
  | 3, 6 => 2
  | 3, 8 => 2
  | 3, 9 => 2
  | 3, 10 => 2
  | 3, 11 => 2
  | 3, 12 => 2
  | 3, 13 => 2
  | 3, 14 => 2
  | 4, 1 => 2
  | 5, 0 => 2
  | 5, 1 => 2
  | 5, 2 => 2
  | 6, 1 => 2
  | 6, 2 => 2
  | 6, 3 => 2
  | 6, 4 => 2
  | 6, 5 => 2
  | 6, 6 => 2
  | 6, 10 => 2
  | 7, 4 => 2
  | 7, 8 => 1
  | 8, 5 => 2
  | 8, 6 => 2
  | 8, 7 => 1
  | 9, 0 => 2
  | 9, 1 => 2
  | 9, 2 => 2
  | 9, 3 => 2
  | 9, 4 => 2
  | 9, 5 => 2
  | 9, 6 => 2
  | 9, 7 => 2
  | 9, 8 => 2
  | 9, 9 => 2
  | 9, 10 => 2
  | 9, 11 => 2
  | 9, 13 => 2
  | 9, 16 => 2
  | 9, 17 => 2
  | 10, 0 => 2
  | 10, 1 => 2
  | 10, 2 => 2
  | 10, 3 => 4
  | 11, 0 => 2
  | 11, 1 => 2
  | 11, 2 => 2
  | 11, 3 => 2
  | 11, 4 => 2
  | 11, 5 => 2
  | 11, 6 => 2
  | 11, 7 => 2
  | 11, 9 => 2
  | 11, 11 => 2
  | 11, 12 => 2
  | 11, 13 => 2
  | 12, 1 => 2
  | 12, 4 => 2
  | 12, 5 => 2
  | 12, 6 => 2
  | 12, 9 => 2
  | 12, 10 => 2
  | 12, 11 => 2
  | 12, 12 => 2
  | 12, 14 => 2
  | 12, 15 => 2
  | 12, 16 => 2
  | 12, 17 => 2
  | 12, 22 => 2
  | 12, 23 => 2
  | 12, 24 => 2
  | 12, 25 => 2
  | 12, 27 => 2
  | 12, 28 => 2
  | 12, 29 => 2
  | 12, 30 => 2
  | 12, 33 => 2
  | 12, 34 => 2
  | 12, 35 => 2
  | 12, 38 => 2
  | 12, 39 => 1
  | _, _ => 0
/-- where the fixed references of the object at k lead -/
def fp : Nat → Nat → Nat → Ref3
  | 0, 1, _ => (9, 0, 3)
  | 0, 2, _ => (6, 0, 60)
  | 0, 3, k => (20, 64, k + 1)
  | 0, 4, k => (20, 6, k + 2)
  | 0, 5, k => (20, 6, k + 3)
  | 0, 6, k => (20, 21, k + 4)
  | 1, 1, k => (20, 1000, k + 1)
  | 1, 3, k => (20, 32, k + 2)
  | 2, 0, _ => (7, 0, 1)
  | 2, 1, k => (20, 48, k + 1)
  | 3, 0, k => (20, 6, k + 1)
  | 3, 1, k => (20, 6, k + 2)
  | 3, 2, _ => (9, 0, 3)
  | 3, 3, _ => (6, 0, 60)
  | 3, 4, k => (20, 4, k + 3)
  | 3, 6, k => (20, 6, k + 4)
  | 3, 8, k => (30, 6, k + 5)
  | 3, 9, k => (20, 4, k + 12)
  | 3, 10, k => (20, 7, k + 13)
  | 3, 11, k => (31, 6, k + 14)
  | 3, 12, k => (32, 7, k + 21)
  | 3, 13, k => (23, 21, k + 29)
  | 3, 14, k => (23, 21, k + 30)
  | 4, 1, k => (23, 6, k + 1)
  | 5, 0, k => (20, 40, k + 1)
  | 5, 1, k => (20, 40, k + 2)
  | 5, 2, k => (20, 40, k + 3)
  | 6, 1, k => (20, 6, k + 1)
  | 6, 2, k => (20, 6, k + 2)
  | 6, 3, k => (20, 6, k + 3)
  | 6, 4, k => (20, 6, k + 4)
  | 6, 5, k => (20, 6, k + 5)
  | 6, 6, k => (20, 6, k + 6)
  | 6, 10, _ => (9, 0, 3)
  | 7, 4, k => (21, 1000, k + 1)
  | 8, 5, _ => (9, 0, 3)
  | 8, 6, _ => (6, 0, 106)
  | 9, 0, k => (4, 0, k + 1)
  | 9, 1, k => (4, 0, k + 3)
  | 9, 2, k => (4, 0, k + 5)
  | 9, 3, k => (20, 6, k + 7)
  | 9, 4, k => (20, 6, k + 8)
  | 9, 5, k => (20, 6, k + 9)
  | 9, 6, k => (20, 6, k + 10)
  | 9, 7, k => (20, 6, k + 11)
  | 9, 8, k => (20, 6, k + 12)
  | 9, 9, k => (20, 6, k + 13)
  | 9, 10, k => (20, 6, k + 14)
  | 9, 11, k => (20, 6, k + 15)
  | 9, 13, k => (20, 14, k + 16)
  | 9, 16, k => (1, 0, k + 17)
  | 9, 17, k => (1, 0, k + 20)
  | 10, 0, _ => (7, 0, 1)
  | 10, 1, _ => (9, 0, 26)
  | 10, 2, _ => (2, 0, 50)
  | 11, 0, _ => (7, 0, 1)
  | 11, 1, _ => (9, 0, 3)
  | 11, 2, _ => (9, 0, 26)
  | 11, 3, _ => (10, 0, 49)
  | 11, 4, _ => (5, 0, 52)
  | 11, 5, _ => (5, 0, 56)
  | 11, 6, _ => (6, 0, 60)
  | 11, 7, _ => (24, 16, 67)
  | 11, 9, _ => (24, 4, 68)
  | 11, 11, _ => (3, 0, 69)
  | 11, 12, _ => (0, 0, 100)
  | 11, 13, _ => (8, 0, 105)
  | 12, 1, k => (20, 1000, k + 1)
  | 12, 4, k => (20, 1002, k + 2)
  | 12, 5, k => (20, 1002, k + 3)
  | 12, 6, k => (23, 1002, k + 4)
  | 12, 9, k => (23, 33, k + 5)
  | 12, 10, k => (20, 220, k + 6)
  | 12, 11, k => (20, 2200, k + 7)
  | 12, 12, k => (20, 2200, k + 8)
  | 12, 14, k => (23, 18, k + 9)
  | 12, 15, k => (23, 18, k + 10)
  | 12, 16, k => (20, 18, k + 11)
  | 12, 17, k => (20, 18, k + 12)
  | 12, 22, k => (20, 250, k + 13)
  | 12, 23, k => (20, 5, k + 14)
  | 12, 24, k => (20, 1100, k + 15)
  | 12, 25, k => (20, 1127, k + 16)
  | 12, 27, k => (22, 4, k + 17)
  | 12, 28, k => (20, 4, k + 18)
  | 12, 29, k => (20, 4, k + 19)
  | 12, 30, k => (20, 4, k + 20)
  | 12, 33, k => (20, 36, k + 21)
  | 12, 34, k => (20, 6, k + 22)
  | 12, 35, k => (20, 6, k + 23)
  | 12, 38, k => (20, 21, k + 24)
  | _, _, _ => (0, 0, 0)
/-- what a changing reference is of -/
def fm : Nat → Nat → Nat × Nat
  | 2, 4 => (1, 0)
  | _, _ => (0, 0)
def rowL : Nat → Nat
  | 30 => 16
  | 31 => 6
  | 32 => 64
  | _ => 0
def clR : Nat → String
  | 0 => RX0
  | 1 => RX1
  | 2 => RX2
  | 3 => RX3
  | 4 => RX4
  | 5 => RX5
  | 6 => RX6
  | 7 => RX7
  | 8 => RX8
  | 9 => RX9
  | 10 => RX10
  | 11 => RX11
  | 12 => RX12
  | _ => ""
def clT : Nat → u_T
  | 0 => TX0
  | 1 => TX1
  | 2 => TX2
  | 3 => TX3
  | 4 => TX4
  | 5 => TX5
  | 6 => TX6
  | 7 => TX7
  | 8 => TX8
  | 9 => TX9
  | 10 => TX10
  | 11 => TX11
  | 12 => TX12
  | _ => fun _ => ("", "", "", false)
def clY : Nat → Nat → FieldType
  | 0 => tyX0
  | 1 => tyX1
  | 2 => tyX2
  | 3 => tyX3
  | 4 => tyX4
  | 5 => tyX5
  | 6 => tyX6
  | 7 => tyX7
  | 8 => tyX8
  | 9 => tyX9
  | 10 => tyX10
  | 11 => tyX11
  | 12 => tyX12
  | _ => fun _ => .int
theorem cl_at : ∀ t, t < 13 → vwCl[t]? = some (clR t, clT t, clN t)
  | 0, _ => rfl
  | 1, _ => rfl
  | 2, _ => rfl
  | 3, _ => rfl
  | 4, _ => rfl
  | 5, _ => rfl
  | 6, _ => rfl
  | 7, _ => rfl
  | 8, _ => rfl
  | 9, _ => rfl
  | 10, _ => rfl
  | 11, _ => rfl
  | 12, _ => rfl
  | t + 13, h => absurd h (by omega)
theorem cl_in : ∀ t, t < 13 → ∀ w ∈ u_ws (clR t) (clT t) (clN t), w ∈ lw_tbl
  | 0, _ => inX0
  | 1, _ => inX1
  | 2, _ => inX2
  | 3, _ => inX3
  | 4, _ => inX4
  | 5, _ => inX5
  | 6, _ => inX6
  | 7, _ => inX7
  | 8, _ => inX8
  | 9, _ => inX9
  | 10, _ => inX10
  | 11, _ => inX11
  | 12, _ => inX12
  | t + 13, h => absurd h (by omega)
theorem cl_ty : ∀ t, t < 13 → ∀ k, k < clN t → parseFieldDescriptor ((clT t) k).2.2.1 = some (clY t k)
  | 0, _ => tyX0_ok
  | 1, _ => tyX1_ok
  | 2, _ => tyX2_ok
  | 3, _ => tyX3_ok
  | 4, _ => tyX4_ok
  | 5, _ => tyX5_ok
  | 6, _ => tyX6_ok
  | 7, _ => tyX7_ok
  | 8, _ => tyX8_ok
  | 9, _ => tyX9_ok
  | 10, _ => tyX10_ok
  | 11, _ => tyX11_ok
  | 12, _ => tyX12_ok
  | t + 13, h => absurd h (by omega)
theorem cl_nm : ∀ t, t < 13 → ∀ a, a < clN t → ∀ b, b < clN t → a ≠ b → ((clT t) a).2.1 ≠ ((clT t) b).2.1
  | 0, _ => nmX0
  | 1, _ => nmX1
  | 2, _ => nmX2
  | 3, _ => nmX3
  | 4, _ => nmX4
  | 5, _ => nmX5
  | 6, _ => nmX6
  | 7, _ => nmX7
  | 8, _ => nmX8
  | 9, _ => nmX9
  | 10, _ => nmX10
  | 11, _ => nmX11
  | 12, _ => nmX12
  | t + 13, h => absurd h (by omega)
def fv (ρ : Nat → Nat) (M : Mem) (t k j : Nat) : Value :=
  if fk t j = 1 then .long (M.2.1 k j) else if fk t j = 2 then .ref (ρ (fp t j k).2.2) else if fk t j = 3 then .ref (ρ (M.2.2 k j)) else .int (M.1 k j)
def fvs (ρ : Nat → Nat) (M : Mem) (t k : Nat) : List Value := (List.range (clN t)).map (fv ρ M t k)
def aC (ρ : Nat → Nat) (M : Mem) (q : Ref3) : vp_A :=
  (q.2.1, if q.1 = 23 then .inr (.inl (M.2.1 q.2.2)) else if q.1 = 24 then .inr (.inr (.inr (.inr (fun j => some (ρ (M.2.2 q.2.2 j)))))) else if 30 ≤ q.1 then .inr (.inr (.inr (.inr (fun j => some (ρ (q.2.2 + 1 + j)))))) else .inl (M.1 q.2.2))
def aT (t : Nat) : Nat := if 30 ≤ t then 25 else t
def ce (ρ : Nat → Nat) (cA : Nat → ClassId) (M : Mem) (q : Ref3) : va_E := if q.1 < 13 then .inr (q.1, fvs ρ M q.1 q.2.2) else .inl (cA (aT q.1), aC ρ M q)
def wsOf (ρ : Nat → Nat) (cA : Nat → ClassId) (M : Mem) (w : List Ref3) : va_W := w.map (fun q => (ρ q.2.2, ce ρ cA M q))
def tysOf (cA : Nat → ClassId) : List (ClassId × FieldType) := [(cA 20, .int), (cA 21, .char), (cA 22, .boolean), (cA 23, .long), (cA 24, .object "IceParliament$State"), (cA 25, .array .int)]
/-- the world is closed: fixed references lead into it -/
def Clo (w : List Ref3) : Prop := (∀ q ∈ w, q.1 < 13 → ∀ j, j < clN q.1 → fk q.1 j = 2 → fp q.1 j q.2.2 ∈ w) ∧ ∀ q ∈ w, 30 ≤ q.1 → ∀ j, j < q.2.1 → (20, rowL q.1, q.2.2 + 1 + j) ∈ w
/-- the changing references lead into it -/
def MOK (w : List Ref3) (M : Mem) : Prop := (∀ q ∈ w, q.1 < 13 → ∀ j, j < clN q.1 → fk q.1 j = 3 → ((fm q.1 j).1, (fm q.1 j).2, M.2.2 q.2.2 j) ∈ w) ∧ ∀ q ∈ w, q.1 = 24 → ∀ j, j < q.2.1 → ((6, 0, M.2.2 q.2.2 j) : Ref3) ∈ w
theorem wsOf_at {ρ : Nat → Nat} {cA : Nat → ClassId} {M : Mem} {w : List Ref3} {p : Nat} {q : Ref3} (h : w[p]? = some q) : (wsOf ρ cA M w)[p]? = some (ρ q.2.2, ce ρ cA M q) := by
  simp [wsOf, h]
theorem va_D_wsOf {A : Nat → Prop} {ρ : Nat → Nat} {cA : Nat → ClassId} {M M' : Mem} {w : List Ref3} (h : va_D A (wsOf ρ cA M w)) : va_D A (wsOf ρ cA M' w) := by
  have key : ∀ (i : Nat) (x : Nat × va_E), (wsOf ρ cA M' w)[i]? = some x → ∃ y, (wsOf ρ cA M w)[i]? = some y ∧ y.1 = x.1 := by
    intro i x hx
    simp only [wsOf, List.getElem?_map] at hx ⊢
    cases hq : w[i]? with
    | none => rw [hq] at hx; cases hx
    | some q => rw [hq] at hx; cases hx; exact ⟨_, rfl, rfl⟩
  refine ⟨fun i j x y hi hj e => ?_, fun i x hi => ?_⟩
  · obtain ⟨x', h1, h2⟩ := key i x hi
    obtain ⟨y', h3, h4⟩ := key j y hj
    exact h.1 i j x' y' h1 h3 (h2.trans (e.trans h4.symm))
  · obtain ⟨x', h1, h2⟩ := key i x hi
    rw [← h2]; exact h.2 i x' h1
theorem wsOf_apart {A : Nat → Prop} {ρ : Nat → Nat} {cA : Nat → ClassId} {M : Mem} {w : List Ref3} (h : va_D A (wsOf ρ cA M w)) {i j : Nat} {a b : Ref3} (hi : w[i]? = some a) (hj : w[j]? = some b) (e : a.2.2 = b.2.2) : i = j :=
  h.1 i j _ _ (wsOf_at hi) (wsOf_at hj) (by rw [e])
/-- one cell is written -/
theorem wsOf_set {A : Nat → Prop} {ρ : Nat → Nat} {cA : Nat → ClassId} {M M' : Mem} {w : List Ref3} {p : Nat} {q : Ref3} {e : va_E} (hD : va_D A (wsOf ρ cA M w)) (hp : w[p]? = some q) (he : ce ρ cA M' q = e) (ho : ∀ q' : Ref3, q'.2.2 ≠ q.2.2 → ce ρ cA M' q' = ce ρ cA M q') : (wsOf ρ cA M w).set p (ρ q.2.2, e) = wsOf ρ cA M' w := by
  apply List.ext_getElem?
  intro i
  have hl : p < w.length := (List.getElem?_eq_some_iff.mp hp).1
  by_cases hip : p = i
  · subst hip
    rw [List.getElem?_set_self (by simpa [wsOf] using hl), wsOf_at hp, he]
  · rw [List.getElem?_set_ne hip]
    simp only [wsOf, List.getElem?_map]
    cases hq : w[i]? with
    | none => rfl
    | some q' =>
      have : q'.2.2 ≠ q.2.2 := fun z => hip (wsOf_apart hD hq hp z).symm
      simp [ho q' this]
theorem ce_congr {ρ : Nat → Nat} {cA : Nat → ClassId} {M M' : Mem} {q : Ref3} (e1 : M'.1 q.2.2 = M.1 q.2.2) (e2 : M'.2.1 q.2.2 = M.2.1 q.2.2) (e3 : M'.2.2 q.2.2 = M.2.2 q.2.2) : ce ρ cA M' q = ce ρ cA M q := by
  have h : fv ρ M' q.1 q.2.2 = fv ρ M q.1 q.2.2 := by funext j; simp only [fv, e1, e2, e3]
  simp only [ce, fvs, aC, h, e1, e2, e3]
theorem ce_sI_ne {ρ : Nat → Nat} {cA : Nat → ClassId} {M : Mem} {k j : Nat} {v : Int32} {q : Ref3} (h : q.2.2 ≠ k) : ce ρ cA (sI M k j v) q = ce ρ cA M q :=
  ce_congr (by funext b; simp [sI, h]) rfl rfl
theorem ce_sJ_ne {ρ : Nat → Nat} {cA : Nat → ClassId} {M : Mem} {k j : Nat} {v : Int64} {q : Ref3} (h : q.2.2 ≠ k) : ce ρ cA (sJ M k j v) q = ce ρ cA M q :=
  ce_congr rfl (by funext b; simp [sJ, h]) rfl
theorem ce_sR_ne {ρ : Nat → Nat} {cA : Nat → ClassId} {M : Mem} {k j : Nat} {v : Nat} {q : Ref3} (h : q.2.2 ≠ k) : ce ρ cA (sR M k j v) q = ce ρ cA M q :=
  ce_congr rfl rfl (by funext b; simp [sR, h])
theorem ce_cpI_ne {ρ : Nat → Nat} {cA : Nat → ClassId} {M : Mem} {a sp k dp n : Nat} {q : Ref3} (h : q.2.2 ≠ k) : ce ρ cA (cpI M a sp k dp n) q = ce ρ cA M q :=
  ce_congr (by funext b; simp [cpI, h]) rfl rfl
theorem ce_cpJ_ne {ρ : Nat → Nat} {cA : Nat → ClassId} {M : Mem} {a sp k dp n : Nat} {q : Ref3} (h : q.2.2 ≠ k) : ce ρ cA (cpJ M a sp k dp n) q = ce ρ cA M q :=
  ce_congr rfl (by funext b; simp [cpJ, h]) rfl
theorem fvs_at {ρ : Nat → Nat} {M : Mem} {t k j : Nat} (h : j < clN t) : (fvs ρ M t k)[j]? = some (fv ρ M t k j) := by
  simp [fvs, h]
theorem fvs_set {ρ : Nat → Nat} {M M' : Mem} {t k j : Nat} {v : Value} (hv : fv ρ M' t k j = v) (ho : ∀ i, i ≠ j → fv ρ M' t k i = fv ρ M t k i) : (fvs ρ M t k).set j v = fvs ρ M' t k := by
  apply List.ext_getElem?
  intro i
  by_cases hj : j = i
  · subst hj
    by_cases hl : j < clN t
    · rw [List.getElem?_set_self (by simpa [fvs] using hl), fvs_at hl, hv]
    · rw [List.getElem?_eq_none (by simp [fvs]; omega), List.getElem?_eq_none (by simp [fvs]; omega)]
  · rw [List.getElem?_set_ne hj]
    simp only [fvs, List.getElem?_map]
    cases hq : (List.range (clN t))[i]? with
    | none => rfl
    | some x =>
      have : x = i := by
        have h2 := (List.getElem?_eq_some_iff.mp hq)
        obtain ⟨h3, h4⟩ := h2
        simpa using h4.symm
      subst this
      simp [ho x (fun z => hj z.symm)]
theorem MOK_sI {w : List Ref3} {M : Mem} {k j : Nat} {v : Int32} (h : MOK w M) : MOK w (sI M k j v) := h
theorem MOK_sJ {w : List Ref3} {M : Mem} {k j : Nat} {v : Int64} (h : MOK w M) : MOK w (sJ M k j v) := h
theorem MOK_cpI {w : List Ref3} {M : Mem} {a sp k dp n : Nat} (h : MOK w M) : MOK w (cpI M a sp k dp n) := h
theorem MOK_cpJ {w : List Ref3} {M : Mem} {a sp k dp n : Nat} (h : MOK w M) : MOK w (cpJ M a sp k dp n) := h
theorem upd_row {M : Mem} {k j : Nat} {v : Int32} : (sI M k j v).1 k = upd (M.1 k) j v := by
  funext b; simp [sI, upd]
theorem updL_row {M : Mem} {k j : Nat} {v : Int64} : (sJ M k j v).2.1 k = vp_updL (M.2.1 k) j v := by
  funext b; simp [sJ, vp_updL]
end
section
/-! THE ABSTRACT EVALUATOR: straight stretches by stepK, loops by back, calls by call. -/
abbrev Ent : Type := Instr × Nat × Nat × Nat × Nat × Int32 × Int64
abbrev Lv : Type := List (Option AV)
abbrev SB : Nat := 10000
abbrev SV : Nat := 20000
abbrev SF0 : Nat := 30000
def lkE : List (Nat × Ent) → Nat → Option Ent
  | [], _ => none
  | (p, e) :: t, pc => match Nat.beq p pc with
    | true => some e
    | false => lkE t pc
def lvat : Lv → Nat → Option AV
  | [], _ => none
  | a :: _, 0 => a
  | _ :: t, n + 1 => lvat t n
def lst : Lv → Nat → Option AV → Lv
  | [], _, _ => []
  | _ :: t, 0, v => v :: t
  | a :: t, n + 1, v => a :: lst t n v
def isJ : Option AV → Bool
  | some (.inr (.inl _)) => true
  | _ => false
def stl (lv : Lv) (i : Nat) (v : AV) : Lv := match i with
  | 0 => lst lv 0 (some v)
  | j + 1 => match isJ (lvat lv j) with
    | true => lst (lst lv j none) (j + 1) (some v)
    | false => lst lv (j + 1) (some v)
def stl2 (lv : Lv) (i : Nat) (v : AV) : Lv := lst (stl lv i v) (i + 1) none
def catS : List AV → Nat
  | [] => 0
  | .inl _ :: t => catS t + 1
  | .inr (.inl _) :: t => catS t + 2
  | .inr (.inr _) :: t => catS t + 1
def popA : Nat → List AV → List AV → Option (List AV × List AV)
  | 0, acc, st => some (acc, st)
  | _ + 1, _, [] => none
  | n + 1, acc, v :: st => popA n (v :: acc) st
def cVd (r : Res) (f : Mem → Res) : Res := match r with
  | some (none, M) => f M
  | _ => none
def cIn (r : Res) (f : Int32 → Mem → Res) : Res := match r with
  | some (some (.inl v), M) => f v M
  | _ => none
def cLo (r : Res) (f : Int64 → Mem → Res) : Res := match r with
  | some (some (.inr (.inl v)), M) => f v M
  | _ => none
/-- a choice that no evaluation opens -/
noncomputable def ic (P : Prop) (A B : Res) : Res := @ite Res P (Classical.propDecidable P) A B
noncomputable def swk (v : Int32) (f : Int → Res) (d : Int) : Int → List Int → Res
  | _, [] => f d
  | lo, o :: os => ic (v = Int32.ofInt lo) (f o) (swk v f d (lo + 1) os)
/-- the String constants, as bytes -/
def strT : List (List Int32) := [[40, 41, 60, 61, 43, 45, 42, 59], [115, 112, 111, 116], [115, 112, 111, 116, 32, 115, 104, 97, 100, 101, 32, 99, 97, 114, 118, 101, 114, 32, 115, 107, 105, 108, 108, 32, 97, 99, 116, 32, 102, 101, 101, 116, 32, 99, 104, 105, 112, 115, 32, 119, 111, 114, 116, 104, 32, 98, 121, 32, 99, 108, 97, 115, 104, 32, 110, 105, 103, 104, 116, 115, 32, 109, 105, 108, 100, 32, 109, 101, 108, 116, 115, 32, 99, 97, 114, 118, 101, 115, 32, 98, 101, 103, 105, 110, 32, 99, 97, 114, 118, 101, 32, 112, 114, 111, 112, 32, 116, 111, 114, 99, 104, 32, 110, 105, 103, 104, 116, 32, 97, 121, 101, 115, 32, 110, 111, 101, 115, 32, 112, 108, 97, 105, 110, 32, 104, 111, 108, 108, 111, 119, 32, 116, 104, 105, 110, 32, 111, 108, 100, 32, 110, 111, 116, 32, 97, 110, 100, 32, 111, 114, 32], [115, 104, 97, 100, 101], [99, 97, 114, 118, 101, 114], [110, 111, 101, 115], [97, 121, 101, 115], [115, 107, 105, 108, 108], [97, 99, 116], [112, 108, 97, 105, 110], [104, 111, 108, 108, 111, 119], [116, 104, 105, 110], [111, 108, 100], [102, 101, 101, 116], [99, 104, 105, 112, 115], [119, 111, 114, 116, 104], [98, 121], [99, 108, 97, 115, 104], [110, 105, 103, 104, 116, 115], [109, 105, 108, 100], [109, 101, 108, 116, 115], [110, 111, 116], [119, 97, 114, 109, 116, 104], [97, 98, 108, 101], [100, 97, 114, 107], [116, 97, 108, 108], [100, 111, 110, 101], [97, 110, 100], [111, 114], [99, 97, 114, 118, 101, 115], [98, 101, 103, 105, 110], [99, 97, 114, 118, 101], [112, 114, 111, 112], [116, 111, 114, 99, 104], [110, 105, 103, 104, 116]]
def strL (i : Nat) : Nat := (strT.getD i []).length
def strB (i j : Nat) : Int32 := (strT.getD i []).getD j 0
/-- which constant of which class is which String -/
def strW : List (String × Nat × String × Nat) := [("IceParliament$Tape", 37, "()<=+-*;", 0), ("IceParliament$YardReader", 57, "spot", 1), ("IceParliament$Tape", 62, "spot shade carver skill act feet chips worth by clash nights mild melts carves begin carve prop torch night ayes noes plain hollow thin old not and or ", 2), ("IceParliament$YardReader", 117, "shade", 3), ("IceParliament$YardReader", 66, "carver", 4), ("IceParliament$YardReader", 176, "noes", 5), ("IceParliament$YardReader", 178, "ayes", 6), ("IceParliament$YardReader", 136, "skill", 7), ("IceParliament$YardReader", 71, "act", 8), ("IceParliament$YardReader", 183, "plain", 9), ("IceParliament$YardReader", 188, "hollow", 10), ("IceParliament$YardReader", 190, "thin", 11), ("IceParliament$YardReader", 192, "old", 12), ("IceParliament$YardReader", 146, "feet", 13), ("IceParliament$YardReader", 150, "chips", 14), ("IceParliament$YardReader", 154, "worth", 15), ("IceParliament$YardReader", 158, "by", 16), ("IceParliament$YardReader", 76, "clash", 17), ("IceParliament$YardReader", 81, "nights", 18), ("IceParliament$YardReader", 86, "mild", 19), ("IceParliament$YardReader", 91, "melts", 20), ("IceParliament$LawReader", 71, "not", 21), ("IceParliament$LawReader", 100, "warmth", 22), ("IceParliament$LawReader", 102, "able", 23), ("IceParliament$LawReader", 104, "dark", 24), ("IceParliament$LawReader", 106, "tall", 25), ("IceParliament$LawReader", 108, "done", 26), ("IceParliament$LawReader", 113, "and", 27), ("IceParliament$LawReader", 115, "or", 28), ("IceParliament$YardReader", 96, "carves", 29), ("IceParliament$Session", 69, "begin", 30), ("IceParliament$Session", 75, "carve", 31), ("IceParliament$Session", 77, "prop", 32), ("IceParliament$Session", 79, "torch", 33), ("IceParliament$Session", 81, "night", 34)]
/-- the nest mates' links to has -/
def nestW : List (String × Nat) := [("IceParliament$YardReader", 209), ("IceParliament$State", 69), ("IceParliament$Yard", 134), ("IceParliament$Planner", 118)]
def y_has : MethodName := ⟨"IceParliament", "has", "(II)Z"⟩
section EVI
variable (call : Nat → List AV → Mem → Res) (back : Nat → Lv → Mem → Res) (k : Nat → Lv → List AV → Mem → Res)
def jmp (pc tgt : Nat) (lv : Lv) (st : List AV) (M : Mem) : Res := match Nat.ble tgt pc with
  | true => (match st with
    | [] => back tgt lv M
    | _ => none)
  | false => k tgt lv st M
def ib (f : Int32 → Int32 → Int32) (n : Nat) (lv : Lv) (st : List AV) (M : Mem) : Res := match st with
  | .inl b :: .inl a :: st => k n lv (.inl (f a b) :: st) M
  | _ => none
def jb (f : Int64 → Int64 → Int64) (n : Nat) (lv : Lv) (st : List AV) (M : Mem) : Res := match st with
  | .inr (.inl b) :: .inr (.inl a) :: st => k n lv (.inr (.inl (f a b)) :: st) M
  | _ => none
noncomputable def cIc (c : ClassFile.Cond) (pc n tgt : Nat) (lv : Lv) (a b : Int32) (st : List AV) (M : Mem) : Res := match c with
  | .eq => ic (a = b) (jmp back k pc tgt lv st M) (k n lv st M)
  | .ne => ic (a = b) (k n lv st M) (jmp back k pc tgt lv st M)
  | .lt => ic (a < b) (jmp back k pc tgt lv st M) (k n lv st M)
  | .ge => ic (a < b) (k n lv st M) (jmp back k pc tgt lv st M)
  | .gt => ic (b < a) (jmp back k pc tgt lv st M) (k n lv st M)
  | .le => ic (b < a) (k n lv st M) (jmp back k pc tgt lv st M)
def gf (x y : Nat) (q : Ref3) (M : Mem) : AV := match fk x y with
  | 1 => .inr (.inl (M.2.1 q.2.2 y))
  | 2 => .inr (.inr (fp x y q.2.2))
  | 3 => .inr (.inr ((fm x y).1, (fm x y).2, M.2.2 q.2.2 y))
  | _ => .inl (M.1 q.2.2 y)
def gfK (n x y : Nat) (lv : Lv) (st : List AV) (M : Mem) : Res := match st with
  | .inr (.inr q) :: st => (match Nat.beq q.1 x with
    | true => (match Nat.beq q.1 40 with
      | true => (match y with
        | 0 => k n lv (.inr (.inr (41, strL q.2.1, SV + q.2.1)) :: st) M
        | _ => k n lv (.inl 0 :: st) M)
      | false => k n lv (gf x y q M :: st) M)
    | false => none)
  | _ => none
noncomputable def pfK (n x y : Nat) (lv : Lv) (st : List AV) (M : Mem) : Res := match st with
  | v :: .inr (.inr q) :: st => (match Nat.beq q.1 x with
    | true => (match fk x y, v with
      | 0, .inl v => k n lv st (sI M q.2.2 y v)
      | 4, .inl v => ic (v &&& 1 = v) (k n lv st (sI M q.2.2 y v)) none
      | 1, .inr (.inl v) => k n lv st (sJ M q.2.2 y v)
      | 3, .inr (.inr r) => (match Nat.beq r.1 (fm x y).1, Nat.beq r.2.1 (fm x y).2 with
        | true, true => k n lv st (sR M q.2.2 y r.2.2)
        | _, _ => none)
      | _, _ => none)
    | false => none)
  | _ => none
/-- an element is read: of an array of the tag t0 -/
noncomputable def alK (t0 : Nat) (f : Mem → Ref3 → Nat → AV) (n : Nat) (lv : Lv) (st : List AV) (M : Mem) : Res := match st with
  | .inl i :: .inr (.inr q) :: st => (match Nat.beq q.1 t0 with
    | true => ic (i < 0 ∨ q.2.1 ≤ i.toNatClampNeg) none (k n lv (f M q i.toNatClampNeg :: st) M)
    | false => none)
  | _ => none
noncomputable def asK (t0 : Nat) (f : Int32 → Int32) (n : Nat) (lv : Lv) (st : List AV) (M : Mem) : Res := match st with
  | .inl v :: .inl i :: .inr (.inr q) :: st => (match Nat.beq q.1 t0 with
    | true => ic (i < 0 ∨ q.2.1 ≤ i.toNatClampNeg) none (k n lv st (sI M q.2.2 i.toNatClampNeg (f v)))
    | false => none)
  | _ => none
noncomputable def cpK (n : Nat) (lv : Lv) (st : List AV) (M : Mem) : Res := match st with
  | .inl c :: .inl dp :: .inr (.inr b) :: .inl sp :: .inr (.inr a) :: st =>
    ic (sp < 0 ∨ dp < 0 ∨ c < 0 ∨ a.2.1 < sp.toNatClampNeg + c.toNatClampNeg ∨ b.2.1 < dp.toNatClampNeg + c.toNatClampNeg) none
    (match Nat.ble (catS st) 8, a.1, b.1 with
    | true, 20, 20 => k n lv st (cpI M a.2.2 sp.toNatClampNeg b.2.2 dp.toNatClampNeg c.toNatClampNeg)
    | true, 23, 23 => k n lv st (cpJ M a.2.2 sp.toNatClampNeg b.2.2 dp.toNatClampNeg c.toNatClampNeg)
    | _, _, _ => none)
  | _ => none
def invK (n x y z : Nat) (lv : Lv) (st : List AV) (M : Mem) : Res := match popA y [] st with
  | some (as, st) => (match Nat.ble (catS st) 8 with
    | true => (match z with
      | 0 => cVd (call x as M) (fun M => k n lv st M)
      | 1 => cIn (call x as M) (fun v M => k n lv (.inl v :: st) M)
      | 2 => cLo (call x as M) (fun v M => k n lv (.inr (.inl v) :: st) M)
      | _ => none)
    | false => none)
  | none => none
noncomputable def stepK (e : Ent) (pc : Nat) (lv : Lv) (st : List AV) (M : Mem) : Res := match e with
  | (i, len, x, y, z, cI, cJ) => match i with
    | .iconst _ => k (pc + len) lv (.inl cI :: st) M
    | .bipush _ => k (pc + len) lv (.inl cI :: st) M
    | .sipush _ => k (pc + len) lv (.inl cI :: st) M
    | .ldc _ => (match z with
      | 0 => k (pc + len) lv (.inl cI :: st) M
      | _ => k (pc + len) lv (.inr (.inr (40, y, SB + y)) :: st) M)
    | .ldc_w _ => k (pc + len) lv (.inl cI :: st) M
    | .ldc2_w _ => k (pc + len) lv (.inr (.inl cJ) :: st) M
    | .lconst _ => k (pc + len) lv (.inr (.inl cJ) :: st) M
    | .getstatic _ => (match z with
      | 0 => k (pc + len) lv (.inl 1 :: st) M
      | _ => k (pc + len) lv (.inr (.inr (50, 0, SF0)) :: st) M)
    | .iload_n _ => (match lvat lv x with
      | some (.inl v) => k (pc + len) lv (.inl v :: st) M
      | _ => none)
    | .iload _ => (match lvat lv x with
      | some (.inl v) => k (pc + len) lv (.inl v :: st) M
      | _ => none)
    | .lload_n _ => (match lvat lv x with
      | some (.inr (.inl v)) => k (pc + len) lv (.inr (.inl v) :: st) M
      | _ => none)
    | .lload _ => (match lvat lv x with
      | some (.inr (.inl v)) => k (pc + len) lv (.inr (.inl v) :: st) M
      | _ => none)
    | .aload_n _ => (match lvat lv x with
      | some (.inr (.inr v)) => k (pc + len) lv (.inr (.inr v) :: st) M
      | _ => none)
    | .aload _ => (match lvat lv x with
      | some (.inr (.inr v)) => k (pc + len) lv (.inr (.inr v) :: st) M
      | _ => none)
    | .istore_n _ => (match st with
      | .inl v :: st => k (pc + len) (stl lv x (.inl v)) st M
      | _ => none)
    | .istore _ => (match st with
      | .inl v :: st => k (pc + len) (stl lv x (.inl v)) st M
      | _ => none)
    | .astore_n _ => (match st with
      | .inr (.inr v) :: st => k (pc + len) (stl lv x (.inr (.inr v))) st M
      | _ => none)
    | .astore _ => (match st with
      | .inr (.inr v) :: st => k (pc + len) (stl lv x (.inr (.inr v))) st M
      | _ => none)
    | .lstore_n _ => (match st with
      | .inr (.inl v) :: st => k (pc + len) (stl2 lv x (.inr (.inl v))) st M
      | _ => none)
    | .lstore _ => (match st with
      | .inr (.inl v) :: st => k (pc + len) (stl2 lv x (.inr (.inl v))) st M
      | _ => none)
    | .iinc _ _ => (match lvat lv x with
      | some (.inl v) => k (pc + len) (stl lv x (.inl (v + cI))) st M
      | _ => none)
    | .iadd => ib k (fun a b => a + b) (pc + len) lv st M
    | .isub => ib k (fun a b => a - b) (pc + len) lv st M
    | .imul => ib k (fun a b => a * b) (pc + len) lv st M
    | .iand => ib k (fun a b => a &&& b) (pc + len) lv st M
    | .ior => ib k (fun a b => a ||| b) (pc + len) lv st M
    | .ixor => ib k (fun a b => a ^^^ b) (pc + len) lv st M
    | .ishl => ib k (fun a b => a <<< (b &&& 31)) (pc + len) lv st M
    | .ishr => ib k (fun a b => a >>> (b &&& 31)) (pc + len) lv st M
    | .iushr => ib k (fun a b => (a.toUInt32 >>> (b.toUInt32 &&& Int32.toUInt32 31)).toInt32) (pc + len) lv st M
    | .idiv => (match st with
      | .inl b :: .inl a :: st => ic (b = 0) none (k (pc + len) lv (.inl (a / b) :: st) M)
      | _ => none)
    | .irem => (match st with
      | .inl b :: .inl a :: st => ic (b = 0) none (k (pc + len) lv (.inl (a - a / b * b) :: st) M)
      | _ => none)
    | .ineg => (match st with
      | .inl a :: st => k (pc + len) lv (.inl (-a) :: st) M
      | _ => none)
    | .ladd => jb k (fun a b => a + b) (pc + len) lv st M
    | .lsub => jb k (fun a b => a - b) (pc + len) lv st M
    | .lmul => jb k (fun a b => a * b) (pc + len) lv st M
    | .land => jb k (fun a b => a &&& b) (pc + len) lv st M
    | .lor => jb k (fun a b => a ||| b) (pc + len) lv st M
    | .ldiv => (match st with
      | .inr (.inl b) :: .inr (.inl a) :: st => ic (b = 0) none (k (pc + len) lv (.inr (.inl (a / b)) :: st) M)
      | _ => none)
    | .lrem => (match st with
      | .inr (.inl b) :: .inr (.inl a) :: st => ic (b = 0) none (k (pc + len) lv (.inr (.inl (a - a / b * b)) :: st) M)
      | _ => none)
    | .lshl => (match st with
      | .inl b :: .inr (.inl a) :: st => k (pc + len) lv (.inr (.inl (a <<< (b.toInt64 &&& 63))) :: st) M
      | _ => none)
    | .lshr => (match st with
      | .inl b :: .inr (.inl a) :: st => k (pc + len) lv (.inr (.inl (a >>> (b.toInt64 &&& 63))) :: st) M
      | _ => none)
    | .lushr => (match st with
      | .inl b :: .inr (.inl a) :: st => k (pc + len) lv (.inr (.inl (a.toUInt64 >>> (b.toInt64.toUInt64 &&& Int64.toUInt64 63)).toInt64) :: st) M
      | _ => none)
    | .lcmp => (match st with
      | .inr (.inl b) :: .inr (.inl a) :: st => k (pc + len) lv (.inl (lg_cmp a b) :: st) M
      | _ => none)
    | .i2l => (match st with
      | .inl a :: st => k (pc + len) lv (.inr (.inl a.toInt64) :: st) M
      | _ => none)
    | .l2i => (match st with
      | .inr (.inl a) :: st => k (pc + len) lv (.inl a.toInt32 :: st) M
      | _ => none)
    | .i2c => (match st with
      | .inl a :: st => k (pc + len) lv (.inl (a.toUInt32 % 65536).toInt32 :: st) M
      | _ => none)
    | .i2b => (match st with
      | .inl a :: st => k (pc + len) lv (.inl a.toInt8.toInt32 :: st) M
      | _ => none)
    | .dup => (match st with
      | .inl a :: st => k (pc + len) lv (.inl a :: .inl a :: st) M
      | .inr (.inr a) :: st => k (pc + len) lv (.inr (.inr a) :: .inr (.inr a) :: st) M
      | _ => none)
    | .pop => (match st with
      | .inl _ :: st => k (pc + len) lv st M
      | _ => none)
    | .dup2 => (match st with
      | .inl b :: .inr (.inr a) :: st => k (pc + len) lv (.inl b :: .inr (.inr a) :: .inl b :: .inr (.inr a) :: st) M
      | _ => none)
    | .ifCond c _ => (match st with
      | .inl a :: st => cIc back k c pc (pc + len) y lv a 0 st M
      | _ => none)
    | .if_icmp c _ => (match st with
      | .inl b :: .inl a :: st => cIc back k c pc (pc + len) y lv a b st M
      | _ => none)
    | .goto _ => jmp back k pc y lv st M
    | .tableswitch d lo _ os => (match st with
      | .inl v :: st => swk v (fun o => k ((pc : Int) + o).toNat lv st M) d lo os.toList
      | _ => none)
    | .getfield _ => gfK k (pc + len) x y lv st M
    | .putfield _ => pfK k (pc + len) x y lv st M
    | .iaload => alK k 20 (fun M q i => .inl (M.1 q.2.2 i)) (pc + len) lv st M
    | .caload => alK k 21 (fun M q i => .inl (M.1 q.2.2 i)) (pc + len) lv st M
    | .baload => (match z with
      | 0 => alK k 22 (fun M q i => .inl (M.1 q.2.2 i)) (pc + len) lv st M
      | _ => alK k 41 (fun _ q i => .inl (strB (q.2.2 - SV) i)) (pc + len) lv st M)
    | .laload => alK k 23 (fun M q i => .inr (.inl (M.2.1 q.2.2 i))) (pc + len) lv st M
    | .aaload => (match z with
      | 0 => alK k 24 (fun M q i => .inr (.inr (6, 0, M.2.2 q.2.2 i))) (pc + len) lv st M
      | _ => alK k z (fun _ q i => .inr (.inr (20, rowL z, q.2.2 + 1 + i))) (pc + len) lv st M)
    | .iastore => asK k 20 (fun v => v) (pc + len) lv st M
    | .castore => asK k 21 (fun v => vp_nar .char v) (pc + len) lv st M
    | .bastore => asK k 22 (fun v => vp_nar .boolean v) (pc + len) lv st M
    | .lastore => (match st with
      | .inr (.inl v) :: .inl i :: .inr (.inr q) :: st => (match Nat.beq q.1 23 with
        | true => ic (i < 0 ∨ q.2.1 ≤ i.toNatClampNeg) none (k (pc + len) lv st (sJ M q.2.2 i.toNatClampNeg v))
        | false => none)
      | _ => none)
    | .aastore => (match st with
      | .inr (.inr v) :: .inl i :: .inr (.inr q) :: st => (match Nat.beq q.1 24, Nat.beq v.1 6, Nat.beq v.2.1 0 with
        | true, true, true => ic (i < 0 ∨ q.2.1 ≤ i.toNatClampNeg) none (k (pc + len) lv st (sR M q.2.2 i.toNatClampNeg v.2.2))
        | _, _, _ => none)
      | _ => none)
    | .arraylength => (match st with
      | .inr (.inr q) :: st => (match Nat.ble 20 q.1, Nat.beq q.1 40, Nat.ble q.1 41 with
        | true, false, true => k (pc + len) lv (.inl (Int32.ofNat q.2.1) :: st) M
        | _, _, _ => none)
      | _ => none)
    | .invokevirtual _ => invK call k (pc + len) x y z lv st M
    | .invokestatic _ => (match z with
      | 9 => cpK k (pc + len) lv st M
      | _ => invK call k (pc + len) x y z lv st M)
    | .ireturn => (match st with
      | [.inl v] => (match z with
        | 0 => some (some (.inl v), M)
        | 1 => ic (v &&& 1 = v) (some (some (.inl v), M)) none
        | 2 => ic (vp_nar .byte v = v) (some (some (.inl v), M)) none
        | _ => ic (vp_nar .char v = v) (some (some (.inl v), M)) none)
      | _ => none)
    | .lreturn => (match st with
      | [.inr (.inl v)] => some (some (.inr (.inl v)), M)
      | _ => none)
    | .return_ => (match st with
      | [] => some (none, M)
      | _ => none)
    | _ => none
end EVI
end
section
/-! THE MACHINE OVER THE ABSTRACT STATE: WPs says that the machine, at pc with these locals and this stack over the memory M, returns r.1 and leaves the memory r.2. -/
def lw_g : List Cond := lw_tbl.filter goodWord
theorem lw_goodIn {x : Cond} (h : x ∈ lw_g) : GoodIn lw_g (x :: lw_g) := by
  intro w hw
  have hm : w ∈ lw_g := by
    rcases List.mem_cons.mp hw with e | e
    · rw [e]; exact h
    · exact e
  exact ⟨hm, good_of_word (List.mem_filter.mp hm).2⟩
theorem lw_mem {x : Cond} (i : Nat) (h : lw_tbl[i]? = some x) (hg : goodWord x = true) : x ∈ lw_g := List.mem_filter.mpr ⟨List.mem_of_getElem? h, hg⟩
theorem cl_good : ∀ t, t < 13 → (u_ws (clR t) (clT t) (clN t)).all goodWord = true
  | 0, _ => by decide +kernel
  | 1, _ => by decide +kernel
  | 2, _ => by decide +kernel
  | 3, _ => by decide +kernel
  | 4, _ => by decide +kernel
  | 5, _ => by decide +kernel
  | 6, _ => by decide +kernel
  | 7, _ => by decide +kernel
  | 8, _ => by decide +kernel
  | 9, _ => by decide +kernel
  | 10, _ => by decide +kernel
  | 11, _ => by decide +kernel
  | 12, _ => by decide +kernel
  | t + 13, h => absurd h (by omega)
theorem cl_ing (t : Nat) (h : t < 13) : ∀ w ∈ u_ws (clR t) (clT t) (clN t), w ∈ lw_g := fun w hw => List.mem_filter.mpr ⟨cl_in t h w hw, List.all_eq_true.mp (cl_good t h) w hw⟩
def rmD (d : Nat) : Room := { frames := d, cells := 0, slots := 0, locals := 60 * d }
def SFc (ρ : Nat → Nat) (A : Nat → Prop) (s : State) (H : Heap) : Prop :=
  vk_S 35 (strT.map List.length) strT (fun i => ρ (SB + i)) (fun i => ρ (SV + i)) A s H ∧ va_Z "java/lang/String" "COMPACT_STRINGS" "Z" (.int 1) A s H ∧ va_Z "jdk/internal/util/Preconditions" "SIOOBE_FORMATTER" "Ljava/util/function/BiFunction;" (.ref (ρ SF0)) A s H
def SWc (ρ : Nat → Nat) (s : State) : Prop := (∀ e ∈ strW, vk_R e.1 e.2.1 e.2.2.1 (ρ (SB + e.2.2.2)) s) ∧ ∀ e ∈ nestW, va_Nw (.methodLinkNest e.1 e.2 y_has "IceParliament") s
def VOK (w : List Ref3) : AV → Prop
  | .inr (.inr q) => q ∈ w ∨ (∃ i, i < 35 ∧ q = (40, i, SB + i)) ∨ (∃ i, i < 35 ∧ q = (41, strL i, SV + i)) ∨ q = (50, 0, SF0)
  | _ => True
def WT (w : List Ref3) : Prop := (∀ q ∈ w, q.1 < 13 ∨ (20 ≤ q.1 ∧ q.1 ≤ 24) ∨ (30 ≤ q.1 ∧ q.1 ≤ 32)) ∧ ∀ a ∈ w, ∀ b ∈ w, a.2.2 = b.2.2 → a = b
def VOKs (w : List Ref3) (st : List AV) : Prop := ∀ v ∈ st, VOK w v
def VOKl (w : List Ref3) (lv : Lv) : Prop := ∀ i v, lvat lv i = some v → VOK w v
def BX (own : String) (cc : ByteArray) (nL : Nat) (ret : Option FieldType) (p : Program) (s : State) (m : MethodId) (args : Array Value) (meth : Method) (c : Code) : Prop :=
  p.tables.exec = Jvm.exec ∧ c.code = cc ∧ c.maxLocals = nL ∧ s.vm.findClass own = some m.cls ∧ (∀ w ∈ lw_g, w.before args s = true) ∧ meth.sig.returnType = ret ∧ meth.locks = false
def KX (dC : Nat → ClassId) (dI : Nat → Nat → Nat) (cA : Nat → ClassId) (ρ : Nat → Nat) (A : Nat → Prop) (s : State) : Prop :=
  va_K (dC, dI) vwCl (tysOf cA) s ∧ SFc ρ A s s.heap ∧ SWc ρ s ∧ ∀ q, s.heap.size ≤ q → A q
def lvOK (ρ : Nat → Nat) (ls : Array Slot) (nL : Nat) (lv : Lv) : Prop := ∃ l, lv_has ls nL l ∧ ∀ i v, lvat lv i = some v → (i, cv ρ v) ∈ l
def QcR (dC : Nat → ClassId) (dI : Nat → Nat → Nat) (cA : Nat → ClassId) (ρ : Nat → Nat) (w : List Ref3) (A : Nat → Prop) (r : Option AV × Mem) : Array Value → State → Outcome → State → Prop := fun _ st oc t =>
  oc = .returned (r.1.map (cv ρ)) ∧ va_P (dC, dI) vwCl (wsOf ρ cA r.2 w) t.heap ∧ va_K (dC, dI) vwCl (tysOf cA) t ∧ va_F A st t
def WPs (w : List Ref3) (own : String) (cc : ByteArray) (nL : Nat) (ret : Option FieldType) (d pc : Nat) (lv : Lv) (st : List AV) (M : Mem) (r : Option AV × Mem) : Prop :=
  ∀ (p : Program) (l : Launch) (e : Env) (s : State) (m : MethodId) (args : Array Value) (below : List Frame) (meth : Method) (c : Code) (dC : Nat → ClassId) (dI : Nat → Nat → Nat) (cA : Nat → ClassId) (ρ : Nat → Nat) (A : Nat → Prop) (H : Heap) (locs : List Loc) (ls : Array Slot),
    BX own cc nL ret p s m args meth c → KX dC dI cA ρ A s → va_P (dC, dI) vwCl (wsOf ρ cA M w) H → va_D A (wsOf ρ cA M w) → va_S A s.heap H locs → lvOK ρ ls nL lv →
    W p l e (rmD d) s m args below meth c H locs 0 0 (MQ below (QcR dC dI cA ρ w A r) args s 0 0 A) (F0 m pc ls (st.map (cv ρ)))
section RW
variable {w : List Ref3} {own : String} {cc : ByteArray} {nL : Nat} {ret : Option FieldType} {d pc : Nat} {lv : Lv} {st : List AV} {M : Mem} {r : Option AV × Mem}
theorem x_int {n : Nat} {v : Int32} (hrow : ∀ {p : Program} {l : Launch} {e : Env} {R : Room} {s : State} {m : MethodId} {args : Array Value} {below : List Frame} {meth : Method} {c : Code} {H : Heap} {locs : List Loc} {cells slots : Nat} {Q : State → Prop} {ls : Array Slot} {rest : List Value}, p.tables.exec = Jvm.exec → c.code = cc → s.vm.findClass own = some m.cls → (∀ w ∈ lw_g, w.before args s = true) → W p l e R s m args below meth c H locs cells slots Q (F0 m n ls (.int v :: rest)) → W p l e R s m args below meth c H locs cells slots Q (F0 m pc ls rest))
    (k : WPs w own cc nL ret d n lv (.inl v :: st) M r) : WPs w own cc nL ret d pc lv st M r := by
  intro p l e s m args below meth c dC dI cA ρ A H locs ls hB hK hP hD hS hl
  exact hrow hB.1 hB.2.1 hB.2.2.2.1 hB.2.2.2.2.1 (k p l e s m args below meth c dC dI cA ρ A H locs ls hB hK hP hD hS hl)
theorem x_long {n : Nat} {v : Int64} (hrow : ∀ {p : Program} {l : Launch} {e : Env} {R : Room} {s : State} {m : MethodId} {args : Array Value} {below : List Frame} {meth : Method} {c : Code} {H : Heap} {locs : List Loc} {cells slots : Nat} {Q : State → Prop} {ls : Array Slot} {rest : List Value}, p.tables.exec = Jvm.exec → c.code = cc → s.vm.findClass own = some m.cls → (∀ w ∈ lw_g, w.before args s = true) → W p l e R s m args below meth c H locs cells slots Q (F0 m n ls (.long v :: rest)) → W p l e R s m args below meth c H locs cells slots Q (F0 m pc ls rest))
    (k : WPs w own cc nL ret d n lv (.inr (.inl v) :: st) M r) : WPs w own cc nL ret d pc lv st M r := by
  intro p l e s m args below meth c dC dI cA ρ A H locs ls hB hK hP hD hS hl
  exact hrow hB.1 hB.2.1 hB.2.2.2.1 hB.2.2.2.2.1 (k p l e s m args below meth c dC dI cA ρ A H locs ls hB hK hP hD hS hl)
/-- a row that changes the stack alone -/
theorem x_st {n : Nat} {st' : List AV} (hrow : ∀ {ρ : Nat → Nat} {p : Program} {l : Launch} {e : Env} {R : Room} {s : State} {m : MethodId} {args : Array Value} {below : List Frame} {meth : Method} {c : Code} {H : Heap} {locs : List Loc} {cells slots : Nat} {Q : State → Prop} {ls : Array Slot}, p.tables.exec = Jvm.exec → c.code = cc → W p l e R s m args below meth c H locs cells slots Q (F0 m n ls (st'.map (cv ρ))) → W p l e R s m args below meth c H locs cells slots Q (F0 m pc ls (st.map (cv ρ))))
    (k : WPs w own cc nL ret d n lv st' M r) : WPs w own cc nL ret d pc lv st M r := by
  intro p l e s m args below meth c dC dI cA ρ A H locs ls hB hK hP hD hS hl
  exact hrow hB.1 hB.2.1 (k p l e s m args below meth c dC dI cA ρ A H locs ls hB hK hP hD hS hl)
/-- a row with two ways -/
theorem x_br {n1 n2 : Nat} {st' : List AV} {P : Prop} (hrow : ∀ {ρ : Nat → Nat} {p : Program} {l : Launch} {e : Env} {R : Room} {s : State} {m : MethodId} {args : Array Value} {below : List Frame} {meth : Method} {c : Code} {H : Heap} {locs : List Loc} {cells slots : Nat} {Q : State → Prop} {ls : Array Slot}, p.tables.exec = Jvm.exec → c.code = cc → (P → W p l e R s m args below meth c H locs cells slots Q (F0 m n1 ls (st'.map (cv ρ)))) → (¬ P → W p l e R s m args below meth c H locs cells slots Q (F0 m n2 ls (st'.map (cv ρ)))) → W p l e R s m args below meth c H locs cells slots Q (F0 m pc ls (st.map (cv ρ))))
    (k1 : P → WPs w own cc nL ret d n1 lv st' M r) (k2 : ¬ P → WPs w own cc nL ret d n2 lv st' M r) : WPs w own cc nL ret d pc lv st M r := by
  intro p l e s m args below meth c dC dI cA ρ A H locs ls hB hK hP hD hS hl
  exact hrow hB.1 hB.2.1 (fun h => k1 h p l e s m args below meth c dC dI cA ρ A H locs ls hB hK hP hD hS hl) (fun h => k2 h p l e s m args below meth c dC dI cA ρ A H locs ls hB hK hP hD hS hl)
/-- a local is read -/
theorem x_ld {n i : Nat} {v : AV} (hv : lvat lv i = some v) (hrow : ∀ {ρ : Nat → Nat} {p : Program} {l : Launch} {e : Env} {R : Room} {s : State} {m : MethodId} {args : Array Value} {below : List Frame} {meth : Method} {c : Code} {H : Heap} {locs : List Loc} {cells slots : Nat} {Q : State → Prop} {ls : Array Slot} {rest : List Value}, p.tables.exec = Jvm.exec → c.code = cc → ls[i]? = some (.val (cv ρ v)) → W p l e R s m args below meth c H locs cells slots Q (F0 m n ls (cv ρ v :: rest)) → W p l e R s m args below meth c H locs cells slots Q (F0 m pc ls rest))
    (k : WPs w own cc nL ret d n lv (v :: st) M r) : WPs w own cc nL ret d pc lv st M r := by
  intro p l e s m args below meth c dC dI cA ρ A H locs ls hB hK hP hD hS hl
  obtain ⟨l0, h1, h2⟩ := id hl
  exact hrow hB.1 hB.2.1 (h1.2.2 _ (h2 i v hv)) (k p l e s m args below meth c dC dI cA ρ A H locs ls hB hK hP hD hS hl)
theorem lvat_lst : ∀ (lv : Lv) (i j : Nat) (v : Option AV) (x : AV), lvat (lst lv i v) j = some x → (j = i ∧ v = some x) ∨ (j ≠ i ∧ lvat lv j = some x)
  | [], _, _, _, _, h => by simp [lst, lvat] at h
  | a :: t, 0, 0, v, x, h => by simp [lst, lvat] at h; exact Or.inl ⟨rfl, h⟩
  | a :: t, 0, j + 1, v, x, h => by simp [lst, lvat] at h; exact Or.inr ⟨by omega, by simpa [lvat] using h⟩
  | a :: t, i + 1, 0, v, x, h => by simp [lst, lvat] at h; exact Or.inr ⟨by omega, by simpa [lvat] using h⟩
  | a :: t, i + 1, j + 1, v, x, h => by
    simp [lst, lvat] at h
    rcases lvat_lst t i j v x h with ⟨e, h⟩ | ⟨e, h⟩
    · exact Or.inl ⟨by omega, h⟩
    · exact Or.inr ⟨by omega, by simpa [lvat] using h⟩
theorem isJ_cat {ρ : Nat → Nat} {x : AV} (h : isJ (some x) = false) : (cv ρ x).category = 1 := by
  rcases x with x | x | x
  · rfl
  · simp [isJ] at h
  · rfl
theorem lvat_stl {lv : Lv} {i j : Nat} {v x : AV} (h : lvat (stl lv i v) j = some x) : (j = i ∧ v = x) ∨ (j ≠ i ∧ lvat lv j = some x ∧ (j + 1 = i → isJ (some x) = false)) := by
  cases i with
  | zero =>
    rcases lvat_lst _ _ _ _ _ h with ⟨e, h⟩ | ⟨e, h⟩
    · exact Or.inl ⟨e, Option.some.inj h⟩
    · exact Or.inr ⟨e, h, fun z => by omega⟩
  | succ i =>
    simp only [stl] at h
    cases hj : isJ (lvat lv i) with
    | true =>
      rw [hj] at h
      rcases lvat_lst _ _ _ _ _ h with ⟨e, h⟩ | ⟨e, h⟩
      · exact Or.inl ⟨e, Option.some.inj h⟩
      · rcases lvat_lst _ _ _ _ _ h with ⟨e2, h⟩ | ⟨e2, h⟩
        · cases h
        · exact Or.inr ⟨e, h, fun z => by omega⟩
    | false =>
      rw [hj] at h
      rcases lvat_lst _ _ _ _ _ h with ⟨e, h5⟩ | ⟨e, h5⟩
      · exact Or.inl ⟨e, Option.some.inj h5⟩
      · refine Or.inr ⟨e, h5, fun z => ?_⟩
        have : j = i := by omega
        subst this
        rw [← h5]; exact hj
theorem lvOK_stl {ρ : Nat → Nat} {ls ls' : Array Slot} {i : Nat} {v : AV} {l : List (Nat × Value)} (h2 : ∀ i v, lvat lv i = some v → (i, cv ρ v) ∈ l) (h : lv_has ls' nL ((i, cv ρ v) :: l.filter (fun q => !(q.1 == i) && !(q.1 + 1 == i && q.2.category == 2)))) : lvOK ρ ls' nL (stl lv i v) := by
  refine ⟨_, h, fun j x hx => ?_⟩
  rcases lvat_stl hx with ⟨e, h3⟩ | ⟨e, h3, h4⟩
  · subst e; subst h3; exact List.mem_cons_self
  · refine List.mem_cons_of_mem _ (List.mem_filter.mpr ⟨h2 j x h3, ?_⟩)
    by_cases z : j + 1 = i
    · simp [e, isJ_cat (ρ := ρ) (h4 z)]
    · simp [e, z]
theorem lvOK_stl2 {ρ : Nat → Nat} {ls ls' : Array Slot} {i : Nat} {v : AV} {l : List (Nat × Value)} (h2 : ∀ i v, lvat lv i = some v → (i, cv ρ v) ∈ l) (h : lv_has ls' nL ((i, cv ρ v) :: l.filter (fun q => !(q.1 == i) && (!(q.1 == i + 1) && !(q.1 + 1 == i && q.2.category == 2))))) : lvOK ρ ls' nL (stl2 lv i v) := by
  refine ⟨_, h, fun j x hx => ?_⟩
  rcases lvat_lst _ _ _ _ _ hx with ⟨e0, h0⟩ | ⟨e0, hx⟩
  · cases h0
  rcases lvat_stl hx with ⟨e, h3⟩ | ⟨e, h3, h4⟩
  · subst e; subst h3; exact List.mem_cons_self
  · refine List.mem_cons_of_mem _ (List.mem_filter.mpr ⟨h2 j x h3, ?_⟩)
    by_cases z : j + 1 = i
    · simp [e, e0, isJ_cat (ρ := ρ) (h4 z)]
    · simp [e, e0, z]
end RW
end
section
/-! ROWS OVER THE HEAP -/
theorem ct_own : ∀ x, x < 13 → ∀ y, y < clN x → ((clT x) y).1 = clR x := by decide +kernel
theorem ct_fin : ∀ x, x < 13 → ∀ y, y < clN x → fk x y ≠ 2 → ((clT x) y).2.2.2 = false := by decide +kernel
theorem ct_int : ∀ x, x < 13 → ∀ y, y < clN x → fk x y = 0 → clY x y = .int := by decide +kernel
theorem ct_bool : ∀ x, x < 13 → ∀ y, y < clN x → fk x y = 4 → clY x y = .boolean := by decide +kernel
theorem ct_long : ∀ x, x < 13 → ∀ y, y < clN x → fk x y = 1 → clY x y = .long := by decide +kernel
theorem ct_ref : ∀ x, x < 13 → ∀ y, y < clN x → fk x y = 3 → ∀ a, narrow (clY x y) (.ref a) = .ref a ∧ fits (clY x y) (.ref a) = true := by
  intro x hx y hy h a
  have : ∀ x, x < 13 → ∀ y, y < clN x → fk x y = 3 → (x = 2 ∧ y = 4) := by decide +kernel
  obtain ⟨rfl, rfl⟩ := this x hx y hy h
  exact ⟨rfl, rfl⟩
theorem gf_cv {ρ : Nat → Nat} {x y : Nat} {q : Ref3} {M : Mem} (hk : fk x y ≤ 4) : cv ρ (gf x y q M) = fv ρ M x q.2.2 y := by
  unfold gf fv
  generalize fk x y = z at hk ⊢
  match z, hk with
  | 0, _ => rfl
  | 1, _ => rfl
  | 2, _ => rfl
  | 3, _ => rfl
  | 4, _ => rfl
theorem fk_le : ∀ x, x < 13 → ∀ y, y < clN x → fk x y ≤ 4 := by decide +kernel
theorem ce_obj {ρ : Nat → Nat} {cA : Nat → ClassId} {M : Mem} {q : Ref3} (h : q.1 < 13) : ce ρ cA M q = .inr (q.1, fvs ρ M q.1 q.2.2) := if_pos h
theorem ce_int {ρ : Nat → Nat} {cA : Nat → ClassId} {M : Mem} {q : Ref3} (h : q.1 = 20 ∨ q.1 = 21 ∨ q.1 = 22) : ce ρ cA M q = .inl (cA q.1, q.2.1, .inl (M.1 q.2.2)) := by
  obtain ⟨t, n, k⟩ := q
  rcases h with h | h | h <;> (dsimp only at h; subst h; rfl)
theorem ce_long {ρ : Nat → Nat} {cA : Nat → ClassId} {M : Mem} {q : Ref3} (h : q.1 = 23) : ce ρ cA M q = .inl (cA 23, q.2.1, .inr (.inl (M.2.1 q.2.2))) := by
  obtain ⟨t, n, k⟩ := q
  dsimp only at h; subst h; rfl
theorem ce_st {ρ : Nat → Nat} {cA : Nat → ClassId} {M : Mem} {q : Ref3} (h : q.1 = 24) : ce ρ cA M q = .inl (cA 24, q.2.1, .inr (.inr (.inr (.inr (fun j => some (ρ (M.2.2 q.2.2 j))))))) := by
  obtain ⟨t, n, k⟩ := q
  dsimp only at h; subst h; rfl
theorem ce_grid {ρ : Nat → Nat} {cA : Nat → ClassId} {M : Mem} {q : Ref3} (h : q.1 = 30 ∨ q.1 = 31 ∨ q.1 = 32) : ce ρ cA M q = .inl (cA 25, q.2.1, .inr (.inr (.inr (.inr (fun j => some (ρ (q.2.2 + 1 + j))))))) := by
  obtain ⟨t, n, k⟩ := q
  rcases h with h | h | h <;> (dsimp only at h; subst h; rfl)
section RH
variable {w : List Ref3} {own : String} {cc : ByteArray} {nL : Nat} {ret : Option FieldType} {d pc : Nat} {lv : Lv} {st : List AV} {M : Mem} {r : Option AV × Mem} {q : Ref3}
theorem x_get {x y index : Nat} (hx : x < 13) (hy : y < clN x) (hq : q ∈ w) (hqx : q.1 = x) (hl : Cond.fieldLink own index (clR x) ((clT x) y).2.1 ((clT x) y).2.2.1 ∈ lw_g) (hdg : decode cc pc = .ok (.getfield index, 3))
    (k : WPs w own cc nL ret d (pc + 3) lv (gf x y q M :: st) M r) : WPs w own cc nL ret d pc lv (.inr (.inr q) :: st) M r := by
  intro p l e s m args below meth c dC dI cA ρ A H locs ls hB hK hP hD hS hlv
  obtain ⟨i, hi⟩ := List.getElem?_of_mem hq
  subst hqx
  have he := wsOf_at (ρ := ρ) (cA := cA) (M := M) hi
  rw [ce_obj hx] at he
  have hk := k p l e s m args below meth c dC dI cA ρ A H locs ls hB hK hP hD hS hlv
  refine va_get (ref := clR q.1) hB.1 hB.2.1 hB.2.2.2.2.1 (cl_ing q.1 hx) hB.2.2.2.1 hK.1 hP i he (cl_at q.1 hx) y hy (hB.2.2.2.2.1 _ hl) (fun z hz => by rw [ct_own q.1 hx y hy] at hz; exact hz) (fvs_at hy) hdg ?_
  rw [← gf_cv (fk_le q.1 hx y hy)]
  exact hk
theorem x_put {x y index : Nat} {v : AV} {M' : Mem} (hx : x < 13) (hy : y < clN x) (hq : q ∈ w) (hqx : q.1 = x) (hf : fk x y ≠ 2) (hn : ∀ ρ, narrow (clY x y) (cv ρ v) = cv ρ v ∧ fits (clY x y) (cv ρ v) = true)
    (hv : ∀ ρ, fv ρ M' x q.2.2 y = cv ρ v) (hv2 : ∀ ρ i, i ≠ y → fv ρ M' x q.2.2 i = fv ρ M x q.2.2 i) (ho : ∀ ρ cA (q' : Ref3), q'.2.2 ≠ q.2.2 → ce ρ cA M' q' = ce ρ cA M q')
    (hl : Cond.fieldLink own index (clR x) ((clT x) y).2.1 ((clT x) y).2.2.1 ∈ lw_g) (hdg : decode cc pc = .ok (.putfield index, 3))
    (k : WPs w own cc nL ret d (pc + 3) lv st M' r) : WPs w own cc nL ret d pc lv (v :: .inr (.inr q) :: st) M r := by
  intro p l e s m args below meth c dC dI cA ρ A H locs ls hB hK hP hD hS hlv
  obtain ⟨i, hi⟩ := List.getElem?_of_mem hq
  subst hqx
  have he := wsOf_at (ρ := ρ) (cA := cA) (M := M) hi
  rw [ce_obj hx] at he
  refine va_put (ref := clR q.1) hB.1 hB.2.1 hB.2.2.2.2.1 (cl_ing q.1 hx) (clY q.1) (cl_ty q.1 hx) (cl_nm q.1 hx) hB.2.2.2.1 hK.1 hP hD hS i he (cl_at q.1 hx) y hy (hB.2.2.2.2.1 _ hl) (fun z hz => by rw [ct_own q.1 hx y hy] at hz; exact hz) (ct_fin q.1 hx y hy hf) (cl_ty q.1 hx y hy) (hn ρ).1 (hn ρ).2 (by simp [fvs, hy]) hdg (fun H1 locs1 hP1 hD1 hS1 => ?_)
  have hset : (wsOf ρ cA M w).set i (ρ q.2.2, .inr (q.1, (fvs ρ M q.1 q.2.2).set y (cv ρ v))) = wsOf ρ cA M' w := wsOf_set hD hi (by rw [ce_obj hx, fvs_set (hv ρ) (hv2 ρ)]) (ho ρ cA)
  rw [hset] at hP1 hD1
  exact k p l e s m args below meth c dC dI cA ρ A H1 locs1 ls hB hK hP1 hD1 hS1 hlv
theorem x_iald {i : Int32} (hq : q ∈ w) (ht : q.1 = 20) (hin : ¬ (i < 0 ∨ q.2.1 ≤ i.toNatClampNeg)) (hdg : decode cc pc = .ok (.iaload, 1))
    (k : WPs w own cc nL ret d (pc + 1) lv (.inl (M.1 q.2.2 i.toNatClampNeg) :: st) M r) : WPs w own cc nL ret d pc lv (.inl i :: .inr (.inr q) :: st) M r := by
  intro p l e s m args below meth c dC dI cA ρ A H locs ls hB hK hP hD hS hlv
  obtain ⟨j, hj⟩ := List.getElem?_of_mem hq
  have he := wsOf_at (ρ := ρ) (cA := cA) (M := M) hj
  rw [ce_int (Or.inl ht), ht] at he
  exact va_iald hB.1 hB.2.1 hK.1 hP j 0 he rfl hin hdg (k p l e s m args below meth c dC dI cA ρ A H locs ls hB hK hP hD hS hlv)
theorem x_cald {i : Int32} (hq : q ∈ w) (ht : q.1 = 21) (hin : ¬ (i < 0 ∨ q.2.1 ≤ i.toNatClampNeg)) (hdg : decode cc pc = .ok (.caload, 1))
    (k : WPs w own cc nL ret d (pc + 1) lv (.inl (M.1 q.2.2 i.toNatClampNeg) :: st) M r) : WPs w own cc nL ret d pc lv (.inl i :: .inr (.inr q) :: st) M r := by
  intro p l e s m args below meth c dC dI cA ρ A H locs ls hB hK hP hD hS hlv
  obtain ⟨j, hj⟩ := List.getElem?_of_mem hq
  have he := wsOf_at (ρ := ρ) (cA := cA) (M := M) hj
  rw [ce_int (Or.inr (Or.inl ht)), ht] at he
  exact va_cald hB.1 hB.2.1 hK.1 hP j 1 he rfl hin hdg (k p l e s m args below meth c dC dI cA ρ A H locs ls hB hK hP hD hS hlv)
theorem x_zald {i : Int32} (hq : q ∈ w) (ht : q.1 = 22) (hin : ¬ (i < 0 ∨ q.2.1 ≤ i.toNatClampNeg)) (hdg : decode cc pc = .ok (.baload, 1))
    (k : WPs w own cc nL ret d (pc + 1) lv (.inl (M.1 q.2.2 i.toNatClampNeg) :: st) M r) : WPs w own cc nL ret d pc lv (.inl i :: .inr (.inr q) :: st) M r := by
  intro p l e s m args below meth c dC dI cA ρ A H locs ls hB hK hP hD hS hlv
  obtain ⟨j, hj⟩ := List.getElem?_of_mem hq
  have he := wsOf_at (ρ := ρ) (cA := cA) (M := M) hj
  rw [ce_int (Or.inr (Or.inr ht)), ht] at he
  exact va_zald hB.1 hB.2.1 hK.1 hP j 2 he rfl hin hdg (k p l e s m args below meth c dC dI cA ρ A H locs ls hB hK hP hD hS hlv)
theorem x_lald {i : Int32} (hq : q ∈ w) (ht : q.1 = 23) (hin : ¬ (i < 0 ∨ q.2.1 ≤ i.toNatClampNeg)) (hdg : decode cc pc = .ok (.laload, 1))
    (k : WPs w own cc nL ret d (pc + 1) lv (.inr (.inl (M.2.1 q.2.2 i.toNatClampNeg)) :: st) M r) : WPs w own cc nL ret d pc lv (.inl i :: .inr (.inr q) :: st) M r := by
  intro p l e s m args below meth c dC dI cA ρ A H locs ls hB hK hP hD hS hlv
  obtain ⟨j, hj⟩ := List.getElem?_of_mem hq
  have he := wsOf_at (ρ := ρ) (cA := cA) (M := M) hj
  rw [ce_long ht] at he
  exact va_lald hB.1 hB.2.1 hK.1 hP j 3 he rfl hin hdg (k p l e s m args below meth c dC dI cA ρ A H locs ls hB hK hP hD hS hlv)
theorem x_aald {i : Int32} (hq : q ∈ w) (ht : q.1 = 24) (hin : ¬ (i < 0 ∨ q.2.1 ≤ i.toNatClampNeg)) (hdg : decode cc pc = .ok (.aaload, 1))
    (k : WPs w own cc nL ret d (pc + 1) lv (.inr (.inr (6, 0, M.2.2 q.2.2 i.toNatClampNeg)) :: st) M r) : WPs w own cc nL ret d pc lv (.inl i :: .inr (.inr q) :: st) M r := by
  intro p l e s m args below meth c dC dI cA ρ A H locs ls hB hK hP hD hS hlv
  obtain ⟨j, hj⟩ := List.getElem?_of_mem hq
  have he := wsOf_at (ρ := ρ) (cA := cA) (M := M) hj
  rw [ce_st ht] at he
  exact va_aldq hB.1 hB.2.1 hK.1 hP j 4 he rfl hin hdg (k p l e s m args below meth c dC dI cA ρ A H locs ls hB hK hP hD hS hlv)
theorem x_gald {i : Int32} (hq : q ∈ w) (ht : q.1 = 30 ∨ q.1 = 31 ∨ q.1 = 32) (hin : ¬ (i < 0 ∨ q.2.1 ≤ i.toNatClampNeg)) (hdg : decode cc pc = .ok (.aaload, 1)) {a b : Nat}
    (k : WPs w own cc nL ret d (pc + 1) lv (.inr (.inr (a, b, q.2.2 + 1 + i.toNatClampNeg)) :: st) M r) : WPs w own cc nL ret d pc lv (.inl i :: .inr (.inr q) :: st) M r := by
  intro p l e s m args below meth c dC dI cA ρ A H locs ls hB hK hP hD hS hlv
  obtain ⟨j, hj⟩ := List.getElem?_of_mem hq
  have he := wsOf_at (ρ := ρ) (cA := cA) (M := M) hj
  rw [ce_grid ht] at he
  have hlt : i.toNatClampNeg < q.2.1 := Nat.not_le.mp fun q => hin (Or.inr q)
  have hA := hK.1.2 5 (cA 25, .array .int) rfl
  exact W.aald (v := .ref (ρ (q.2.2 + 1 + i.toNatClampNeg))) (ty := .array .int) hB.1 hB.2.1 (hP j _ he) (hA.1 q.2.1 (fun z => va_rf (some (ρ (q.2.2 + 1 + z))))) rfl (fun q => by cases q) (by show ¬ (i < 0 ∨ (arrV _ _ _).slots.size ≤ _); rw [arrV_size]; exact hin) (by show (arrV _ _ _).slots[_]? = _; rw [arrV_read _ _ hlt]; rfl) rfl rfl hdg (k p l e s m args below meth c dC dI cA ρ A H locs ls hB hK hP hD hS hlv)
theorem x_iast {i v : Int32} (hq : q ∈ w) (ht : q.1 = 20) (hin : ¬ (i < 0 ∨ q.2.1 ≤ i.toNatClampNeg)) (hdg : decode cc pc = .ok (.iastore, 1))
    (k : WPs w own cc nL ret d (pc + 1) lv st (sI M q.2.2 i.toNatClampNeg v) r) : WPs w own cc nL ret d pc lv (.inl v :: .inl i :: .inr (.inr q) :: st) M r := by
  intro p l e s m args below meth c dC dI cA ρ A H locs ls hB hK hP hD hS hlv
  obtain ⟨j, hj⟩ := List.getElem?_of_mem hq
  have he := wsOf_at (ρ := ρ) (cA := cA) (M := M) hj
  rw [ce_int (Or.inl ht), ht] at he
  refine va_iast hB.1 hB.2.1 hK.1 hP hD hS j 0 he rfl hin hdg (fun H1 locs1 hP1 hD1 hS1 => ?_)
  have hset : (wsOf ρ cA M w).set j (ρ q.2.2, .inl (cA 20, q.2.1, .inl (upd (M.1 q.2.2) i.toNatClampNeg v))) = wsOf ρ cA (sI M q.2.2 i.toNatClampNeg v) w := wsOf_set hD hj (by rw [ce_int (Or.inl ht), ht, upd_row]) (fun q' h => ce_sI_ne h)
  rw [hset] at hP1 hD1
  exact k p l e s m args below meth c dC dI cA ρ A H1 locs1 ls hB hK hP1 hD1 hS1 hlv
theorem x_cast {i v : Int32} (hq : q ∈ w) (ht : q.1 = 21) (hin : ¬ (i < 0 ∨ q.2.1 ≤ i.toNatClampNeg)) (hdg : decode cc pc = .ok (.castore, 1))
    (k : WPs w own cc nL ret d (pc + 1) lv st (sI M q.2.2 i.toNatClampNeg (vp_nar .char v)) r) : WPs w own cc nL ret d pc lv (.inl v :: .inl i :: .inr (.inr q) :: st) M r := by
  intro p l e s m args below meth c dC dI cA ρ A H locs ls hB hK hP hD hS hlv
  obtain ⟨j, hj⟩ := List.getElem?_of_mem hq
  have he := wsOf_at (ρ := ρ) (cA := cA) (M := M) hj
  rw [ce_int (Or.inr (Or.inl ht)), ht] at he
  refine va_cast hB.1 hB.2.1 hK.1 hP hD hS j 1 he rfl hin hdg (fun H1 locs1 hP1 hD1 hS1 => ?_)
  have hset : (wsOf ρ cA M w).set j (ρ q.2.2, .inl (cA 21, q.2.1, .inl (upd (M.1 q.2.2) i.toNatClampNeg (vp_nar .char v)))) = wsOf ρ cA (sI M q.2.2 i.toNatClampNeg (vp_nar .char v)) w := wsOf_set hD hj (by rw [ce_int (Or.inr (Or.inl ht)), ht, upd_row]) (fun q' h => ce_sI_ne h)
  rw [hset] at hP1 hD1
  exact k p l e s m args below meth c dC dI cA ρ A H1 locs1 ls hB hK hP1 hD1 hS1 hlv
theorem x_zast {i v : Int32} (hq : q ∈ w) (ht : q.1 = 22) (hin : ¬ (i < 0 ∨ q.2.1 ≤ i.toNatClampNeg)) (hdg : decode cc pc = .ok (.bastore, 1))
    (k : WPs w own cc nL ret d (pc + 1) lv st (sI M q.2.2 i.toNatClampNeg (vp_nar .boolean v)) r) : WPs w own cc nL ret d pc lv (.inl v :: .inl i :: .inr (.inr q) :: st) M r := by
  intro p l e s m args below meth c dC dI cA ρ A H locs ls hB hK hP hD hS hlv
  obtain ⟨j, hj⟩ := List.getElem?_of_mem hq
  have he := wsOf_at (ρ := ρ) (cA := cA) (M := M) hj
  rw [ce_int (Or.inr (Or.inr ht)), ht] at he
  refine va_zast hB.1 hB.2.1 hK.1 hP hD hS j 2 he rfl hin hdg (fun H1 locs1 hP1 hD1 hS1 => ?_)
  have hset : (wsOf ρ cA M w).set j (ρ q.2.2, .inl (cA 22, q.2.1, .inl (upd (M.1 q.2.2) i.toNatClampNeg (vp_nar .boolean v)))) = wsOf ρ cA (sI M q.2.2 i.toNatClampNeg (vp_nar .boolean v)) w := wsOf_set hD hj (by rw [ce_int (Or.inr (Or.inr ht)), ht, upd_row]) (fun q' h => ce_sI_ne h)
  rw [hset] at hP1 hD1
  exact k p l e s m args below meth c dC dI cA ρ A H1 locs1 ls hB hK hP1 hD1 hS1 hlv
theorem x_last {i : Int32} {v : Int64} (hq : q ∈ w) (ht : q.1 = 23) (hin : ¬ (i < 0 ∨ q.2.1 ≤ i.toNatClampNeg)) (hdg : decode cc pc = .ok (.lastore, 1))
    (k : WPs w own cc nL ret d (pc + 1) lv st (sJ M q.2.2 i.toNatClampNeg v) r) : WPs w own cc nL ret d pc lv (.inr (.inl v) :: .inl i :: .inr (.inr q) :: st) M r := by
  intro p l e s m args below meth c dC dI cA ρ A H locs ls hB hK hP hD hS hlv
  obtain ⟨j, hj⟩ := List.getElem?_of_mem hq
  have he := wsOf_at (ρ := ρ) (cA := cA) (M := M) hj
  rw [ce_long ht] at he
  refine va_last hB.1 hB.2.1 hK.1 hP hD hS j 3 he rfl hin hdg (fun H1 locs1 hP1 hD1 hS1 => ?_)
  have hset : (wsOf ρ cA M w).set j (ρ q.2.2, .inl (cA 23, q.2.1, .inr (.inl (vp_updL (M.2.1 q.2.2) i.toNatClampNeg v)))) = wsOf ρ cA (sJ M q.2.2 i.toNatClampNeg v) w := wsOf_set hD hj (by rw [ce_long ht, updL_row]) (fun q' h => ce_sJ_ne h)
  rw [hset] at hP1 hD1
  exact k p l e s m args below meth c dC dI cA ρ A H1 locs1 ls hB hK hP1 hD1 hS1 hlv
theorem x_aast {i : Int32} {v : Ref3} (hq : q ∈ w) (ht : q.1 = 24) (hv : v ∈ w) (hvt : v.1 = 6) (hin : ¬ (i < 0 ∨ q.2.1 ≤ i.toNatClampNeg)) (hdg : decode cc pc = .ok (.aastore, 1))
    (k : WPs w own cc nL ret d (pc + 1) lv st (sR M q.2.2 i.toNatClampNeg v.2.2) r) : WPs w own cc nL ret d pc lv (.inr (.inr v) :: .inl i :: .inr (.inr q) :: st) M r := by
  intro p l e s m args below meth c dC dI cA ρ A H locs ls hB hK hP hD hS hlv
  obtain ⟨j, hj⟩ := List.getElem?_of_mem hq
  obtain ⟨j2, hj2⟩ := List.getElem?_of_mem hv
  have he := wsOf_at (ρ := ρ) (cA := cA) (M := M) hj
  have he2 := wsOf_at (ρ := ρ) (cA := cA) (M := M) hj2
  rw [ce_st ht] at he
  rw [ce_obj (by omega), hvt] at he2
  refine va_astq hB.1 hB.2.1 hK.1 hP hD hS j 4 j2 6 (r := (RX6, TX6, 11)) he rfl he2 rfl hin hdg (fun H1 locs1 hP1 hD1 hS1 => ?_)
  have hset : (wsOf ρ cA M w).set j (ρ q.2.2, .inl (cA 24, q.2.1, .inr (.inr (.inr (.inr (va_up (fun z => some (ρ (M.2.2 q.2.2 z))) i.toNatClampNeg (some (ρ v.2.2)))))))) = wsOf ρ cA (sR M q.2.2 i.toNatClampNeg v.2.2) w := wsOf_set hD hj (by
    rw [ce_st ht]
    congr 7
    funext z
    by_cases hz : z = i.toNatClampNeg <;> simp [sR, va_up, hz]) (fun q' h => ce_sR_ne h)
  rw [hset] at hP1 hD1
  exact k p l e s m args below meth c dC dI cA ρ A H1 locs1 ls hB hK hP1 hD1 hS1 hlv
theorem x_alen (hq : q ∈ w) (ht : (20 ≤ q.1 ∧ q.1 ≤ 24) ∨ (30 ≤ q.1 ∧ q.1 ≤ 32)) (hdg : decode cc pc = .ok (.arraylength, 1))
    (k : WPs w own cc nL ret d (pc + 1) lv (.inl (Int32.ofNat q.2.1) :: st) M r) : WPs w own cc nL ret d pc lv (.inr (.inr q) :: st) M r := by
  intro p l e s m args below meth c dC dI cA ρ A H locs ls hB hK hP hD hS hlv
  obtain ⟨j, hj⟩ := List.getElem?_of_mem hq
  have he := wsOf_at (ρ := ρ) (cA := cA) (M := M) hj
  have hk := k p l e s m args below meth c dC dI cA ρ A H locs ls hB hK hP hD hS hlv
  have hc : q.1 = 20 ∨ q.1 = 21 ∨ q.1 = 22 ∨ q.1 = 23 ∨ q.1 = 24 ∨ q.1 = 30 ∨ q.1 = 31 ∨ q.1 = 32 := by omega
  rcases hc with h | h | h | h | h | h
  · rw [ce_int (Or.inl h), h] at he
    exact va_alen hB.1 hB.2.1 hK.1 hP j 0 he rfl rfl hdg hk
  · rw [ce_int (Or.inr (Or.inl h)), h] at he
    exact va_alen hB.1 hB.2.1 hK.1 hP j 1 he rfl rfl hdg hk
  · rw [ce_int (Or.inr (Or.inr h)), h] at he
    exact va_alen hB.1 hB.2.1 hK.1 hP j 2 he rfl rfl hdg hk
  · rw [ce_long h] at he
    exact va_alen hB.1 hB.2.1 hK.1 hP j 3 he rfl rfl hdg hk
  · rw [ce_st h] at he
    exact va_alen hB.1 hB.2.1 hK.1 hP j 4 he rfl rfl hdg hk
  · rw [ce_grid h] at he
    exact va_alen hB.1 hB.2.1 hK.1 hP j 5 he rfl rfl hdg hk
end RH
end
section
/-! ROWS: strings, statics, arraycopy, calls, returns -/
theorem SFc.moved {ρ : Nat → Nat} {A : Nat → Prop} {u U : State} {H : Heap} (hvm : u.vm.Alike U.vm) (h : SFc ρ A u H) : SFc ρ A U H := ⟨h.1.moved hvm, h.2.1.moved hvm, h.2.2.moved hvm⟩
theorem SFc.kept {ρ : Nat → Nat} {A : Nat → Prop} {U : State} {H H1 : Heap} (h : SFc ρ A U H) (hq : ∀ a : Nat, a < H.size → ¬ A a → H1[a]? = H[a]?) : SFc ρ A U H1 := ⟨h.1.kept hq, h.2.1.kept hq, h.2.2.kept hq⟩
theorem strL_eq : ∀ i, i < 35 → (strT.map List.length).getD i 0 = strL i := by decide +kernel
section RS
variable {w : List Ref3} {own : String} {cc : ByteArray} {nL : Nat} {ret : Option FieldType} {d pc : Nat} {lv : Lv} {st : List AV} {M : Mem} {r : Option AV × Mem} {q : Ref3}
theorem x_ldcs {index i : Nat} {tx : String} (hw : (own, index, tx, i) ∈ strW) (hdg : decode cc pc = .ok (.ldc index, 2))
    (k : WPs w own cc nL ret d (pc + 2) lv (.inr (.inr (40, i, SB + i)) :: st) M r) : WPs w own cc nL ret d pc lv st M r := by
  intro p l e s m args below meth c dC dI cA ρ A H locs ls hB hK hP hD hS hlv
  exact va_ldcS hB.1 hB.2.1 hB.2.2.2.1 (hK.2.2.1.1 _ hw) hdg (k p l e s m args below meth c dC dI cA ρ A H locs ls hB hK hP hD hS hlv)
theorem x_sval {index i : Nat} (hi : i < 35) (hl : Cond.fieldLink own index "java/lang/String" "value" "[B" ∈ lw_g) (hdg : decode cc pc = .ok (.getfield index, 3))
    (k : WPs w own cc nL ret d (pc + 3) lv (.inr (.inr (41, strL i, SV + i)) :: st) M r) : WPs w own cc nL ret d pc lv (.inr (.inr (40, i, SB + i)) :: st) M r := by
  intro p l e s m args below meth c dC dI cA ρ A H locs ls hB hK hP hD hS hlv
  exact vk_getf hB.1 hB.2.1 (hK.2.1.1.1 i hi).2.2.1 hS hB.2.2.2.1 (hB.2.2.2.2.1 _ hl) (fun _ h => h) hdg (k p l e s m args below meth c dC dI cA ρ A H locs ls hB hK hP hD hS hlv)
theorem x_scod {index i : Nat} (hi : i < 35) (hl : Cond.fieldLink own index "java/lang/String" "coder" "B" ∈ lw_g) (hdg : decode cc pc = .ok (.getfield index, 3))
    (k : WPs w own cc nL ret d (pc + 3) lv (.inl 0 :: st) M r) : WPs w own cc nL ret d pc lv (.inr (.inr (40, i, SB + i)) :: st) M r := by
  intro p l e s m args below meth c dC dI cA ρ A H locs ls hB hK hP hD hS hlv
  exact vk_getf hB.1 hB.2.1 (hK.2.1.1.1 i hi).2.1 hS hB.2.2.2.1 (hB.2.2.2.2.1 _ hl) (fun _ h => h) hdg (k p l e s m args below meth c dC dI cA ρ A H locs ls hB hK hP hD hS hlv)
theorem x_slen {i : Nat} (hi : i < 35) (hdg : decode cc pc = .ok (.arraylength, 1))
    (k : WPs w own cc nL ret d (pc + 1) lv (.inl (Int32.ofNat (strL i)) :: st) M r) : WPs w own cc nL ret d pc lv (.inr (.inr (41, strL i, SV + i)) :: st) M r := by
  intro p l e s m args below meth c dC dI cA ρ A H locs ls hB hK hP hD hS hlv
  exact va_tlen hB.1 hB.2.1 (hK.2.1.1.1 i hi).2.2.2 hS (by rw [strL_eq i hi]) hdg (k p l e s m args below meth c dC dI cA ρ A H locs ls hB hK hP hD hS hlv)
theorem x_sbyt {i : Nat} {j : Int32} (hi : i < 35) (hin : ¬ (j < 0 ∨ strL i ≤ j.toNatClampNeg)) (hdg : decode cc pc = .ok (.baload, 1))
    (k : WPs w own cc nL ret d (pc + 1) lv (.inl (strB i j.toNatClampNeg) :: st) M r) : WPs w own cc nL ret d pc lv (.inl j :: .inr (.inr (41, strL i, SV + i)) :: st) M r := by
  intro p l e s m args below meth c dC dI cA ρ A H locs ls hB hK hP hD hS hlv
  exact va_tb hB.1 hB.2.1 (hK.2.1.1.1 i hi).2.2.2 hS (by rw [strL_eq i hi]; exact hin) rfl hdg (k p l e s m args below meth c dC dI cA ρ A H locs ls hB hK hP hD hS hlv)
theorem x_stat1 {index : Nat} (hl : Cond.fieldLink own index "java/lang/String" "COMPACT_STRINGS" "Z" ∈ lw_g) (hdg : decode cc pc = .ok (.getstatic index, 3))
    (k : WPs w own cc nL ret d (pc + 3) lv (.inl 1 :: st) M r) : WPs w own cc nL ret d pc lv st M r := by
  intro p l e s m args below meth c dC dI cA ρ A H locs ls hB hK hP hD hS hlv
  exact va_gets hB.1 hB.2.1 hK.2.1.2.1 hS hB.2.2.2.1 (hB.2.2.2.2.1 _ hl) (fun _ h => h) hdg (k p l e s m args below meth c dC dI cA ρ A H locs ls hB hK hP hD hS hlv)
theorem x_stat2 {index : Nat} (hl : Cond.fieldLink own index "jdk/internal/util/Preconditions" "SIOOBE_FORMATTER" "Ljava/util/function/BiFunction;" ∈ lw_g) (hdg : decode cc pc = .ok (.getstatic index, 3))
    (k : WPs w own cc nL ret d (pc + 3) lv (.inr (.inr (50, 0, SF0)) :: st) M r) : WPs w own cc nL ret d pc lv st M r := by
  intro p l e s m args below meth c dC dI cA ρ A H locs ls hB hK hP hD hS hlv
  exact va_gets hB.1 hB.2.1 hK.2.1.2.2 hS hB.2.2.2.1 (hB.2.2.2.2.1 _ hl) (fun _ h => h) hdg (k p l e s m args below meth c dC dI cA ρ A H locs ls hB hK hP hD hS hlv)
theorem catS_cv {ρ : Nat → Nat} : ∀ st : List AV, ((st.map (cv ρ)).map fun v => v.category).sum = catS st
  | [] => rfl
  | .inl _ :: t => by have := catS_cv (ρ := ρ) t; simp [cv, catS, Value.category] at this ⊢; omega
  | .inr (.inl _) :: t => by have := catS_cv (ρ := ρ) t; simp [cv, catS, Value.category] at this ⊢; omega
  | .inr (.inr _) :: t => by have := catS_cv (ρ := ρ) t; simp [cv, catS, Value.category] at this ⊢; omega
theorem x_cpI {index : Nat} {a b : Ref3} {sp dp n : Int32} (ha : a ∈ w) (hb : b ∈ w) (hta : a.1 = 20) (htb : b.1 = 20) (h1 : ¬ sp < 0) (h2 : ¬ dp < 0) (h3 : ¬ n < 0) (h4 : sp.toNatClampNeg + n.toNatClampNeg ≤ a.2.1) (h5 : dp.toNatClampNeg + n.toNatClampNeg ≤ b.2.1) (hc : catS st ≤ 8)
    (hl : Cond.methodLink own index arraycopyName ∈ lw_g) (hnat : Cond.native arraycopyName ∈ lw_g) (hsta : Cond.static arraycopyName ∈ lw_g) (hini : Cond.initialized "java/lang/System" ∈ lw_g) (hdg : decode cc pc = .ok (.invokestatic index, 3))
    (k : WPs w own cc nL ret (d + 1) (pc + 3) lv st (cpI M a.2.2 sp.toNatClampNeg b.2.2 dp.toNatClampNeg n.toNatClampNeg) r) : WPs w own cc nL ret (d + 1) pc lv (.inl n :: .inl dp :: .inr (.inr b) :: .inl sp :: .inr (.inr a) :: st) M r := by
  intro p l e s m args below meth c dC dI cA ρ A H locs ls hB hK hP hD hS hlv
  obtain ⟨j, hj⟩ := List.getElem?_of_mem ha
  obtain ⟨j2, hj2⟩ := List.getElem?_of_mem hb
  have he := wsOf_at (ρ := ρ) (cA := cA) (M := M) hj
  have he2 := wsOf_at (ρ := ρ) (cA := cA) (M := M) hj2
  rw [ce_int (Or.inl hta), hta] at he
  rw [ce_int (Or.inl htb), htb] at he2
  have hls : c.maxLocals = ls.size := by obtain ⟨l0, h0, -⟩ := hlv; rw [hB.2.2.1, h0.1]
  have hfr : 1 ≤ (rmD (d + 1)).frames := by show 1 ≤ d + 1; omega
  have hnw : nativeFrameWords "java/lang/System" "arraycopy" 5 + 11 ≤ 52 := by decide +kernel
  have hlo : ((st.map (cv ρ)).map fun v => v.category).sum + (nativeFrameWords "java/lang/System" "arraycopy" 5 + 11) ≤ (rmD (d + 1)).locals := by
    rw [catS_cv]; show _ ≤ 60 * (d + 1); omega
  refine va_copyi (ty := .int) hB.1 hB.2.1 hls hB.2.2.2.1 (hB.2.2.2.2.1 _ hl) (hB.2.2.2.2.1 _ hnat) (hB.2.2.2.2.1 _ hsta) (hB.2.2.2.2.1 _ hini) hK.1 hP hD hS j j2 0 0 he he2 rfl rfl rfl h1 h2 h3 h4 h5 (fun _ _ => rfl) hfr hlo hdg (fun H1 locs1 hP1 hD1 hS1 => ?_)
  have hset : (wsOf ρ cA M w).set j2 (ρ b.2.2, .inl (cA 20, b.2.1, .inl (va_cpy (M.1 a.2.2) (M.1 b.2.2) sp.toNatClampNeg dp.toNatClampNeg n.toNatClampNeg))) = wsOf ρ cA (cpI M a.2.2 sp.toNatClampNeg b.2.2 dp.toNatClampNeg n.toNatClampNeg) w := wsOf_set hD hj2 (by
    rw [ce_int (Or.inl htb), htb]
    have : (cpI M a.2.2 sp.toNatClampNeg b.2.2 dp.toNatClampNeg n.toNatClampNeg).1 b.2.2 = va_cpy (M.1 a.2.2) (M.1 b.2.2) sp.toNatClampNeg dp.toNatClampNeg n.toNatClampNeg := by funext z; simp [cpI]
    rw [this]) (fun q' h => ce_cpI_ne h)
  rw [hset] at hP1 hD1
  exact k p l e s m args below meth c dC dI cA ρ A H1 locs1 ls hB hK hP1 hD1 hS1 hlv
theorem x_cpJ {index : Nat} {a b : Ref3} {sp dp n : Int32} (ha : a ∈ w) (hb : b ∈ w) (hta : a.1 = 23) (htb : b.1 = 23) (h1 : ¬ sp < 0) (h2 : ¬ dp < 0) (h3 : ¬ n < 0) (h4 : sp.toNatClampNeg + n.toNatClampNeg ≤ a.2.1) (h5 : dp.toNatClampNeg + n.toNatClampNeg ≤ b.2.1) (hc : catS st ≤ 8)
    (hl : Cond.methodLink own index arraycopyName ∈ lw_g) (hnat : Cond.native arraycopyName ∈ lw_g) (hsta : Cond.static arraycopyName ∈ lw_g) (hini : Cond.initialized "java/lang/System" ∈ lw_g) (hdg : decode cc pc = .ok (.invokestatic index, 3))
    (k : WPs w own cc nL ret (d + 1) (pc + 3) lv st (cpJ M a.2.2 sp.toNatClampNeg b.2.2 dp.toNatClampNeg n.toNatClampNeg) r) : WPs w own cc nL ret (d + 1) pc lv (.inl n :: .inl dp :: .inr (.inr b) :: .inl sp :: .inr (.inr a) :: st) M r := by
  intro p l e s m args below meth c dC dI cA ρ A H locs ls hB hK hP hD hS hlv
  obtain ⟨j, hj⟩ := List.getElem?_of_mem ha
  obtain ⟨j2, hj2⟩ := List.getElem?_of_mem hb
  have he := wsOf_at (ρ := ρ) (cA := cA) (M := M) hj
  have he2 := wsOf_at (ρ := ρ) (cA := cA) (M := M) hj2
  rw [ce_long hta] at he
  rw [ce_long htb] at he2
  have hls : c.maxLocals = ls.size := by obtain ⟨l0, h0, -⟩ := hlv; rw [hB.2.2.1, h0.1]
  have hfr : 1 ≤ (rmD (d + 1)).frames := by show 1 ≤ d + 1; omega
  have hnw : nativeFrameWords "java/lang/System" "arraycopy" 5 + 11 ≤ 52 := by decide +kernel
  have hlo : ((st.map (cv ρ)).map fun v => v.category).sum + (nativeFrameWords "java/lang/System" "arraycopy" 5 + 11) ≤ (rmD (d + 1)).locals := by
    rw [catS_cv]; show _ ≤ 60 * (d + 1); omega
  refine va_copyl hB.1 hB.2.1 hls hB.2.2.2.1 (hB.2.2.2.2.1 _ hl) (hB.2.2.2.2.1 _ hnat) (hB.2.2.2.2.1 _ hsta) (hB.2.2.2.2.1 _ hini) hK.1 hP hD hS j j2 3 3 he he2 rfl rfl rfl h1 h2 h3 h4 h5 (fun _ _ => rfl) hfr hlo hdg (fun H1 locs1 hP1 hD1 hS1 => ?_)
  have hset : (wsOf ρ cA M w).set j2 (ρ b.2.2, .inl (cA 23, b.2.1, .inr (.inl (va_cpy (M.2.1 a.2.2) (M.2.1 b.2.2) sp.toNatClampNeg dp.toNatClampNeg n.toNatClampNeg)))) = wsOf ρ cA (cpJ M a.2.2 sp.toNatClampNeg b.2.2 dp.toNatClampNeg n.toNatClampNeg) w := wsOf_set hD hj2 (by
    rw [ce_long htb]
    have : (cpJ M a.2.2 sp.toNatClampNeg b.2.2 dp.toNatClampNeg n.toNatClampNeg).2.1 b.2.2 = va_cpy (M.2.1 a.2.2) (M.2.1 b.2.2) sp.toNatClampNeg dp.toNatClampNeg n.toNatClampNeg := by funext z; simp [cpJ]
    rw [this]) (fun q' h => ce_cpJ_ne h)
  rw [hset] at hP1 hD1
  exact k p l e s m args below meth c dC dI cA ρ A H1 locs1 ls hB hK hP1 hD1 hS1 hlv
theorem x_iret {v : Int32} {ty : FieldType} (hr : ret = some ty) (hn : narrow ty (.int v) = .int v) (hdg : decode cc pc = .ok (.ireturn, 1)) : WPs w own cc nL ret d pc lv [.inl v] M (some (.inl v), M) := by
  intro p l e s m args below meth c dC dI cA ρ A H locs ls hB hK hP hD hS hlv
  exact W.zret hB.1 hB.2.1 (hB.2.2.2.2.2.1.trans hr) hn (fun t ht hW => ⟨rfl, by rw [ht]; exact hP, hK.1.moved hW.alike, hS.F ht⟩) (fun q hq => hS.2.2 q hq) hdg hB.2.2.2.2.2.2
theorem x_lret {v : Int64} (hr : ret = some .long) (hdg : decode cc pc = .ok (.lreturn, 1)) : WPs w own cc nL ret d pc lv [.inr (.inl v)] M (some (.inr (.inl v)), M) := by
  intro p l e s m args below meth c dC dI cA ρ A H locs ls hB hK hP hD hS hlv
  exact W.lret hB.1 hB.2.1 (hB.2.2.2.2.2.1.trans hr) (fun t ht hW => ⟨rfl, by rw [ht]; exact hP, hK.1.moved hW.alike, hS.F ht⟩) (fun q hq => hS.2.2 q hq) hdg hB.2.2.2.2.2.2
theorem x_vret (hr : ret = none) (hdg : decode cc pc = .ok (.return_, 1)) : WPs w own cc nL ret d pc lv [] M (none, M) := by
  intro p l e s m args below meth c dC dI cA ρ A H locs ls hB hK hP hD hS hlv
  exact W.vret hB.1 hB.2.1 (hB.2.2.2.2.2.1.trans hr) (fun t ht hW => ⟨rfl, by rw [ht]; exact hP, hK.1.moved hW.alike, hS.F ht⟩) (fun q hq => hS.2.2 q hq) hdg hB.2.2.2.2.2.2
end RS
/-- what a call means: the method's contract, over any launch and any place of the cells -/
def CSem (w : List Ref3) (y : MethodName) (bytes : ByteArray) (mL : Nat) (ret : Option FieldType) (d : Nat) (as : List AV) (M : Mem) (r : Option AV × Mem) : Prop :=
  ∀ (l : Launch) (dC : Nat → ClassId) (dI : Nat → Nat → Nat) (cA : Nat → ClassId) (ρ : Nat → Nat) (A : Nat → Prop) (sz : Nat),
    Met l y (.code y bytes mL ret :: lw_g) (rmD d) (va_Pc (as.map (cv ρ)) (fun U => U.heap.size = sz ∧ (∀ q, sz ≤ q → A q) ∧ va_P (dC, dI) vwCl (wsOf ρ cA M w) U.heap ∧ va_D A (wsOf ρ cA M w) ∧ va_K (dC, dI) vwCl (tysOf cA) U ∧ SFc ρ A U U.heap ∧ SWc ρ U)) (QcR dC dI cA ρ w A r) 0 0 A
section CALL
variable {p : Program} {l : Launch} {e : Env} {R : Room} {s : State} {m : MethodId} {args : Array Value} {below : List Frame} {meth : Method} {c : Code} {H : Heap} {locs : List Loc} {Q : State → Prop}
variable {pc : Nat} {ls : Array Slot} {rest st0 : List Value} {a : Array Value} {dC : Nat → ClassId} {dI : Nat → Nat → Nat} {cA : Nat → ClassId} {ρ : Nat → Nat} {w : List Ref3} {A : Nat → Prop} {r : Option AV × Mem}
theorem call_go (hr : va_Run p l e R s m args below meth c H locs 0 0 0 0 (F0 m pc ls st0) rest (QcR dC dI cA ρ w A r a) A) (hS : va_S A s.heap H locs)
    (kk : ∀ (H1 : Heap) (locs1 : List Loc), va_P (dC, dI) vwCl (wsOf ρ cA r.2 w) H1 → va_S A s.heap H1 locs1 → W p l e R s m args below meth c H1 locs1 0 0 Q (F0 m (pc + 3) ls ((r.1.map (cv ρ)).toList ++ rest))) : W p l e R s m args below meth c H locs 0 0 Q (F0 m pc ls st0) := by
  intro T hT X
  obtain ⟨v, st₀, t, T', L, h0, X', hL, e1, e2, ⟨hv, hp, -, hz, hk⟩, st⟩ := hr T hT X
  cases hv
  rw [h0] at hz hk
  obtain ⟨t2, a1, b1⟩ := kk T'.heap (locs ++ L) (by rw [e1]; exact hp)
    ⟨Nat.le_trans hS.1 (by rw [e1]; exact hz), fun q h1 h2 => by rw [e1, hk q (Nat.lt_of_lt_of_le h1 hS.1) h2]; exact hS.2.1 q h1 h2, fun q hq => by
      rcases List.mem_append.mp hq with h | h
      · exact hS.2.2 q h
      · exact hL q h⟩ T' rfl X'
  exact ⟨t2, st t2 a1, b1⟩
end CALL
section RC
variable {w : List Ref3} {own : String} {cc : ByteArray} {nL : Nat} {ret : Option FieldType} {d pc : Nat} {lv : Lv} {st : List AV} {M : Mem} {r : Option AV × Mem}
theorem pc_of {l : Launch} {s : State} {H : Heap} {locs : List Loc} {dC : Nat → ClassId} {dI : Nat → Nat → Nat} {cA : Nat → ClassId} {ρ : Nat → Nat} {A : Nat → Prop} {as : List AV} (hK : KX dC dI cA ρ A s) (hP : va_P (dC, dI) vwCl (wsOf ρ cA M w) H) (hD : va_D A (wsOf ρ cA M w)) (hS : va_S A s.heap H locs) :
    PreS s H (va_Pc (as.map (cv ρ)) (fun U => U.heap.size = H.size ∧ (∀ q, H.size ≤ q → A q) ∧ va_P (dC, dI) vwCl (wsOf ρ cA M w) U.heap ∧ va_D A (wsOf ρ cA M w) ∧ va_K (dC, dI) vwCl (tysOf cA) U ∧ SFc ρ A U U.heap ∧ SWc ρ U)) (as.map (cv ρ)) := by
  refine ⟨fun a U g mk q => ?_, fun U hU hW => ⟨rfl, by rw [hU], fun q h => hK.2.2.2 q (Nat.le_trans hS.1 h), by rw [hU]; exact hP, hD, hK.1.moved hW.alike, ?_, ⟨fun x hx => (hK.2.2.1.1 x hx).warm hW, fun x hx => (hK.2.2.1.2 x hx).warmM hW⟩⟩⟩
  · obtain ⟨q0, q1, q2, q3, q4, q5, q6, q7⟩ := q
    exact ⟨q0, q1, q2, q3, q4, va_K.moved (u := U) (U := U.calling g mk a) (Vm.Alike.refl U.vm) q5, SFc.moved (u := U) (U := U.calling g mk a) (Vm.Alike.refl U.vm) q6, ⟨fun x hx => vk_R.same (u := U) (U := U.calling g mk a) rfl (q7.1 x hx), fun x hx => va_Nw.same (u := U) (U := U.calling g mk a) rfl rfl (q7.2 x hx)⟩⟩
  · rw [hU]
    exact (hK.2.1.kept hS.2.1).moved hW.alike
theorem x_callS {index mL : Nat} {y : MethodName} {bytes : ByteArray} {rt : Option FieldType} {as : List AV} {r' : Option AV × Mem} (hM : CSem w y bytes mL rt d as M r') (hcode : Cond.code y bytes mL rt ∈ lw_g) (hl : Cond.methodLink own index y ∈ lw_g) (hst : Cond.static y ∈ lw_g) (hini : Cond.initialized y.cls ∈ lw_g)
    (hd : y.cls ≠ "java/lang/invoke/MethodHandle" ∧ y.cls ≠ "java/lang/invoke/VarHandle" ∧ (parseMethodDescriptor y.desc).map (fun d => d.parameters.length) = some as.length) (hm : mL ≤ 40) (hc : catS st ≤ 8) (hdg : decode cc pc = .ok (.invokestatic index, 3))
    (k : WPs w own cc nL ret (d + 1) (pc + 3) lv (r'.1.toList ++ st) r'.2 r) : WPs w own cc nL ret (d + 1) pc lv (as.reverse ++ st) M r := by
  intro p l e s m args below meth c dC dI cA ρ A H locs ls hB hK hP hD hS hlv
  have hsz : ls.size = nL := by obtain ⟨l0, h0, -⟩ := hlv; exact h0.1
  have cb := callB_of (mc := 0) (ms := 0) (rm := rmD d) (R := rmD (d + 1)) as.length hB.2.2.2.2.1 (lw_goodIn hcode) rfl rfl rfl (hB.2.2.2.2.1 _ hini) (hB.2.2.2.2.1 _ hl) hd ⟨by show d + 1 ≤ d + 1; omega, by show 8 + (mL + 11) + 60 * d ≤ 60 * (d + 1); omega⟩
  have hrun := va_runS (R := rmD (d + 1)) (e := e) (meth := meth) (locs := locs) (below := below) (cells := 0) (slots := 0) (As := as.map (cv ρ)) (rest := st.map (cv ρ)) (g := F0 m pc ls ((as.reverse ++ st).map (cv ρ))) ⟨hB.1, hB.2.1, hB.2.2.1, hB.2.2.2.1, hB.2.2.2.2.1⟩ (hM l dC dI cA ρ A H.size) ⟨cb, hB.2.2.2.2.1 _ hst⟩ (pc_of (l := l) hK hP hD hS) rfl (by simp) hsz (by simp) (lv_room (by rw [catS_cv]; exact hc)) hdg ⟨Nat.le_refl _, Nat.le_refl _⟩
  refine call_go hrun hS (fun H1 locs1 hP1 hS1 => ?_)
  have := k p l e s m args below meth c dC dI cA ρ A H1 locs1 ls hB hK hP1 (va_D_wsOf hD) hS1 hlv
  rw [List.map_append] at this
  cases hr1 : r'.1 with
  | none => rw [hr1] at this; exact this
  | some v => rw [hr1] at this; exact this
theorem x_callSN {index mL : Nat} {bytes : ByteArray} {rt : Option FieldType} {as : List AV} {r' : Option AV × Mem} (hM : CSem w y_has bytes mL rt d as M r') (hcode : Cond.code y_has bytes mL rt ∈ lw_g) (hl : (own, index) ∈ nestW) (hst : Cond.static y_has ∈ lw_g) (hini : Cond.initialized y_has.cls ∈ lw_g)
    (hd : y_has.cls ≠ "java/lang/invoke/MethodHandle" ∧ y_has.cls ≠ "java/lang/invoke/VarHandle" ∧ (parseMethodDescriptor y_has.desc).map (fun d => d.parameters.length) = some as.length) (hm : mL ≤ 40) (hc : catS st ≤ 8) (hdg : decode cc pc = .ok (.invokestatic index, 3))
    (k : WPs w own cc nL ret (d + 1) (pc + 3) lv (r'.1.toList ++ st) r'.2 r) : WPs w own cc nL ret (d + 1) pc lv (as.reverse ++ st) M r := by
  intro p l e s m args below meth c dC dI cA ρ A H locs ls hB hK hP hD hS hlv
  have hsz : ls.size = nL := by obtain ⟨l0, h0, -⟩ := hlv; exact h0.1
  have cb := va_cnB (own := own) (index := index) (host := "IceParliament") (mc := 0) (ms := 0) (rm := rmD d) (R := rmD (d + 1)) as.length hB.2.2.2.2.1 (lw_goodIn hcode) rfl rfl rfl (hK.2.2.1.2 _ hl) (hB.2.2.2.2.1 _ hini) hd ⟨by show d + 1 ≤ d + 1; omega, by show 8 + (mL + 11) + 60 * d ≤ 60 * (d + 1); omega⟩
  have hrun := va_runSN (R := rmD (d + 1)) (e := e) (meth := meth) (locs := locs) (below := below) (cells := 0) (slots := 0) (As := as.map (cv ρ)) (rest := st.map (cv ρ)) (g := F0 m pc ls ((as.reverse ++ st).map (cv ρ))) ⟨hB.1, hB.2.1, hB.2.2.1, hB.2.2.2.1, hB.2.2.2.2.1⟩ (hM l dC dI cA ρ A H.size) ⟨cb, hB.2.2.2.2.1 _ hst, trivial⟩ (pc_of (l := l) hK hP hD hS) rfl (by simp) hsz (by simp) (lv_room (by rw [catS_cv]; exact hc)) hdg ⟨Nat.le_refl _, Nat.le_refl _⟩
  refine call_go hrun hS (fun H1 locs1 hP1 hS1 => ?_)
  have := k p l e s m args below meth c dC dI cA ρ A H1 locs1 ls hB hK hP1 (va_D_wsOf hD) hS1 hlv
  rw [List.map_append] at this
  cases hr1 : r'.1 with
  | none => rw [hr1] at this; exact this
  | some v => rw [hr1] at this; exact this
theorem x_callV {index mL : Nat} {y : MethodName} {bytes : ByteArray} {rt : Option FieldType} {as : List AV} {q : Ref3} {r' : Option AV × Mem} (hM : CSem w y bytes mL rt d (.inr (.inr q) :: as) M r') (hrecv : (q ∈ w ∧ q.1 < 13 ∧ clR q.1 = y.cls) ∨ (∃ i, i < 35 ∧ q = (40, i, SB + i) ∧ y.cls = "java/lang/String"))
    (hcode : Cond.code y bytes mL rt ∈ lw_g) (hl : Cond.methodLink own index y ∈ lw_g) (hin : Cond.instanceMethod y ∈ lw_g) (hsel : Cond.selects y.cls y y ∈ lw_g) (hini : Cond.initialized y.cls ∈ lw_g)
    (hd : y.cls ≠ "java/lang/invoke/MethodHandle" ∧ y.cls ≠ "java/lang/invoke/VarHandle" ∧ (parseMethodDescriptor y.desc).map (fun d => d.parameters.length) = some as.length) (hm : mL ≤ 40) (hc : catS st ≤ 8) (hdg : decode cc pc = .ok (.invokevirtual index, 3))
    (k : WPs w own cc nL ret (d + 1) (pc + 3) lv (r'.1.toList ++ st) r'.2 r) : WPs w own cc nL ret (d + 1) pc lv ((.inr (.inr q) :: as).reverse ++ st) M r := by
  intro p l e s m args below meth c dC dI cA ρ A H locs ls hB hK hP hD hS hlv
  have hsz : ls.size = nL := by obtain ⟨l0, h0, -⟩ := hlv; exact h0.1
  have cb := callB_of (mc := 0) (ms := 0) (rm := rmD d) (R := rmD (d + 1)) as.length hB.2.2.2.2.1 (lw_goodIn hcode) rfl rfl rfl (hB.2.2.2.2.1 _ hini) (hB.2.2.2.2.1 _ hl) hd ⟨by show d + 1 ≤ d + 1; omega, by show 8 + (mL + 11) + 60 * d ≤ 60 * (d + 1); omega⟩
  have hrv : ∃ cellB : Cell, H[ρ q.2.2]? = some cellB ∧ cellB.vm.isStatics = false ∧ s.vm.findClass y.cls = some cellB.cls := by
    rcases hrecv with ⟨h1, h2, h3⟩ | ⟨i, h1, h2, h3⟩
    · obtain ⟨j, hj⟩ := List.getElem?_of_mem h1
      have he := wsOf_at (ρ := ρ) (cA := cA) (M := M) hj
      rw [ce_obj h2] at he
      have := va_recv hK.1 hP (cl_at q.1 h2) he
      rw [← h3]; exact this
    · subst h2
      rw [h3]
      exact vk_recv (i := i) hK.2.1.1 h1 hS
  have hps := pc_of (l := l) (as := .inr (.inr q) :: as) hK hP hD hS
  have hrun := va_runV (R := rmD (d + 1)) (e := e) (meth := meth) (locs := locs) (below := below) (cells := 0) (slots := 0) (b := ρ q.2.2) (As := as.map (cv ρ)) (rest := st.map (cv ρ)) (g := F0 m pc ls (((.inr (.inr q) :: as).reverse ++ st).map (cv ρ))) ⟨hB.1, hB.2.1, hB.2.2.1, hB.2.2.2.1, hB.2.2.2.2.1⟩ (hM l dC dI cA ρ A H.size) ⟨cb, hB.2.2.2.2.1 _ hin, hB.2.2.2.2.1 _ hsel⟩ ⟨hps.1, hrv, hps.2⟩ rfl (by simp) hsz (by simp [cv]) (lv_room (by rw [catS_cv]; exact hc)) hdg ⟨Nat.le_refl _, Nat.le_refl _⟩
  refine call_go hrun hS (fun H1 locs1 hP1 hS1 => ?_)
  have := k p l e s m args below meth c dC dI cA ρ A H1 locs1 ls hB hK hP1 (va_D_wsOf hD) hS1 hlv
  rw [List.map_append] at this
  cases hr1 : r'.1 with
  | none => rw [hr1] at this; exact this
  | some v => rw [hr1] at this; exact this
end RC
end
section
/-! THE PROGRAM: methods, their instructions with what their operands lead to, and the places of the words that say so -/
def ownS : Nat → String
  | 0 => "IceParliament$Breath"
  | 1 => "IceParliament$Law"
  | 2 => "IceParliament$LawReader"
  | 3 => "IceParliament$Planner"
  | 4 => "IceParliament$Roll"
  | 5 => "IceParliament$Session"
  | 6 => "IceParliament$State"
  | 7 => "IceParliament$Tape"
  | 8 => "IceParliament$Trial"
  | 9 => "IceParliament$Yard"
  | 10 => "IceParliament$YardReader"
  | 11 => "IceParliament"
  | 12 => "IceParliamentModel"
  | 13 => "java/lang/String"
  | 14 => "java/lang/StringLatin1"
  | 15 => "java/lang/StringUTF16"
  | 16 => "java/lang/Math"
  | 17 => "java/lang/Integer"
  | 18 => "java/util/Arrays"
  | 19 => "jdk/internal/util/Preconditions"
  | _ => ""
abbrev MD : Type := MethodName × ByteArray × Nat × Option FieldType × Nat × Nat
def cd_0 : List (Nat × Ent) := [(0, (.aload_n 0, 1, 0, 0, 0, 0, 0)), (1, (.getfield 12, 3, 9, 0, 0, 0, 0)), (4, (.invokevirtual 68, 3, 1, 1, 0, 0, 0)), (7, (.aload_n 0, 1, 0, 0, 0, 0, 0)), (8, (.getfield 18, 3, 9, 1, 0, 0, 0)), (11, (.invokevirtual 68, 3, 1, 1, 0, 0, 0)), (14, (.aload_n 0, 1, 0, 0, 0, 0, 0)), (15, (.getfield 21, 3, 9, 2, 0, 0, 0)), (18, (.invokevirtual 68, 3, 1, 1, 0, 0, 0)), (21, (.aload_n 0, 1, 0, 0, 0, 0, 0)), (22, (.getfield 49, 3, 9, 11, 0, 0, 0)), (25, (.iconst 0, 1, 0, 0, 0, 0, 0)), (26, (.invokestatic 69, 3, 2, 2, 0, 0, 0)), (29, (.aload_n 0, 1, 0, 0, 0, 0, 0)), (30, (.iconst 0, 1, 0, 0, 0, 0, 0)), (31, (.putfield 75, 3, 9, 12, 0, 0, 0)), (34, (.aload_n 0, 1, 0, 0, 0, 0, 0)), (35, (.iconst 0, 1, 0, 0, 0, 0, 0)), (36, (.putfield 79, 3, 9, 14, 0, 0, 0)), (39, (.aload_n 0, 1, 0, 0, 0, 0, 0)), (40, (.iconst 0, 1, 0, 0, 0, 0, 0)), (41, (.putfield 82, 3, 9, 15, 0, 0, 0)), (44, (.aload_n 0, 1, 0, 0, 0, 0, 0)), (45, (.getfield 58, 3, 9, 16, 0, 0, 0)), (48, (.invokevirtual 85, 3, 3, 1, 0, 0, 0)), (51, (.aload_n 0, 1, 0, 0, 0, 0, 0)), (52, (.getfield 58, 3, 9, 16, 0, 0, 0)), (55, (.sipush (10000), 3, 0, 0, 0, 10000, 0)), (58, (.invokevirtual 86, 3, 4, 2, 0, 0, 0)), (61, (.aload_n 0, 1, 0, 0, 0, 0, 0)), (62, (.getfield 58, 3, 9, 16, 0, 0, 0)), (65, (.sipush (10001), 3, 0, 0, 0, 10001, 0)), (68, (.invokevirtual 86, 3, 4, 2, 0, 0, 0)), (71, (.aload_n 0, 1, 0, 0, 0, 0, 0)), (72, (.getfield 58, 3, 9, 16, 0, 0, 0)), (75, (.sipush (10006), 3, 0, 0, 0, 10006, 0)), (78, (.invokevirtual 86, 3, 4, 2, 0, 0, 0)), (81, (.aload_n 0, 1, 0, 0, 0, 0, 0)), (82, (.getfield 62, 3, 9, 17, 0, 0, 0)), (85, (.invokevirtual 85, 3, 3, 1, 0, 0, 0)), (88, (.aload_n 0, 1, 0, 0, 0, 0, 0)), (89, (.getfield 62, 3, 9, 17, 0, 0, 0)), (92, (.sipush (10000), 3, 0, 0, 0, 10000, 0)), (95, (.invokevirtual 86, 3, 4, 2, 0, 0, 0)), (98, (.return_, 1, 0, 0, 0, 0, 0))]
def cd_1 : List (Nat × Ent) := [(0, (.aload_n 0, 1, 0, 0, 0, 0, 0)), (1, (.iconst 0, 1, 0, 0, 0, 0, 0)), (2, (.putfield 15, 3, 4, 0, 0, 0, 0)), (5, (.return_, 1, 0, 0, 0, 0, 0))]
def cd_2 : List (Nat × Ent) := [(0, (.iconst 0, 1, 0, 0, 0, 0, 0)), (1, (.istore_n 2, 1, 2, 0, 0, 0, 0)), (2, (.aload_n 0, 1, 0, 0, 0, 0, 0)), (3, (.arraylength, 1, 0, 0, 0, 0, 0)), (4, (.istore_n 3, 1, 3, 0, 0, 0, 0)), (5, (.iload_n 2, 1, 2, 0, 0, 0, 0)), (6, (.iload_n 3, 1, 3, 0, 0, 0, 0)), (7, (.if_icmp .ge (13), 3, 0, 20, 0, 0, 0)), (10, (.aload_n 0, 1, 0, 0, 0, 0, 0)), (11, (.iload_n 2, 1, 2, 0, 0, 0, 0)), (12, (.iload_n 1, 1, 1, 0, 0, 0, 0)), (13, (.iastore, 1, 0, 0, 0, 0, 0)), (14, (.iinc 2 (1), 3, 2, 0, 0, 1, 0)), (17, (.goto (-12), 3, 0, 5, 0, 0, 0)), (20, (.return_, 1, 0, 0, 0, 0, 0))]
def cd_3 : List (Nat × Ent) := [(0, (.aload_n 0, 1, 0, 0, 0, 0, 0)), (1, (.iconst 0, 1, 0, 0, 0, 0, 0)), (2, (.putfield 18, 3, 1, 2, 0, 0, 0)), (5, (.aload_n 0, 1, 0, 0, 0, 0, 0)), (6, (.iconst 0, 1, 0, 0, 0, 0, 0)), (7, (.putfield 22, 3, 1, 0, 0, 0, 0)), (10, (.return_, 1, 0, 0, 0, 0, 0))]
def cd_4 : List (Nat × Ent) := [(0, (.aload_n 0, 1, 0, 0, 0, 0, 0)), (1, (.getfield 18, 3, 1, 2, 0, 0, 0)), (4, (.aload_n 0, 1, 0, 0, 0, 0, 0)), (5, (.getfield 9, 3, 1, 1, 0, 0, 0)), (8, (.arraylength, 1, 0, 0, 0, 0, 0)), (9, (.if_icmp .ge (23), 3, 0, 32, 0, 0, 0)), (12, (.aload_n 0, 1, 0, 0, 0, 0, 0)), (13, (.getfield 9, 3, 1, 1, 0, 0, 0)), (16, (.aload_n 0, 1, 0, 0, 0, 0, 0)), (17, (.getfield 18, 3, 1, 2, 0, 0, 0)), (20, (.iload_n 1, 1, 1, 0, 0, 0, 0)), (21, (.iastore, 1, 0, 0, 0, 0, 0)), (22, (.aload_n 0, 1, 0, 0, 0, 0, 0)), (23, (.dup, 1, 0, 0, 0, 0, 0)), (24, (.getfield 18, 3, 1, 2, 0, 0, 0)), (27, (.iconst 1, 1, 0, 0, 0, 1, 0)), (28, (.iadd, 1, 0, 0, 0, 0, 0)), (29, (.putfield 18, 3, 1, 2, 0, 0, 0)), (32, (.return_, 1, 0, 0, 0, 0, 0))]
def cd_5 : List (Nat × Ent) := [(0, (.aload_n 0, 1, 0, 0, 0, 0, 0)), (1, (.iconst 0, 1, 0, 0, 0, 0, 0)), (2, (.putfield 37, 3, 6, 0, 0, 0, 0)), (5, (.aload_n 0, 1, 0, 0, 0, 0, 0)), (6, (.getfield 30, 3, 6, 10, 0, 0, 0)), (9, (.getfield 41, 3, 9, 7, 0, 0, 0)), (12, (.iconst 0, 1, 0, 0, 0, 0, 0)), (13, (.aload_n 0, 1, 0, 0, 0, 0, 0)), (14, (.getfield 9, 3, 6, 1, 0, 0, 0)), (17, (.iconst 0, 1, 0, 0, 0, 0, 0)), (18, (.bipush (6), 2, 0, 0, 0, 6, 0)), (20, (.invokestatic 44, 3, 0, 0, 9, 0, 0)), (23, (.aload_n 0, 1, 0, 0, 0, 0, 0)), (24, (.getfield 15, 3, 6, 2, 0, 0, 0)), (27, (.iconst 0, 1, 0, 0, 0, 0, 0)), (28, (.invokestatic 50, 3, 2, 2, 0, 0, 0)), (31, (.aload_n 0, 1, 0, 0, 0, 0, 0)), (32, (.getfield 18, 3, 6, 3, 0, 0, 0)), (35, (.iconst 0, 1, 0, 0, 0, 0, 0)), (36, (.invokestatic 50, 3, 2, 2, 0, 0, 0)), (39, (.aload_n 0, 1, 0, 0, 0, 0, 0)), (40, (.getfield 21, 3, 6, 4, 0, 0, 0)), (43, (.iconst (-1), 1, 0, 0, 0, (-1), 0)), (44, (.invokestatic 50, 3, 2, 2, 0, 0, 0)), (47, (.aload_n 0, 1, 0, 0, 0, 0, 0)), (48, (.getfield 24, 3, 6, 5, 0, 0, 0)), (51, (.iconst (-1), 1, 0, 0, 0, (-1), 0)), (52, (.invokestatic 50, 3, 2, 2, 0, 0, 0)), (55, (.aload_n 0, 1, 0, 0, 0, 0, 0)), (56, (.getfield 27, 3, 6, 6, 0, 0, 0)), (59, (.iconst (-1), 1, 0, 0, 0, (-1), 0)), (60, (.invokestatic 50, 3, 2, 2, 0, 0, 0)), (63, (.aload_n 0, 1, 0, 0, 0, 0, 0)), (64, (.iconst 0, 1, 0, 0, 0, 0, 0)), (65, (.putfield 56, 3, 6, 7, 0, 0, 0)), (68, (.aload_n 0, 1, 0, 0, 0, 0, 0)), (69, (.iconst 0, 1, 0, 0, 0, 0, 0)), (70, (.putfield 59, 3, 6, 8, 0, 0, 0)), (73, (.aload_n 0, 1, 0, 0, 0, 0, 0)), (74, (.iconst 0, 1, 0, 0, 0, 0, 0)), (75, (.putfield 62, 3, 6, 9, 0, 0, 0)), (78, (.return_, 1, 0, 0, 0, 0, 0))]
def cd_6 : List (Nat × Ent) := [(0, (.aload_n 0, 1, 0, 0, 0, 0, 0)), (1, (.getfield 12, 3, 11, 0, 0, 0, 0)), (4, (.lload_n 1, 1, 1, 0, 0, 0, 0)), (5, (.invokevirtual 84, 3, 7, 2, 0, 0, 0)), (8, (.aload_n 0, 1, 0, 0, 0, 0, 0)), (9, (.getfield 12, 3, 11, 0, 0, 0, 0)), (12, (.lload_n 3, 1, 3, 0, 0, 0, 0)), (13, (.invokevirtual 84, 3, 7, 2, 0, 0, 0)), (16, (.aload_n 0, 1, 0, 0, 0, 0, 0)), (17, (.getfield 12, 3, 11, 0, 0, 0, 0)), (20, (.lload 5, 2, 5, 0, 0, 0, 0)), (22, (.invokevirtual 84, 3, 7, 2, 0, 0, 0)), (25, (.aload_n 0, 1, 0, 0, 0, 0, 0)), (26, (.getfield 12, 3, 11, 0, 0, 0, 0)), (29, (.getfield 88, 3, 7, 0, 0, 0, 0)), (32, (.ireturn, 1, 0, 0, 0, 0, 0))]
def cd_7 : List (Nat × Ent) := [(0, (.bipush (56), 2, 0, 0, 0, 56, 0)), (2, (.istore_n 3, 1, 3, 0, 0, 0, 0)), (3, (.iload_n 3, 1, 3, 0, 0, 0, 0)), (4, (.ifCond .lt (74), 3, 0, 78, 0, 0, 0)), (7, (.lload_n 1, 1, 1, 0, 0, 0, 0)), (8, (.iload_n 3, 1, 3, 0, 0, 0, 0)), (9, (.lushr, 1, 0, 0, 0, 0, 0)), (10, (.l2i, 1, 0, 0, 0, 0, 0)), (11, (.sipush (255), 3, 0, 0, 0, 255, 0)), (14, (.iand, 1, 0, 0, 0, 0, 0)), (15, (.istore 4, 2, 4, 0, 0, 0, 0)), (17, (.iload 4, 2, 4, 0, 0, 0, 0)), (19, (.bipush (10), 2, 0, 0, 0, 10, 0)), (21, (.if_icmp .eq (17), 3, 0, 38, 0, 0, 0)), (24, (.iload 4, 2, 4, 0, 0, 0, 0)), (26, (.bipush (32), 2, 0, 0, 0, 32, 0)), (28, (.if_icmp .lt (44), 3, 0, 72, 0, 0, 0)), (31, (.iload 4, 2, 4, 0, 0, 0, 0)), (33, (.bipush (126), 2, 0, 0, 0, 126, 0)), (35, (.if_icmp .gt (37), 3, 0, 72, 0, 0, 0)), (38, (.aload_n 0, 1, 0, 0, 0, 0, 0)), (39, (.getfield 15, 3, 7, 0, 0, 0, 0)), (42, (.aload_n 0, 1, 0, 0, 0, 0, 0)), (43, (.getfield 11, 3, 7, 4, 0, 0, 0)), (46, (.arraylength, 1, 0, 0, 0, 0, 0)), (47, (.if_icmp .ge (25), 3, 0, 72, 0, 0, 0)), (50, (.aload_n 0, 1, 0, 0, 0, 0, 0)), (51, (.getfield 11, 3, 7, 4, 0, 0, 0)), (54, (.aload_n 0, 1, 0, 0, 0, 0, 0)), (55, (.getfield 15, 3, 7, 0, 0, 0, 0)), (58, (.iload 4, 2, 4, 0, 0, 0, 0)), (60, (.i2c, 1, 0, 0, 0, 0, 0)), (61, (.castore, 1, 0, 0, 0, 0, 0)), (62, (.aload_n 0, 1, 0, 0, 0, 0, 0)), (63, (.dup, 1, 0, 0, 0, 0, 0)), (64, (.getfield 15, 3, 7, 0, 0, 0, 0)), (67, (.iconst 1, 1, 0, 0, 0, 1, 0)), (68, (.iadd, 1, 0, 0, 0, 0, 0)), (69, (.putfield 15, 3, 7, 0, 0, 0, 0)), (72, (.iinc 3 (-8), 3, 3, 0, 0, (-8), 0)), (75, (.goto (-72), 3, 0, 3, 0, 0, 0)), (78, (.return_, 1, 0, 0, 0, 0, 0))]
def cd_8 : List (Nat × Ent) := [(0, (.aload_n 0, 1, 0, 0, 0, 0, 0)), (1, (.getfield 31, 3, 11, 3, 0, 0, 0)), (4, (.invokevirtual 92, 3, 9, 1, 1, 0, 0)), (7, (.istore_n 1, 1, 1, 0, 0, 0, 0)), (8, (.aload_n 0, 1, 0, 0, 0, 0, 0)), (9, (.getfield 12, 3, 11, 0, 0, 0, 0)), (12, (.invokevirtual 96, 3, 82, 1, 0, 0, 0)), (15, (.iload_n 1, 1, 1, 0, 0, 0, 0)), (16, (.ifCond .ne (38), 3, 0, 54, 0, 0, 0)), (19, (.aload_n 0, 1, 0, 0, 0, 0, 0)), (20, (.getfield 19, 3, 11, 1, 0, 0, 0)), (23, (.aload_n 0, 1, 0, 0, 0, 0, 0)), (24, (.getfield 23, 3, 11, 2, 0, 0, 0)), (27, (.invokevirtual 99, 3, 83, 2, 0, 0, 0)), (30, (.aload_n 0, 1, 0, 0, 0, 0, 0)), (31, (.getfield 50, 3, 11, 6, 0, 0, 0)), (34, (.invokevirtual 102, 3, 5, 1, 0, 0, 0)), (37, (.aload_n 0, 1, 0, 0, 0, 0, 0)), (38, (.getfield 38, 3, 11, 4, 0, 0, 0)), (41, (.invokevirtual 103, 3, 86, 1, 0, 0, 0)), (44, (.aload_n 0, 1, 0, 0, 0, 0, 0)), (45, (.iconst 0, 1, 0, 0, 0, 0, 0)), (46, (.putfield 104, 3, 11, 8, 0, 0, 0)), (49, (.aload_n 0, 1, 0, 0, 0, 0, 0)), (50, (.iconst 0, 1, 0, 0, 0, 0, 0)), (51, (.putfield 107, 3, 11, 10, 0, 0, 0)), (54, (.iload_n 1, 1, 1, 0, 0, 0, 0)), (55, (.ireturn, 1, 0, 0, 0, 0, 0))]
def cd_9 : List (Nat × Ent) := [(0, (.aload_n 0, 1, 0, 0, 0, 0, 0)), (1, (.getfield 15, 3, 10, 1, 0, 0, 0)), (4, (.invokevirtual 34, 3, 0, 1, 0, 0, 0)), (7, (.aload_n 0, 1, 0, 0, 0, 0, 0)), (8, (.iconst 0, 1, 0, 0, 0, 0, 0)), (9, (.putfield 37, 3, 10, 3, 0, 0, 0)), (12, (.aload_n 0, 1, 0, 0, 0, 0, 0)), (13, (.getfield 9, 3, 10, 0, 0, 0, 0)), (16, (.invokevirtual 41, 3, 10, 1, 0, 0, 0)), (19, (.iconst 0, 1, 0, 0, 0, 0, 0)), (20, (.istore_n 1, 1, 1, 0, 0, 0, 0)), (21, (.iload_n 1, 1, 1, 0, 0, 0, 0)), (22, (.sipush (1000), 3, 0, 0, 0, 1000, 0)), (25, (.if_icmp .ge (34), 3, 0, 59, 0, 0, 0)), (28, (.aload_n 0, 1, 0, 0, 0, 0, 0)), (29, (.getfield 9, 3, 10, 0, 0, 0, 0)), (32, (.invokevirtual 46, 3, 33, 1, 1, 0, 0)), (35, (.ifCond .ne (24), 3, 0, 59, 0, 0, 0)), (38, (.aload_n 0, 1, 0, 0, 0, 0, 0)), (39, (.invokevirtual 50, 3, 34, 1, 1, 0, 0)), (42, (.ifCond .ne (11), 3, 0, 53, 0, 0, 0)), (45, (.aload_n 0, 1, 0, 0, 0, 0, 0)), (46, (.getfield 9, 3, 10, 0, 0, 0, 0)), (49, (.getfield 53, 3, 7, 1, 0, 0, 0)), (52, (.ireturn, 1, 0, 0, 0, 0, 0)), (53, (.iinc 1 (1), 3, 1, 0, 0, 1, 0)), (56, (.goto (-35), 3, 0, 21, 0, 0, 0)), (59, (.iconst 0, 1, 0, 0, 0, 0, 0)), (60, (.ireturn, 1, 0, 0, 0, 0, 0))]
def cd_10 : List (Nat × Ent) := [(0, (.aload_n 0, 1, 0, 0, 0, 0, 0)), (1, (.iconst 0, 1, 0, 0, 0, 0, 0)), (2, (.putfield 19, 3, 7, 7, 0, 0, 0)), (5, (.aload_n 0, 1, 0, 0, 0, 0, 0)), (6, (.invokevirtual 22, 3, 11, 1, 0, 0, 0)), (9, (.return_, 1, 0, 0, 0, 0, 0))]
def cd_11 : List (Nat × Ent) := [(0, (.aload_n 0, 1, 0, 0, 0, 0, 0)), (1, (.getfield 19, 3, 7, 7, 0, 0, 0)), (4, (.aload_n 0, 1, 0, 0, 0, 0, 0)), (5, (.getfield 15, 3, 7, 0, 0, 0, 0)), (8, (.if_icmp .ge (44), 3, 0, 52, 0, 0, 0)), (11, (.aload_n 0, 1, 0, 0, 0, 0, 0)), (12, (.getfield 11, 3, 7, 4, 0, 0, 0)), (15, (.aload_n 0, 1, 0, 0, 0, 0, 0)), (16, (.getfield 19, 3, 7, 7, 0, 0, 0)), (19, (.caload, 1, 0, 0, 0, 0, 0)), (20, (.bipush (10), 2, 0, 0, 0, 10, 0)), (22, (.if_icmp .eq (17), 3, 0, 39, 0, 0, 0)), (25, (.aload_n 0, 1, 0, 0, 0, 0, 0)), (26, (.getfield 11, 3, 7, 4, 0, 0, 0)), (29, (.aload_n 0, 1, 0, 0, 0, 0, 0)), (30, (.getfield 19, 3, 7, 7, 0, 0, 0)), (33, (.caload, 1, 0, 0, 0, 0, 0)), (34, (.bipush (32), 2, 0, 0, 0, 32, 0)), (36, (.if_icmp .ne (16), 3, 0, 52, 0, 0, 0)), (39, (.aload_n 0, 1, 0, 0, 0, 0, 0)), (40, (.dup, 1, 0, 0, 0, 0, 0)), (41, (.getfield 19, 3, 7, 7, 0, 0, 0)), (44, (.iconst 1, 1, 0, 0, 0, 1, 0)), (45, (.iadd, 1, 0, 0, 0, 0, 0)), (46, (.putfield 19, 3, 7, 7, 0, 0, 0)), (49, (.goto (-49), 3, 0, 0, 0, 0, 0)), (52, (.aload_n 0, 1, 0, 0, 0, 0, 0)), (53, (.aload_n 0, 1, 0, 0, 0, 0, 0)), (54, (.getfield 19, 3, 7, 7, 0, 0, 0)), (57, (.putfield 25, 3, 7, 6, 0, 0, 0)), (60, (.aload_n 0, 1, 0, 0, 0, 0, 0)), (61, (.getfield 19, 3, 7, 7, 0, 0, 0)), (64, (.aload_n 0, 1, 0, 0, 0, 0, 0)), (65, (.getfield 15, 3, 7, 0, 0, 0, 0)), (68, (.if_icmp .lt (11), 3, 0, 79, 0, 0, 0)), (71, (.aload_n 0, 1, 0, 0, 0, 0, 0)), (72, (.iconst 4, 1, 0, 0, 0, 4, 0)), (73, (.putfield 28, 3, 7, 5, 0, 0, 0)), (76, (.goto (109), 3, 0, 185, 0, 0, 0)), (79, (.aload_n 0, 1, 0, 0, 0, 0, 0)), (80, (.getfield 11, 3, 7, 4, 0, 0, 0)), (83, (.aload_n 0, 1, 0, 0, 0, 0, 0)), (84, (.getfield 19, 3, 7, 7, 0, 0, 0)), (87, (.caload, 1, 0, 0, 0, 0, 0)), (88, (.bipush (97), 2, 0, 0, 0, 97, 0)), (90, (.if_icmp .lt (24), 3, 0, 114, 0, 0, 0)), (93, (.aload_n 0, 1, 0, 0, 0, 0, 0)), (94, (.getfield 11, 3, 7, 4, 0, 0, 0)), (97, (.aload_n 0, 1, 0, 0, 0, 0, 0)), (98, (.getfield 19, 3, 7, 7, 0, 0, 0)), (101, (.caload, 1, 0, 0, 0, 0, 0)), (102, (.bipush (122), 2, 0, 0, 0, 122, 0)), (104, (.if_icmp .gt (10), 3, 0, 114, 0, 0, 0)), (107, (.aload_n 0, 1, 0, 0, 0, 0, 0)), (108, (.invokevirtual 31, 3, 12, 1, 0, 0, 0)), (111, (.goto (74), 3, 0, 185, 0, 0, 0)), (114, (.aload_n 0, 1, 0, 0, 0, 0, 0)), (115, (.getfield 11, 3, 7, 4, 0, 0, 0)), (118, (.aload_n 0, 1, 0, 0, 0, 0, 0)), (119, (.getfield 19, 3, 7, 7, 0, 0, 0)), (122, (.caload, 1, 0, 0, 0, 0, 0)), (123, (.bipush (48), 2, 0, 0, 0, 48, 0)), (125, (.if_icmp .lt (24), 3, 0, 149, 0, 0, 0)), (128, (.aload_n 0, 1, 0, 0, 0, 0, 0)), (129, (.getfield 11, 3, 7, 4, 0, 0, 0)), (132, (.aload_n 0, 1, 0, 0, 0, 0, 0)), (133, (.getfield 19, 3, 7, 7, 0, 0, 0)), (136, (.caload, 1, 0, 0, 0, 0, 0)), (137, (.bipush (57), 2, 0, 0, 0, 57, 0)), (139, (.if_icmp .gt (10), 3, 0, 149, 0, 0, 0)), (142, (.aload_n 0, 1, 0, 0, 0, 0, 0)), (143, (.invokevirtual 34, 3, 13, 1, 0, 0, 0)), (146, (.goto (39), 3, 0, 185, 0, 0, 0)), (149, (.aload_n 0, 1, 0, 0, 0, 0, 0)), (150, (.ldc 37, 2, 0, 0, 1, 0, 0)), (152, (.aload_n 0, 1, 0, 0, 0, 0, 0)), (153, (.getfield 11, 3, 7, 4, 0, 0, 0)), (156, (.aload_n 0, 1, 0, 0, 0, 0, 0)), (157, (.getfield 19, 3, 7, 7, 0, 0, 0)), (160, (.caload, 1, 0, 0, 0, 0, 0)), (161, (.invokevirtual 39, 3, 14, 2, 1, 0, 0)), (164, (.ifCond .lt (7), 3, 0, 171, 0, 0, 0)), (167, (.iconst 3, 1, 0, 0, 0, 3, 0)), (168, (.goto (4), 3, 0, 172, 0, 0, 0)), (171, (.iconst 0, 1, 0, 0, 0, 0, 0)), (172, (.putfield 28, 3, 7, 5, 0, 0, 0)), (175, (.aload_n 0, 1, 0, 0, 0, 0, 0)), (176, (.dup, 1, 0, 0, 0, 0, 0)), (177, (.getfield 19, 3, 7, 7, 0, 0, 0)), (180, (.iconst 1, 1, 0, 0, 0, 1, 0)), (181, (.iadd, 1, 0, 0, 0, 0, 0)), (182, (.putfield 19, 3, 7, 7, 0, 0, 0)), (185, (.return_, 1, 0, 0, 0, 0, 0))]
def cd_12 : List (Nat × Ent) := [(0, (.aload_n 0, 1, 0, 0, 0, 0, 0)), (1, (.lconst 0, 1, 0, 0, 0, 0, 0)), (2, (.putfield 45, 3, 7, 8, 0, 0, 0)), (5, (.aload_n 0, 1, 0, 0, 0, 0, 0)), (6, (.getfield 19, 3, 7, 7, 0, 0, 0)), (9, (.aload_n 0, 1, 0, 0, 0, 0, 0)), (10, (.getfield 15, 3, 7, 0, 0, 0, 0)), (13, (.if_icmp .ge (72), 3, 0, 85, 0, 0, 0)), (16, (.aload_n 0, 1, 0, 0, 0, 0, 0)), (17, (.getfield 11, 3, 7, 4, 0, 0, 0)), (20, (.aload_n 0, 1, 0, 0, 0, 0, 0)), (21, (.getfield 19, 3, 7, 7, 0, 0, 0)), (24, (.caload, 1, 0, 0, 0, 0, 0)), (25, (.bipush (97), 2, 0, 0, 0, 97, 0)), (27, (.if_icmp .lt (58), 3, 0, 85, 0, 0, 0)), (30, (.aload_n 0, 1, 0, 0, 0, 0, 0)), (31, (.getfield 11, 3, 7, 4, 0, 0, 0)), (34, (.aload_n 0, 1, 0, 0, 0, 0, 0)), (35, (.getfield 19, 3, 7, 7, 0, 0, 0)), (38, (.caload, 1, 0, 0, 0, 0, 0)), (39, (.bipush (122), 2, 0, 0, 0, 122, 0)), (41, (.if_icmp .gt (44), 3, 0, 85, 0, 0, 0)), (44, (.aload_n 0, 1, 0, 0, 0, 0, 0)), (45, (.aload_n 0, 1, 0, 0, 0, 0, 0)), (46, (.getfield 45, 3, 7, 8, 0, 0, 0)), (49, (.ldc2_w 49, 3, 0, 0, 0, 0, 32)), (52, (.lmul, 1, 0, 0, 0, 0, 0)), (53, (.aload_n 0, 1, 0, 0, 0, 0, 0)), (54, (.getfield 11, 3, 7, 4, 0, 0, 0)), (57, (.aload_n 0, 1, 0, 0, 0, 0, 0)), (58, (.getfield 19, 3, 7, 7, 0, 0, 0)), (61, (.caload, 1, 0, 0, 0, 0, 0)), (62, (.bipush (97), 2, 0, 0, 0, 97, 0)), (64, (.isub, 1, 0, 0, 0, 0, 0)), (65, (.iconst 1, 1, 0, 0, 0, 1, 0)), (66, (.iadd, 1, 0, 0, 0, 0, 0)), (67, (.i2l, 1, 0, 0, 0, 0, 0)), (68, (.ladd, 1, 0, 0, 0, 0, 0)), (69, (.putfield 45, 3, 7, 8, 0, 0, 0)), (72, (.aload_n 0, 1, 0, 0, 0, 0, 0)), (73, (.dup, 1, 0, 0, 0, 0, 0)), (74, (.getfield 19, 3, 7, 7, 0, 0, 0)), (77, (.iconst 1, 1, 0, 0, 0, 1, 0)), (78, (.iadd, 1, 0, 0, 0, 0, 0)), (79, (.putfield 19, 3, 7, 7, 0, 0, 0)), (82, (.goto (-77), 3, 0, 5, 0, 0, 0)), (85, (.aload_n 0, 1, 0, 0, 0, 0, 0)), (86, (.aload_n 0, 1, 0, 0, 0, 0, 0)), (87, (.getfield 19, 3, 7, 7, 0, 0, 0)), (90, (.aload_n 0, 1, 0, 0, 0, 0, 0)), (91, (.getfield 25, 3, 7, 6, 0, 0, 0)), (94, (.isub, 1, 0, 0, 0, 0, 0)), (95, (.bipush (8), 2, 0, 0, 0, 8, 0)), (97, (.if_icmp .le (7), 3, 0, 104, 0, 0, 0)), (100, (.iconst 0, 1, 0, 0, 0, 0, 0)), (101, (.goto (4), 3, 0, 105, 0, 0, 0)), (104, (.iconst 1, 1, 0, 0, 0, 1, 0)), (105, (.putfield 28, 3, 7, 5, 0, 0, 0)), (108, (.return_, 1, 0, 0, 0, 0, 0))]
def cd_13 : List (Nat × Ent) := [(0, (.aload_n 0, 1, 0, 0, 0, 0, 0)), (1, (.iconst 0, 1, 0, 0, 0, 0, 0)), (2, (.putfield 51, 3, 7, 2, 0, 0, 0)), (5, (.aload_n 0, 1, 0, 0, 0, 0, 0)), (6, (.getfield 19, 3, 7, 7, 0, 0, 0)), (9, (.aload_n 0, 1, 0, 0, 0, 0, 0)), (10, (.getfield 15, 3, 7, 0, 0, 0, 0)), (13, (.if_icmp .ge (68), 3, 0, 81, 0, 0, 0)), (16, (.aload_n 0, 1, 0, 0, 0, 0, 0)), (17, (.getfield 11, 3, 7, 4, 0, 0, 0)), (20, (.aload_n 0, 1, 0, 0, 0, 0, 0)), (21, (.getfield 19, 3, 7, 7, 0, 0, 0)), (24, (.caload, 1, 0, 0, 0, 0, 0)), (25, (.bipush (48), 2, 0, 0, 0, 48, 0)), (27, (.if_icmp .lt (54), 3, 0, 81, 0, 0, 0)), (30, (.aload_n 0, 1, 0, 0, 0, 0, 0)), (31, (.getfield 11, 3, 7, 4, 0, 0, 0)), (34, (.aload_n 0, 1, 0, 0, 0, 0, 0)), (35, (.getfield 19, 3, 7, 7, 0, 0, 0)), (38, (.caload, 1, 0, 0, 0, 0, 0)), (39, (.bipush (57), 2, 0, 0, 0, 57, 0)), (41, (.if_icmp .gt (40), 3, 0, 81, 0, 0, 0)), (44, (.aload_n 0, 1, 0, 0, 0, 0, 0)), (45, (.aload_n 0, 1, 0, 0, 0, 0, 0)), (46, (.getfield 51, 3, 7, 2, 0, 0, 0)), (49, (.bipush (10), 2, 0, 0, 0, 10, 0)), (51, (.imul, 1, 0, 0, 0, 0, 0)), (52, (.aload_n 0, 1, 0, 0, 0, 0, 0)), (53, (.getfield 11, 3, 7, 4, 0, 0, 0)), (56, (.aload_n 0, 1, 0, 0, 0, 0, 0)), (57, (.getfield 19, 3, 7, 7, 0, 0, 0)), (60, (.caload, 1, 0, 0, 0, 0, 0)), (61, (.bipush (48), 2, 0, 0, 0, 48, 0)), (63, (.isub, 1, 0, 0, 0, 0, 0)), (64, (.iadd, 1, 0, 0, 0, 0, 0)), (65, (.putfield 51, 3, 7, 2, 0, 0, 0)), (68, (.aload_n 0, 1, 0, 0, 0, 0, 0)), (69, (.dup, 1, 0, 0, 0, 0, 0)), (70, (.getfield 19, 3, 7, 7, 0, 0, 0)), (73, (.iconst 1, 1, 0, 0, 0, 1, 0)), (74, (.iadd, 1, 0, 0, 0, 0, 0)), (75, (.putfield 19, 3, 7, 7, 0, 0, 0)), (78, (.goto (-73), 3, 0, 5, 0, 0, 0)), (81, (.aload_n 0, 1, 0, 0, 0, 0, 0)), (82, (.aload_n 0, 1, 0, 0, 0, 0, 0)), (83, (.getfield 19, 3, 7, 7, 0, 0, 0)), (86, (.aload_n 0, 1, 0, 0, 0, 0, 0)), (87, (.getfield 25, 3, 7, 6, 0, 0, 0)), (90, (.isub, 1, 0, 0, 0, 0, 0)), (91, (.iconst 4, 1, 0, 0, 0, 4, 0)), (92, (.if_icmp .le (7), 3, 0, 99, 0, 0, 0)), (95, (.iconst 0, 1, 0, 0, 0, 0, 0)), (96, (.goto (4), 3, 0, 100, 0, 0, 0)), (99, (.iconst 2, 1, 0, 0, 0, 2, 0)), (100, (.putfield 28, 3, 7, 5, 0, 0, 0)), (103, (.return_, 1, 0, 0, 0, 0, 0))]
def cd_14 : List (Nat × Ent) := [(0, (.aload_n 0, 1, 0, 0, 0, 0, 0)), (1, (.iload_n 1, 1, 1, 0, 0, 0, 0)), (2, (.iconst 0, 1, 0, 0, 0, 0, 0)), (3, (.invokevirtual 633, 3, 15, 3, 1, 0, 0)), (6, (.ireturn, 1, 0, 0, 0, 0, 0))]
def cd_15 : List (Nat × Ent) := [(0, (.aload_n 0, 1, 0, 0, 0, 0, 0)), (1, (.invokevirtual 492, 3, 16, 1, 1, 0, 0)), (4, (.ifCond .eq (19), 3, 0, 23, 0, 0, 0)), (7, (.aload_n 0, 1, 0, 0, 0, 0, 0)), (8, (.getfield 9, 3, 40, 0, 0, 0, 0)), (11, (.iload_n 1, 1, 1, 0, 0, 0, 0)), (12, (.iload_n 2, 1, 2, 0, 0, 0, 0)), (13, (.aload_n 0, 1, 0, 0, 0, 0, 0)), (14, (.invokevirtual 505, 3, 17, 1, 1, 0, 0)), (17, (.invokestatic 637, 3, 19, 4, 1, 0, 0)), (20, (.goto (16), 3, 0, 36, 0, 0, 0)), (23, (.aload_n 0, 1, 0, 0, 0, 0, 0)), (24, (.getfield 9, 3, 40, 0, 0, 0, 0)), (27, (.iload_n 1, 1, 1, 0, 0, 0, 0)), (28, (.iload_n 2, 1, 2, 0, 0, 0, 0)), (29, (.aload_n 0, 1, 0, 0, 0, 0, 0)), (30, (.invokevirtual 505, 3, 17, 1, 1, 0, 0)), (33, (.invokestatic 640, 3, 24, 4, 1, 0, 0)), (36, (.ireturn, 1, 0, 0, 0, 0, 0))]
def cd_16 : List (Nat × Ent) := [(0, (.getstatic 38, 3, 0, 0, 0, 0, 0)), (3, (.ifCond .eq (14), 3, 0, 17, 0, 0, 0)), (6, (.aload_n 0, 1, 0, 0, 0, 0, 0)), (7, (.getfield 15, 3, 40, 1, 0, 0, 0)), (10, (.ifCond .ne (7), 3, 0, 17, 0, 0, 0)), (13, (.iconst 1, 1, 0, 0, 0, 1, 0)), (14, (.goto (4), 3, 0, 18, 0, 0, 0)), (17, (.iconst 0, 1, 0, 0, 0, 0, 0)), (18, (.ireturn, 1, 0, 0, 1, 0, 0))]
def cd_17 : List (Nat × Ent) := [(0, (.aload_n 0, 1, 0, 0, 0, 0, 0)), (1, (.getfield 9, 3, 40, 0, 0, 0, 0)), (4, (.arraylength, 1, 0, 0, 0, 0, 0)), (5, (.aload_n 0, 1, 0, 0, 0, 0, 0)), (6, (.invokevirtual 335, 3, 18, 1, 1, 0, 0)), (9, (.ishr, 1, 0, 0, 0, 0, 0)), (10, (.ireturn, 1, 0, 0, 0, 0, 0))]
def cd_18 : List (Nat × Ent) := [(0, (.getstatic 38, 3, 0, 0, 0, 0, 0)), (3, (.ifCond .eq (10), 3, 0, 13, 0, 0, 0)), (6, (.aload_n 0, 1, 0, 0, 0, 0, 0)), (7, (.getfield 15, 3, 40, 1, 0, 0, 0)), (10, (.goto (4), 3, 0, 14, 0, 0, 0)), (13, (.iconst 1, 1, 0, 0, 0, 1, 0)), (14, (.ireturn, 1, 0, 0, 2, 0, 0))]
def cd_19 : List (Nat × Ent) := [(0, (.iload_n 1, 1, 1, 0, 0, 0, 0)), (1, (.invokestatic 88, 3, 20, 1, 1, 0, 0)), (4, (.ifCond .ne (5), 3, 0, 9, 0, 0, 0)), (7, (.iconst (-1), 1, 0, 0, 0, (-1), 0)), (8, (.ireturn, 1, 0, 0, 0, 0, 0)), (9, (.iload_n 2, 1, 2, 0, 0, 0, 0)), (10, (.iconst 0, 1, 0, 0, 0, 0, 0)), (11, (.invokestatic 92, 3, 21, 2, 1, 0, 0)), (14, (.istore_n 2, 1, 2, 0, 0, 0, 0)), (15, (.iload_n 3, 1, 3, 0, 0, 0, 0)), (16, (.aload_n 0, 1, 0, 0, 0, 0, 0)), (17, (.arraylength, 1, 0, 0, 0, 0, 0)), (18, (.invokestatic 38, 3, 22, 2, 1, 0, 0)), (21, (.istore_n 3, 1, 3, 0, 0, 0, 0)), (22, (.iload_n 2, 1, 2, 0, 0, 0, 0)), (23, (.iload_n 3, 1, 3, 0, 0, 0, 0)), (24, (.if_icmp .lt (5), 3, 0, 29, 0, 0, 0)), (27, (.iconst (-1), 1, 0, 0, 0, (-1), 0)), (28, (.ireturn, 1, 0, 0, 0, 0, 0)), (29, (.aload_n 0, 1, 0, 0, 0, 0, 0)), (30, (.iload_n 1, 1, 1, 0, 0, 0, 0)), (31, (.iload_n 2, 1, 2, 0, 0, 0, 0)), (32, (.iload_n 3, 1, 3, 0, 0, 0, 0)), (33, (.invokestatic 95, 3, 23, 4, 1, 0, 0)), (36, (.ireturn, 1, 0, 0, 0, 0, 0))]
def cd_20 : List (Nat × Ent) := [(0, (.iload_n 0, 1, 0, 0, 0, 0, 0)), (1, (.ifCond .lt (14), 3, 0, 15, 0, 0, 0)), (4, (.iload_n 0, 1, 0, 0, 0, 0, 0)), (5, (.sipush (255), 3, 0, 0, 0, 255, 0)), (8, (.if_icmp .gt (7), 3, 0, 15, 0, 0, 0)), (11, (.iconst 1, 1, 0, 0, 0, 1, 0)), (12, (.goto (4), 3, 0, 16, 0, 0, 0)), (15, (.iconst 0, 1, 0, 0, 0, 0, 0)), (16, (.ireturn, 1, 0, 0, 1, 0, 0))]
def cd_21 : List (Nat × Ent) := [(0, (.iload_n 0, 1, 0, 0, 0, 0, 0)), (1, (.iload_n 1, 1, 1, 0, 0, 0, 0)), (2, (.if_icmp .lt (7), 3, 0, 9, 0, 0, 0)), (5, (.iload_n 0, 1, 0, 0, 0, 0, 0)), (6, (.goto (4), 3, 0, 10, 0, 0, 0)), (9, (.iload_n 1, 1, 1, 0, 0, 0, 0)), (10, (.ireturn, 1, 0, 0, 0, 0, 0))]
def cd_22 : List (Nat × Ent) := [(0, (.iload_n 0, 1, 0, 0, 0, 0, 0)), (1, (.iload_n 1, 1, 1, 0, 0, 0, 0)), (2, (.if_icmp .gt (7), 3, 0, 9, 0, 0, 0)), (5, (.iload_n 0, 1, 0, 0, 0, 0, 0)), (6, (.goto (4), 3, 0, 10, 0, 0, 0)), (9, (.iload_n 1, 1, 1, 0, 0, 0, 0)), (10, (.ireturn, 1, 0, 0, 0, 0, 0))]
def cd_23 : List (Nat × Ent) := [(0, (.iload_n 1, 1, 1, 0, 0, 0, 0)), (1, (.i2b, 1, 0, 0, 0, 0, 0)), (2, (.istore 4, 2, 4, 0, 0, 0, 0)), (4, (.iload_n 2, 1, 2, 0, 0, 0, 0)), (5, (.istore 5, 2, 5, 0, 0, 0, 0)), (7, (.iload 5, 2, 5, 0, 0, 0, 0)), (9, (.iload_n 3, 1, 3, 0, 0, 0, 0)), (10, (.if_icmp .ge (21), 3, 0, 31, 0, 0, 0)), (13, (.aload_n 0, 1, 0, 0, 0, 0, 0)), (14, (.iload 5, 2, 5, 0, 0, 0, 0)), (16, (.baload, 1, 0, 0, 1, 0, 0)), (17, (.iload 4, 2, 4, 0, 0, 0, 0)), (19, (.if_icmp .ne (6), 3, 0, 25, 0, 0, 0)), (22, (.iload 5, 2, 5, 0, 0, 0, 0)), (24, (.ireturn, 1, 0, 0, 0, 0, 0)), (25, (.iinc 5 (1), 3, 5, 0, 0, 1, 0)), (28, (.goto (-21), 3, 0, 7, 0, 0, 0)), (31, (.iconst (-1), 1, 0, 0, 0, (-1), 0)), (32, (.ireturn, 1, 0, 0, 0, 0, 0))]
def cd_24 : List (Nat × Ent) := [(0, (.iload_n 2, 1, 2, 0, 0, 0, 0)), (1, (.iconst 0, 1, 0, 0, 0, 0, 0)), (2, (.invokestatic 224, 3, 21, 2, 1, 0, 0)), (5, (.istore_n 2, 1, 2, 0, 0, 0, 0)), (6, (.iload_n 3, 1, 3, 0, 0, 0, 0)), (7, (.aload_n 0, 1, 0, 0, 0, 0, 0)), (8, (.arraylength, 1, 0, 0, 0, 0, 0)), (9, (.iconst 1, 1, 0, 0, 0, 1, 0)), (10, (.ishr, 1, 0, 0, 0, 0, 0)), (11, (.invokestatic 183, 3, 22, 2, 1, 0, 0)), (14, (.istore_n 3, 1, 3, 0, 0, 0, 0)), (15, (.iload_n 2, 1, 2, 0, 0, 0, 0)), (16, (.iload_n 3, 1, 3, 0, 0, 0, 0)), (17, (.if_icmp .lt (5), 3, 0, 22, 0, 0, 0)), (20, (.iconst (-1), 1, 0, 0, 0, (-1), 0)), (21, (.ireturn, 1, 0, 0, 0, 0, 0)), (22, (.iload_n 1, 1, 1, 0, 0, 0, 0)), (23, (.ldc 227, 2, 0, 0, 0, 65536, 0)), (25, (.if_icmp .ge (11), 3, 0, 36, 0, 0, 0)), (28, (.aload_n 0, 1, 0, 0, 0, 0, 0)), (29, (.iload_n 1, 1, 1, 0, 0, 0, 0)), (30, (.iload_n 2, 1, 2, 0, 0, 0, 0)), (31, (.iload_n 3, 1, 3, 0, 0, 0, 0)), (32, (.invokestatic 228, 3, 25, 4, 1, 0, 0)), (35, (.ireturn, 1, 0, 0, 0, 0, 0)), (36, (.aload_n 0, 1, 0, 0, 0, 0, 0)), (37, (.iload_n 1, 1, 1, 0, 0, 0, 0)), (38, (.iload_n 2, 1, 2, 0, 0, 0, 0)), (39, (.iload_n 3, 1, 3, 0, 0, 0, 0)), (40, (.invokestatic 232, 3, 32, 4, 1, 0, 0)), (43, (.ireturn, 1, 0, 0, 0, 0, 0))]
def cd_25 : List (Nat × Ent) := [(0, (.iload_n 2, 1, 2, 0, 0, 0, 0)), (1, (.iload_n 3, 1, 3, 0, 0, 0, 0)), (2, (.aload_n 0, 1, 0, 0, 0, 0, 0)), (3, (.invokestatic 96, 3, 26, 3, 0, 0, 0)), (6, (.aload_n 0, 1, 0, 0, 0, 0, 0)), (7, (.iload_n 1, 1, 1, 0, 0, 0, 0)), (8, (.iload_n 2, 1, 2, 0, 0, 0, 0)), (9, (.iload_n 3, 1, 3, 0, 0, 0, 0)), (10, (.invokestatic 244, 3, 30, 4, 1, 0, 0)), (13, (.ireturn, 1, 0, 0, 0, 0, 0))]
def cd_26 : List (Nat × Ent) := [(0, (.iload_n 0, 1, 0, 0, 0, 0, 0)), (1, (.iload_n 1, 1, 1, 0, 0, 0, 0)), (2, (.aload_n 2, 1, 2, 0, 0, 0, 0)), (3, (.invokestatic 48, 3, 27, 1, 1, 0, 0)), (6, (.invokestatic 241, 3, 28, 3, 0, 0, 0)), (9, (.return_, 1, 0, 0, 0, 0, 0))]
def cd_27 : List (Nat × Ent) := [(0, (.aload_n 0, 1, 0, 0, 0, 0, 0)), (1, (.arraylength, 1, 0, 0, 0, 0, 0)), (2, (.iconst 1, 1, 0, 0, 0, 1, 0)), (3, (.ishr, 1, 0, 0, 0, 0, 0)), (4, (.ireturn, 1, 0, 0, 0, 0, 0))]
def cd_28 : List (Nat × Ent) := [(0, (.iload_n 0, 1, 0, 0, 0, 0, 0)), (1, (.iload_n 1, 1, 1, 0, 0, 0, 0)), (2, (.iload_n 2, 1, 2, 0, 0, 0, 0)), (3, (.getstatic 1053, 3, 0, 0, 1, 0, 0)), (6, (.invokestatic 1062, 3, 29, 4, 1, 0, 0)), (9, (.pop, 1, 0, 0, 0, 0, 0)), (10, (.return_, 1, 0, 0, 0, 0, 0))]
def cd_29 : List (Nat × Ent) := [(0, (.iload_n 0, 1, 0, 0, 0, 0, 0)), (1, (.ifCond .lt (13), 3, 0, 14, 0, 0, 0)), (4, (.iload_n 0, 1, 0, 0, 0, 0, 0)), (5, (.iload_n 1, 1, 1, 0, 0, 0, 0)), (6, (.if_icmp .gt (8), 3, 0, 14, 0, 0, 0)), (9, (.iload_n 1, 1, 1, 0, 0, 0, 0)), (10, (.iload_n 2, 1, 2, 0, 0, 0, 0)), (11, (.if_icmp .le (11), 3, 0, 22, 0, 0, 0)), (14, (.aload_n 3, 1, 3, 0, 0, 0, 0)), (15, (.iload_n 0, 1, 0, 0, 0, 0, 0)), (16, (.iload_n 1, 1, 1, 0, 0, 0, 0)), (17, (.iload_n 2, 1, 2, 0, 0, 0, 0)), (22, (.iload_n 0, 1, 0, 0, 0, 0, 0)), (23, (.ireturn, 1, 0, 0, 0, 0, 0))]
def cd_30 : List (Nat × Ent) := [(0, (.iload_n 2, 1, 2, 0, 0, 0, 0)), (1, (.istore 4, 2, 4, 0, 0, 0, 0)), (3, (.iload 4, 2, 4, 0, 0, 0, 0)), (5, (.iload_n 3, 1, 3, 0, 0, 0, 0)), (6, (.if_icmp .ge (22), 3, 0, 28, 0, 0, 0)), (9, (.aload_n 0, 1, 0, 0, 0, 0, 0)), (10, (.iload 4, 2, 4, 0, 0, 0, 0)), (12, (.invokestatic 71, 3, 31, 2, 1, 0, 0)), (15, (.iload_n 1, 1, 1, 0, 0, 0, 0)), (16, (.if_icmp .ne (6), 3, 0, 22, 0, 0, 0)), (19, (.iload 4, 2, 4, 0, 0, 0, 0)), (21, (.ireturn, 1, 0, 0, 0, 0, 0)), (22, (.iinc 4 (1), 3, 4, 0, 0, 1, 0)), (25, (.goto (-22), 3, 0, 3, 0, 0, 0)), (28, (.iconst (-1), 1, 0, 0, 0, (-1), 0)), (29, (.ireturn, 1, 0, 0, 0, 0, 0))]
def cd_31 : List (Nat × Ent) := [(3, (.ifCond .ne (25), 3, 0, 28, 0, 0, 0)), (6, (.iload_n 1, 1, 1, 0, 0, 0, 0)), (7, (.ifCond .lt (11), 3, 0, 18, 0, 0, 0)), (10, (.iload_n 1, 1, 1, 0, 0, 0, 0)), (11, (.aload_n 0, 1, 0, 0, 0, 0, 0)), (12, (.invokestatic 48, 3, 27, 1, 1, 0, 0)), (15, (.if_icmp .lt (13), 3, 0, 28, 0, 0, 0)), (21, (.dup, 1, 0, 0, 0, 0, 0)), (28, (.iload_n 1, 1, 1, 0, 0, 0, 0)), (29, (.iconst 1, 1, 0, 0, 0, 1, 0)), (30, (.ishl, 1, 0, 0, 0, 0, 0)), (31, (.istore_n 1, 1, 1, 0, 0, 0, 0)), (32, (.aload_n 0, 1, 0, 0, 0, 0, 0)), (33, (.iload_n 1, 1, 1, 0, 0, 0, 0)), (34, (.iinc 1 (1), 3, 1, 0, 0, 1, 0)), (37, (.baload, 1, 0, 0, 1, 0, 0)), (38, (.sipush (255), 3, 0, 0, 0, 255, 0)), (41, (.iand, 1, 0, 0, 0, 0, 0)), (45, (.ishl, 1, 0, 0, 0, 0, 0)), (46, (.aload_n 0, 1, 0, 0, 0, 0, 0)), (47, (.iload_n 1, 1, 1, 0, 0, 0, 0)), (48, (.baload, 1, 0, 0, 1, 0, 0)), (49, (.sipush (255), 3, 0, 0, 0, 255, 0)), (52, (.iand, 1, 0, 0, 0, 0, 0)), (56, (.ishl, 1, 0, 0, 0, 0, 0)), (57, (.ior, 1, 0, 0, 0, 0, 0)), (58, (.i2c, 1, 0, 0, 0, 0, 0)), (59, (.ireturn, 1, 0, 0, 3, 0, 0))]
def cd_32 : List (Nat × Ent) := [(0, (.iload_n 1, 1, 1, 0, 0, 0, 0)), (4, (.ifCond .eq (65), 3, 0, 69, 0, 0, 0)), (7, (.iload_n 1, 1, 1, 0, 0, 0, 0)), (11, (.istore 4, 2, 4, 0, 0, 0, 0)), (13, (.iload_n 1, 1, 1, 0, 0, 0, 0)), (17, (.istore 5, 2, 5, 0, 0, 0, 0)), (19, (.iload_n 2, 1, 2, 0, 0, 0, 0)), (20, (.iload_n 3, 1, 3, 0, 0, 0, 0)), (21, (.aload_n 0, 1, 0, 0, 0, 0, 0)), (22, (.invokestatic 96, 3, 26, 3, 0, 0, 0)), (25, (.iload_n 2, 1, 2, 0, 0, 0, 0)), (26, (.istore 6, 2, 6, 0, 0, 0, 0)), (28, (.iload 6, 2, 6, 0, 0, 0, 0)), (30, (.iload_n 3, 1, 3, 0, 0, 0, 0)), (31, (.iconst 1, 1, 0, 0, 0, 1, 0)), (32, (.isub, 1, 0, 0, 0, 0, 0)), (33, (.if_icmp .ge (36), 3, 0, 69, 0, 0, 0)), (36, (.aload_n 0, 1, 0, 0, 0, 0, 0)), (37, (.iload 6, 2, 6, 0, 0, 0, 0)), (39, (.invokestatic 71, 3, 31, 2, 1, 0, 0)), (42, (.iload 4, 2, 4, 0, 0, 0, 0)), (44, (.if_icmp .ne (19), 3, 0, 63, 0, 0, 0)), (47, (.aload_n 0, 1, 0, 0, 0, 0, 0)), (48, (.iload 6, 2, 6, 0, 0, 0, 0)), (50, (.iconst 1, 1, 0, 0, 0, 1, 0)), (51, (.iadd, 1, 0, 0, 0, 0, 0)), (52, (.invokestatic 71, 3, 31, 2, 1, 0, 0)), (55, (.iload 5, 2, 5, 0, 0, 0, 0)), (57, (.if_icmp .ne (6), 3, 0, 63, 0, 0, 0)), (60, (.iload 6, 2, 6, 0, 0, 0, 0)), (62, (.ireturn, 1, 0, 0, 0, 0, 0)), (63, (.iinc 6 (1), 3, 6, 0, 0, 1, 0)), (66, (.goto (-38), 3, 0, 28, 0, 0, 0)), (69, (.iconst (-1), 1, 0, 0, 0, (-1), 0)), (70, (.ireturn, 1, 0, 0, 0, 0, 0))]
def cd_33 : List (Nat × Ent) := [(0, (.aload_n 0, 1, 0, 0, 0, 0, 0)), (1, (.getfield 28, 3, 7, 5, 0, 0, 0)), (4, (.iconst 4, 1, 0, 0, 0, 4, 0)), (5, (.if_icmp .ne (7), 3, 0, 12, 0, 0, 0)), (8, (.iconst 1, 1, 0, 0, 0, 1, 0)), (9, (.goto (4), 3, 0, 13, 0, 0, 0)), (12, (.iconst 0, 1, 0, 0, 0, 0, 0)), (13, (.ireturn, 1, 0, 0, 1, 0, 0))]
def cd_34 : List (Nat × Ent) := [(0, (.aload_n 0, 1, 0, 0, 0, 0, 0)), (1, (.getfield 9, 3, 10, 0, 0, 0, 0)), (4, (.ldc 57, 2, 0, 1, 1, 0, 0)), (6, (.invokevirtual 59, 3, 35, 2, 1, 0, 0)), (9, (.ifCond .eq (8), 3, 0, 17, 0, 0, 0)), (12, (.aload_n 0, 1, 0, 0, 0, 0, 0)), (13, (.invokevirtual 63, 3, 42, 1, 1, 0, 0)), (16, (.ireturn, 1, 0, 0, 1, 0, 0)), (17, (.aload_n 0, 1, 0, 0, 0, 0, 0)), (18, (.getfield 9, 3, 10, 0, 0, 0, 0)), (21, (.ldc 66, 2, 0, 4, 1, 0, 0)), (23, (.invokevirtual 59, 3, 35, 2, 1, 0, 0)), (26, (.ifCond .eq (8), 3, 0, 34, 0, 0, 0)), (29, (.aload_n 0, 1, 0, 0, 0, 0, 0)), (30, (.invokevirtual 68, 3, 56, 1, 1, 0, 0)), (33, (.ireturn, 1, 0, 0, 1, 0, 0)), (34, (.aload_n 0, 1, 0, 0, 0, 0, 0)), (35, (.getfield 9, 3, 10, 0, 0, 0, 0)), (38, (.ldc 71, 2, 0, 8, 1, 0, 0)), (40, (.invokevirtual 59, 3, 35, 2, 1, 0, 0)), (43, (.ifCond .eq (8), 3, 0, 51, 0, 0, 0)), (46, (.aload_n 0, 1, 0, 0, 0, 0, 0)), (47, (.invokevirtual 73, 3, 58, 1, 1, 0, 0)), (50, (.ireturn, 1, 0, 0, 1, 0, 0)), (51, (.aload_n 0, 1, 0, 0, 0, 0, 0)), (52, (.getfield 9, 3, 10, 0, 0, 0, 0)), (55, (.ldc 76, 2, 0, 17, 1, 0, 0)), (57, (.invokevirtual 59, 3, 35, 2, 1, 0, 0)), (60, (.ifCond .eq (8), 3, 0, 68, 0, 0, 0)), (63, (.aload_n 0, 1, 0, 0, 0, 0, 0)), (64, (.invokevirtual 78, 3, 62, 1, 1, 0, 0)), (67, (.ireturn, 1, 0, 0, 1, 0, 0)), (68, (.aload_n 0, 1, 0, 0, 0, 0, 0)), (69, (.getfield 9, 3, 10, 0, 0, 0, 0)), (72, (.ldc 81, 2, 0, 18, 1, 0, 0)), (74, (.invokevirtual 59, 3, 35, 2, 1, 0, 0)), (77, (.ifCond .eq (8), 3, 0, 85, 0, 0, 0)), (80, (.aload_n 0, 1, 0, 0, 0, 0, 0)), (81, (.invokevirtual 83, 3, 66, 1, 1, 0, 0)), (84, (.ireturn, 1, 0, 0, 1, 0, 0)), (85, (.aload_n 0, 1, 0, 0, 0, 0, 0)), (86, (.getfield 9, 3, 10, 0, 0, 0, 0)), (89, (.ldc 86, 2, 0, 19, 1, 0, 0)), (91, (.invokevirtual 59, 3, 35, 2, 1, 0, 0)), (94, (.ifCond .eq (8), 3, 0, 102, 0, 0, 0)), (97, (.aload_n 0, 1, 0, 0, 0, 0, 0)), (98, (.invokevirtual 88, 3, 69, 1, 1, 0, 0)), (101, (.ireturn, 1, 0, 0, 1, 0, 0)), (102, (.aload_n 0, 1, 0, 0, 0, 0, 0)), (103, (.getfield 9, 3, 10, 0, 0, 0, 0)), (106, (.ldc 91, 2, 0, 20, 1, 0, 0)), (108, (.invokevirtual 59, 3, 35, 2, 1, 0, 0)), (111, (.ifCond .eq (19), 3, 0, 130, 0, 0, 0)), (114, (.aload_n 0, 1, 0, 0, 0, 0, 0)), (115, (.getfield 30, 3, 10, 2, 0, 0, 0)), (118, (.aload_n 0, 1, 0, 0, 0, 0, 0)), (119, (.getfield 15, 3, 10, 1, 0, 0, 0)), (122, (.getfield 21, 3, 9, 16, 0, 0, 0)), (125, (.iconst 1, 1, 0, 0, 0, 1, 0)), (126, (.invokevirtual 92, 3, 70, 3, 1, 0, 0)), (129, (.ireturn, 1, 0, 0, 1, 0, 0)), (130, (.aload_n 0, 1, 0, 0, 0, 0, 0)), (131, (.getfield 9, 3, 10, 0, 0, 0, 0)), (134, (.ldc 96, 2, 0, 29, 1, 0, 0)), (136, (.invokevirtual 59, 3, 35, 2, 1, 0, 0)), (139, (.ifCond .eq (21), 3, 0, 160, 0, 0, 0)), (142, (.aload_n 0, 1, 0, 0, 0, 0, 0)), (143, (.getfield 30, 3, 10, 2, 0, 0, 0)), (146, (.aload_n 0, 1, 0, 0, 0, 0, 0)), (147, (.getfield 15, 3, 10, 1, 0, 0, 0)), (150, (.getfield 98, 3, 9, 17, 0, 0, 0)), (153, (.iconst 0, 1, 0, 0, 0, 0, 0)), (154, (.invokevirtual 92, 3, 70, 3, 1, 0, 0)), (157, (.goto (11), 3, 0, 168, 0, 0, 0)), (160, (.aload_n 0, 1, 0, 0, 0, 0, 0)), (161, (.getfield 9, 3, 10, 0, 0, 0, 0)), (164, (.iconst 1, 1, 0, 0, 0, 1, 0)), (165, (.invokevirtual 100, 3, 45, 2, 1, 0, 0)), (168, (.ireturn, 1, 0, 0, 1, 0, 0))]
def cd_35 : List (Nat × Ent) := [(0, (.aload_n 1, 1, 1, 0, 0, 0, 0)), (1, (.invokevirtual 54, 3, 17, 1, 1, 0, 0)), (4, (.istore_n 2, 1, 2, 0, 0, 0, 0)), (5, (.aload_n 0, 1, 0, 0, 0, 0, 0)), (6, (.getfield 28, 3, 7, 5, 0, 0, 0)), (9, (.iconst 1, 1, 0, 0, 0, 1, 0)), (10, (.if_icmp .ne (27), 3, 0, 37, 0, 0, 0)), (13, (.aload_n 0, 1, 0, 0, 0, 0, 0)), (14, (.getfield 19, 3, 7, 7, 0, 0, 0)), (17, (.aload_n 0, 1, 0, 0, 0, 0, 0)), (18, (.getfield 25, 3, 7, 6, 0, 0, 0)), (21, (.isub, 1, 0, 0, 0, 0, 0)), (22, (.iload_n 2, 1, 2, 0, 0, 0, 0)), (23, (.if_icmp .ne (14), 3, 0, 37, 0, 0, 0)), (26, (.aload_n 0, 1, 0, 0, 0, 0, 0)), (27, (.getfield 19, 3, 7, 7, 0, 0, 0)), (30, (.aload_n 0, 1, 0, 0, 0, 0, 0)), (31, (.getfield 15, 3, 7, 0, 0, 0, 0)), (34, (.if_icmp .le (5), 3, 0, 39, 0, 0, 0)), (37, (.iconst 0, 1, 0, 0, 0, 0, 0)), (38, (.ireturn, 1, 0, 0, 1, 0, 0)), (39, (.iconst 0, 1, 0, 0, 0, 0, 0)), (40, (.istore_n 3, 1, 3, 0, 0, 0, 0)), (41, (.iload_n 3, 1, 3, 0, 0, 0, 0)), (42, (.iload_n 2, 1, 2, 0, 0, 0, 0)), (43, (.if_icmp .ge (30), 3, 0, 73, 0, 0, 0)), (46, (.aload_n 0, 1, 0, 0, 0, 0, 0)), (47, (.getfield 11, 3, 7, 4, 0, 0, 0)), (50, (.aload_n 0, 1, 0, 0, 0, 0, 0)), (51, (.getfield 25, 3, 7, 6, 0, 0, 0)), (54, (.iload_n 3, 1, 3, 0, 0, 0, 0)), (55, (.iadd, 1, 0, 0, 0, 0, 0)), (56, (.caload, 1, 0, 0, 0, 0, 0)), (57, (.aload_n 1, 1, 1, 0, 0, 0, 0)), (58, (.iload_n 3, 1, 3, 0, 0, 0, 0)), (59, (.invokevirtual 58, 3, 36, 2, 1, 0, 0)), (62, (.if_icmp .eq (5), 3, 0, 67, 0, 0, 0)), (65, (.iconst 0, 1, 0, 0, 0, 0, 0)), (66, (.ireturn, 1, 0, 0, 1, 0, 0)), (67, (.iinc 3 (1), 3, 3, 0, 0, 1, 0)), (70, (.goto (-29), 3, 0, 41, 0, 0, 0)), (73, (.iconst 1, 1, 0, 0, 0, 1, 0)), (74, (.ireturn, 1, 0, 0, 1, 0, 0))]
def cd_36 : List (Nat × Ent) := [(0, (.aload_n 0, 1, 0, 0, 0, 0, 0)), (1, (.invokevirtual 492, 3, 16, 1, 1, 0, 0)), (4, (.ifCond .eq (12), 3, 0, 16, 0, 0, 0)), (7, (.aload_n 0, 1, 0, 0, 0, 0, 0)), (8, (.getfield 9, 3, 40, 0, 0, 0, 0)), (11, (.iload_n 1, 1, 1, 0, 0, 0, 0)), (12, (.invokestatic 495, 3, 37, 2, 1, 0, 0)), (15, (.ireturn, 1, 0, 0, 3, 0, 0)), (16, (.aload_n 0, 1, 0, 0, 0, 0, 0)), (17, (.getfield 9, 3, 40, 0, 0, 0, 0)), (20, (.iload_n 1, 1, 1, 0, 0, 0, 0)), (21, (.invokestatic 498, 3, 40, 2, 1, 0, 0)), (24, (.ireturn, 1, 0, 0, 3, 0, 0))]
def cd_37 : List (Nat × Ent) := [(0, (.iload_n 1, 1, 1, 0, 0, 0, 0)), (1, (.aload_n 0, 1, 0, 0, 0, 0, 0)), (2, (.arraylength, 1, 0, 0, 0, 0, 0)), (3, (.invokestatic 9, 3, 38, 2, 0, 0, 0)), (6, (.aload_n 0, 1, 0, 0, 0, 0, 0)), (7, (.iload_n 1, 1, 1, 0, 0, 0, 0)), (8, (.baload, 1, 0, 0, 1, 0, 0)), (9, (.sipush (255), 3, 0, 0, 0, 255, 0)), (12, (.iand, 1, 0, 0, 0, 0, 0)), (13, (.i2c, 1, 0, 0, 0, 0, 0)), (14, (.ireturn, 1, 0, 0, 3, 0, 0))]
def cd_38 : List (Nat × Ent) := [(0, (.iload_n 0, 1, 0, 0, 0, 0, 0)), (1, (.iload_n 1, 1, 1, 0, 0, 0, 0)), (2, (.getstatic 1053, 3, 0, 0, 1, 0, 0)), (5, (.invokestatic 1059, 3, 39, 3, 1, 0, 0)), (8, (.pop, 1, 0, 0, 0, 0, 0)), (9, (.return_, 1, 0, 0, 0, 0, 0))]
def cd_39 : List (Nat × Ent) := [(0, (.iload_n 0, 1, 0, 0, 0, 0, 0)), (1, (.ifCond .lt (8), 3, 0, 9, 0, 0, 0)), (4, (.iload_n 0, 1, 0, 0, 0, 0, 0)), (5, (.iload_n 1, 1, 1, 0, 0, 0, 0)), (6, (.if_icmp .lt (10), 3, 0, 16, 0, 0, 0)), (9, (.aload_n 2, 1, 2, 0, 0, 0, 0)), (10, (.iload_n 0, 1, 0, 0, 0, 0, 0)), (11, (.iload_n 1, 1, 1, 0, 0, 0, 0)), (16, (.iload_n 0, 1, 0, 0, 0, 0, 0)), (17, (.ireturn, 1, 0, 0, 0, 0, 0))]
def cd_40 : List (Nat × Ent) := [(0, (.iload_n 1, 1, 1, 0, 0, 0, 0)), (1, (.aload_n 0, 1, 0, 0, 0, 0, 0)), (2, (.invokestatic 67, 3, 41, 2, 0, 0, 0)), (5, (.aload_n 0, 1, 0, 0, 0, 0, 0)), (6, (.iload_n 1, 1, 1, 0, 0, 0, 0)), (7, (.invokestatic 71, 3, 31, 2, 1, 0, 0)), (10, (.ireturn, 1, 0, 0, 3, 0, 0))]
def cd_41 : List (Nat × Ent) := [(0, (.iload_n 0, 1, 0, 0, 0, 0, 0)), (1, (.aload_n 1, 1, 1, 0, 0, 0, 0)), (2, (.invokestatic 48, 3, 27, 1, 1, 0, 0)), (5, (.invokestatic 414, 3, 38, 2, 0, 0, 0)), (8, (.return_, 1, 0, 0, 0, 0, 0))]
def cd_42 : List (Nat × Ent) := [(0, (.aload_n 0, 1, 0, 0, 0, 0, 0)), (1, (.getfield 15, 3, 10, 1, 0, 0, 0)), (4, (.getfield 104, 3, 9, 0, 0, 0, 0)), (7, (.getfield 108, 3, 4, 0, 0, 0, 0)), (10, (.istore_n 1, 1, 1, 0, 0, 0, 0)), (11, (.aload_n 0, 1, 0, 0, 0, 0, 0)), (12, (.aload_n 0, 1, 0, 0, 0, 0, 0)), (13, (.getfield 15, 3, 10, 1, 0, 0, 0)), (16, (.getfield 104, 3, 9, 0, 0, 0, 0)), (19, (.invokevirtual 113, 3, 43, 2, 1, 0, 0)), (22, (.ifCond .eq (42), 3, 0, 64, 0, 0, 0)), (25, (.aload_n 0, 1, 0, 0, 0, 0, 0)), (26, (.getfield 9, 3, 10, 0, 0, 0, 0)), (29, (.ldc 117, 2, 0, 3, 1, 0, 0)), (31, (.iconst 0, 1, 0, 0, 0, 0, 0)), (32, (.bipush (9), 2, 0, 0, 0, 9, 0)), (34, (.aload_n 0, 1, 0, 0, 0, 0, 0)), (35, (.getfield 15, 3, 10, 1, 0, 0, 0)), (38, (.getfield 119, 3, 9, 3, 0, 0, 0)), (41, (.iload_n 1, 1, 1, 0, 0, 0, 0)), (42, (.invokevirtual 122, 3, 51, 6, 1, 0, 0)), (45, (.ifCond .eq (19), 3, 0, 64, 0, 0, 0)), (48, (.aload_n 0, 1, 0, 0, 0, 0, 0)), (49, (.getfield 9, 3, 10, 0, 0, 0, 0)), (52, (.bipush (59), 2, 0, 0, 0, 59, 0)), (54, (.invokevirtual 126, 3, 54, 2, 1, 0, 0)), (57, (.ifCond .eq (7), 3, 0, 64, 0, 0, 0)), (60, (.iconst 1, 1, 0, 0, 0, 1, 0)), (61, (.goto (4), 3, 0, 65, 0, 0, 0)), (64, (.iconst 0, 1, 0, 0, 0, 0, 0)), (65, (.ireturn, 1, 0, 0, 1, 0, 0))]
def cd_43 : List (Nat × Ent) := [(0, (.aload_n 1, 1, 1, 0, 0, 0, 0)), (1, (.invokevirtual 166, 3, 44, 1, 1, 0, 0)), (4, (.ifCond .eq (12), 3, 0, 16, 0, 0, 0)), (7, (.aload_n 0, 1, 0, 0, 0, 0, 0)), (8, (.getfield 9, 3, 10, 0, 0, 0, 0)), (11, (.iconst 5, 1, 0, 0, 0, 5, 0)), (12, (.invokevirtual 100, 3, 45, 2, 1, 0, 0)), (15, (.ireturn, 1, 0, 0, 1, 0, 0)), (16, (.aload_n 0, 1, 0, 0, 0, 0, 0)), (17, (.getfield 9, 3, 10, 0, 0, 0, 0)), (20, (.invokevirtual 169, 3, 11, 1, 0, 0, 0)), (23, (.aload_n 0, 1, 0, 0, 0, 0, 0)), (24, (.getfield 9, 3, 10, 0, 0, 0, 0)), (27, (.aload_n 0, 1, 0, 0, 0, 0, 0)), (28, (.getfield 15, 3, 10, 1, 0, 0, 0)), (31, (.aload_n 1, 1, 1, 0, 0, 0, 0)), (32, (.invokevirtual 172, 3, 46, 3, 1, 0, 0)), (35, (.ireturn, 1, 0, 0, 1, 0, 0))]
def cd_44 : List (Nat × Ent) := [(0, (.aload_n 0, 1, 0, 0, 0, 0, 0)), (1, (.getfield 15, 3, 4, 0, 0, 0, 0)), (4, (.aload_n 0, 1, 0, 0, 0, 0, 0)), (5, (.getfield 9, 3, 4, 1, 0, 0, 0)), (8, (.arraylength, 1, 0, 0, 0, 0, 0)), (9, (.if_icmp .lt (7), 3, 0, 16, 0, 0, 0)), (12, (.iconst 1, 1, 0, 0, 0, 1, 0)), (13, (.goto (4), 3, 0, 17, 0, 0, 0)), (16, (.iconst 0, 1, 0, 0, 0, 0, 0)), (17, (.ireturn, 1, 0, 0, 1, 0, 0))]
def cd_45 : List (Nat × Ent) := [(0, (.aload_n 0, 1, 0, 0, 0, 0, 0)), (1, (.iload_n 1, 1, 1, 0, 0, 0, 0)), (2, (.bipush (16), 2, 0, 0, 0, 16, 0)), (4, (.aload_n 0, 1, 0, 0, 0, 0, 0)), (5, (.getfield 25, 3, 7, 6, 0, 0, 0)), (8, (.imul, 1, 0, 0, 0, 0, 0)), (9, (.iadd, 1, 0, 0, 0, 0, 0)), (10, (.putfield 64, 3, 7, 1, 0, 0, 0)), (13, (.iconst 0, 1, 0, 0, 0, 0, 0)), (14, (.ireturn, 1, 0, 0, 1, 0, 0))]
def cd_46 : List (Nat × Ent) := [(0, (.aload_n 0, 1, 0, 0, 0, 0, 0)), (1, (.invokevirtual 86, 3, 47, 1, 1, 0, 0)), (4, (.ifCond .ne (9), 3, 0, 13, 0, 0, 0)), (7, (.aload_n 0, 1, 0, 0, 0, 0, 0)), (8, (.iconst 1, 1, 0, 0, 0, 1, 0)), (9, (.invokevirtual 71, 3, 45, 2, 1, 0, 0)), (12, (.ireturn, 1, 0, 0, 1, 0, 0)), (13, (.aload_n 1, 1, 1, 0, 0, 0, 0)), (14, (.aload_n 0, 1, 0, 0, 0, 0, 0)), (15, (.getfield 45, 3, 7, 8, 0, 0, 0)), (18, (.invokevirtual 90, 3, 48, 2, 1, 0, 0)), (21, (.ifCond .eq (9), 3, 0, 30, 0, 0, 0)), (24, (.aload_n 0, 1, 0, 0, 0, 0, 0)), (25, (.iconst 3, 1, 0, 0, 0, 3, 0)), (26, (.invokevirtual 71, 3, 45, 2, 1, 0, 0)), (29, (.ireturn, 1, 0, 0, 1, 0, 0)), (30, (.aload_n 2, 1, 2, 0, 0, 0, 0)), (31, (.aload_n 0, 1, 0, 0, 0, 0, 0)), (32, (.getfield 45, 3, 7, 8, 0, 0, 0)), (35, (.invokevirtual 96, 3, 50, 2, 0, 0, 0)), (38, (.aload_n 0, 1, 0, 0, 0, 0, 0)), (39, (.invokevirtual 22, 3, 11, 1, 0, 0, 0)), (42, (.iconst 1, 1, 0, 0, 0, 1, 0)), (43, (.ireturn, 1, 0, 0, 1, 0, 0))]
def cd_47 : List (Nat × Ent) := [(0, (.aload_n 0, 1, 0, 0, 0, 0, 0)), (1, (.getfield 28, 3, 7, 5, 0, 0, 0)), (4, (.iconst 1, 1, 0, 0, 0, 1, 0)), (5, (.if_icmp .eq (5), 3, 0, 10, 0, 0, 0)), (8, (.iconst 0, 1, 0, 0, 0, 0, 0)), (9, (.ireturn, 1, 0, 0, 1, 0, 0)), (10, (.lconst 0, 1, 0, 0, 0, 0, 0)), (11, (.lstore_n 1, 1, 1, 0, 0, 0, 0)), (12, (.iconst 0, 1, 0, 0, 0, 0, 0)), (13, (.istore_n 3, 1, 3, 0, 0, 0, 0)), (14, (.iload_n 3, 1, 3, 0, 0, 0, 0)), (15, (.ldc 62, 2, 0, 2, 1, 0, 0)), (17, (.invokevirtual 54, 3, 17, 1, 1, 0, 0)), (20, (.if_icmp .ge (55), 3, 0, 75, 0, 0, 0)), (23, (.ldc 62, 2, 0, 2, 1, 0, 0)), (25, (.iload_n 3, 1, 3, 0, 0, 0, 0)), (26, (.invokevirtual 58, 3, 36, 2, 1, 0, 0)), (29, (.istore 4, 2, 4, 0, 0, 0, 0)), (31, (.iload 4, 2, 4, 0, 0, 0, 0)), (33, (.bipush (32), 2, 0, 0, 0, 32, 0)), (35, (.if_icmp .eq (21), 3, 0, 56, 0, 0, 0)), (38, (.lload_n 1, 1, 1, 0, 0, 0, 0)), (39, (.ldc2_w 49, 3, 0, 0, 0, 0, 32)), (42, (.lmul, 1, 0, 0, 0, 0, 0)), (43, (.iload 4, 2, 4, 0, 0, 0, 0)), (45, (.bipush (97), 2, 0, 0, 0, 97, 0)), (47, (.isub, 1, 0, 0, 0, 0, 0)), (48, (.iconst 1, 1, 0, 0, 0, 1, 0)), (49, (.iadd, 1, 0, 0, 0, 0, 0)), (50, (.i2l, 1, 0, 0, 0, 0, 0)), (51, (.ladd, 1, 0, 0, 0, 0, 0)), (52, (.lstore_n 1, 1, 1, 0, 0, 0, 0)), (53, (.goto (16), 3, 0, 69, 0, 0, 0)), (56, (.lload_n 1, 1, 1, 0, 0, 0, 0)), (57, (.aload_n 0, 1, 0, 0, 0, 0, 0)), (58, (.getfield 45, 3, 7, 8, 0, 0, 0)), (61, (.lcmp, 1, 0, 0, 0, 0, 0)), (62, (.ifCond .ne (5), 3, 0, 67, 0, 0, 0)), (65, (.iconst 0, 1, 0, 0, 0, 0, 0)), (66, (.ireturn, 1, 0, 0, 1, 0, 0)), (67, (.lconst 0, 1, 0, 0, 0, 0, 0)), (68, (.lstore_n 1, 1, 1, 0, 0, 0, 0)), (69, (.iinc 3 (1), 3, 3, 0, 0, 1, 0)), (72, (.goto (-58), 3, 0, 14, 0, 0, 0)), (75, (.iconst 1, 1, 0, 0, 0, 1, 0)), (76, (.ireturn, 1, 0, 0, 1, 0, 0))]
def cd_48 : List (Nat × Ent) := [(0, (.aload_n 0, 1, 0, 0, 0, 0, 0)), (1, (.getfield 12, 3, 9, 0, 0, 0, 0)), (4, (.lload_n 1, 1, 1, 0, 0, 0, 0)), (5, (.invokevirtual 103, 3, 49, 2, 1, 0, 0)), (8, (.iconst (-1), 1, 0, 0, 0, (-1), 0)), (9, (.if_icmp .ne (27), 3, 0, 36, 0, 0, 0)), (12, (.aload_n 0, 1, 0, 0, 0, 0, 0)), (13, (.getfield 18, 3, 9, 1, 0, 0, 0)), (16, (.lload_n 1, 1, 1, 0, 0, 0, 0)), (17, (.invokevirtual 103, 3, 49, 2, 1, 0, 0)), (20, (.iconst (-1), 1, 0, 0, 0, (-1), 0)), (21, (.if_icmp .ne (15), 3, 0, 36, 0, 0, 0)), (24, (.aload_n 0, 1, 0, 0, 0, 0, 0)), (25, (.getfield 21, 3, 9, 2, 0, 0, 0)), (28, (.lload_n 1, 1, 1, 0, 0, 0, 0)), (29, (.invokevirtual 103, 3, 49, 2, 1, 0, 0)), (32, (.iconst (-1), 1, 0, 0, 0, (-1), 0)), (33, (.if_icmp .eq (7), 3, 0, 40, 0, 0, 0)), (36, (.iconst 1, 1, 0, 0, 0, 1, 0)), (37, (.goto (4), 3, 0, 41, 0, 0, 0)), (40, (.iconst 0, 1, 0, 0, 0, 0, 0)), (41, (.ireturn, 1, 0, 0, 1, 0, 0))]
def cd_49 : List (Nat × Ent) := [(0, (.iconst 0, 1, 0, 0, 0, 0, 0)), (1, (.istore_n 3, 1, 3, 0, 0, 0, 0)), (2, (.iload_n 3, 1, 3, 0, 0, 0, 0)), (3, (.aload_n 0, 1, 0, 0, 0, 0, 0)), (4, (.getfield 15, 3, 4, 0, 0, 0, 0)), (7, (.if_icmp .ge (22), 3, 0, 29, 0, 0, 0)), (10, (.aload_n 0, 1, 0, 0, 0, 0, 0)), (11, (.getfield 9, 3, 4, 1, 0, 0, 0)), (14, (.iload_n 3, 1, 3, 0, 0, 0, 0)), (15, (.laload, 1, 0, 0, 0, 0, 0)), (16, (.lload_n 1, 1, 1, 0, 0, 0, 0)), (17, (.lcmp, 1, 0, 0, 0, 0, 0)), (18, (.ifCond .ne (5), 3, 0, 23, 0, 0, 0)), (21, (.iload_n 3, 1, 3, 0, 0, 0, 0)), (22, (.ireturn, 1, 0, 0, 0, 0, 0)), (23, (.iinc 3 (1), 3, 3, 0, 0, 1, 0)), (26, (.goto (-24), 3, 0, 2, 0, 0, 0)), (29, (.iconst (-1), 1, 0, 0, 0, (-1), 0)), (30, (.ireturn, 1, 0, 0, 0, 0, 0))]
def cd_50 : List (Nat × Ent) := [(0, (.aload_n 0, 1, 0, 0, 0, 0, 0)), (1, (.getfield 15, 3, 4, 0, 0, 0, 0)), (4, (.aload_n 0, 1, 0, 0, 0, 0, 0)), (5, (.getfield 9, 3, 4, 1, 0, 0, 0)), (8, (.arraylength, 1, 0, 0, 0, 0, 0)), (9, (.if_icmp .ge (23), 3, 0, 32, 0, 0, 0)), (12, (.aload_n 0, 1, 0, 0, 0, 0, 0)), (13, (.getfield 9, 3, 4, 1, 0, 0, 0)), (16, (.aload_n 0, 1, 0, 0, 0, 0, 0)), (17, (.getfield 15, 3, 4, 0, 0, 0, 0)), (20, (.lload_n 1, 1, 1, 0, 0, 0, 0)), (21, (.lastore, 1, 0, 0, 0, 0, 0)), (22, (.aload_n 0, 1, 0, 0, 0, 0, 0)), (23, (.dup, 1, 0, 0, 0, 0, 0)), (24, (.getfield 15, 3, 4, 0, 0, 0, 0)), (27, (.iconst 1, 1, 0, 0, 0, 1, 0)), (28, (.iadd, 1, 0, 0, 0, 0, 0)), (29, (.putfield 15, 3, 4, 0, 0, 0, 0)), (32, (.return_, 1, 0, 0, 0, 0, 0))]
def cd_51 : List (Nat × Ent) := [(0, (.aload_n 0, 1, 0, 0, 0, 0, 0)), (1, (.aload_n 1, 1, 1, 0, 0, 0, 0)), (2, (.invokevirtual 79, 3, 52, 2, 1, 0, 0)), (5, (.ifCond .eq (12), 3, 0, 17, 0, 0, 0)), (8, (.aload_n 0, 1, 0, 0, 0, 0, 0)), (9, (.iload_n 2, 1, 2, 0, 0, 0, 0)), (10, (.iload_n 3, 1, 3, 0, 0, 0, 0)), (11, (.invokevirtual 82, 3, 53, 3, 1, 0, 0)), (14, (.ifCond .ne (5), 3, 0, 19, 0, 0, 0)), (17, (.iconst 0, 1, 0, 0, 0, 0, 0)), (18, (.ireturn, 1, 0, 0, 1, 0, 0)), (19, (.iload 5, 2, 5, 0, 0, 0, 0)), (21, (.ifCond .lt (20), 3, 0, 41, 0, 0, 0)), (24, (.iload 5, 2, 5, 0, 0, 0, 0)), (26, (.aload 4, 2, 4, 0, 0, 0, 0)), (28, (.arraylength, 1, 0, 0, 0, 0, 0)), (29, (.if_icmp .ge (12), 3, 0, 41, 0, 0, 0)), (32, (.aload 4, 2, 4, 0, 0, 0, 0)), (34, (.iload 5, 2, 5, 0, 0, 0, 0)), (36, (.aload_n 0, 1, 0, 0, 0, 0, 0)), (37, (.getfield 51, 3, 7, 2, 0, 0, 0)), (40, (.iastore, 1, 0, 0, 0, 0, 0)), (41, (.aload_n 0, 1, 0, 0, 0, 0, 0)), (42, (.invokevirtual 22, 3, 11, 1, 0, 0, 0)), (45, (.iconst 1, 1, 0, 0, 0, 1, 0)), (46, (.ireturn, 1, 0, 0, 1, 0, 0))]
def cd_52 : List (Nat × Ent) := [(0, (.aload_n 0, 1, 0, 0, 0, 0, 0)), (1, (.aload_n 1, 1, 1, 0, 0, 0, 0)), (2, (.invokevirtual 67, 3, 35, 2, 1, 0, 0)), (5, (.ifCond .ne (9), 3, 0, 14, 0, 0, 0)), (8, (.aload_n 0, 1, 0, 0, 0, 0, 0)), (9, (.iconst 1, 1, 0, 0, 0, 1, 0)), (10, (.invokevirtual 71, 3, 45, 2, 1, 0, 0)), (13, (.ireturn, 1, 0, 0, 1, 0, 0)), (14, (.aload_n 0, 1, 0, 0, 0, 0, 0)), (15, (.invokevirtual 22, 3, 11, 1, 0, 0, 0)), (18, (.iconst 1, 1, 0, 0, 0, 1, 0)), (19, (.ireturn, 1, 0, 0, 1, 0, 0))]
def cd_53 : List (Nat × Ent) := [(0, (.aload_n 0, 1, 0, 0, 0, 0, 0)), (1, (.getfield 28, 3, 7, 5, 0, 0, 0)), (4, (.iconst 2, 1, 0, 0, 0, 2, 0)), (5, (.if_icmp .eq (9), 3, 0, 14, 0, 0, 0)), (8, (.aload_n 0, 1, 0, 0, 0, 0, 0)), (9, (.iconst 1, 1, 0, 0, 0, 1, 0)), (10, (.invokevirtual 71, 3, 45, 2, 1, 0, 0)), (13, (.ireturn, 1, 0, 0, 1, 0, 0)), (14, (.aload_n 0, 1, 0, 0, 0, 0, 0)), (15, (.getfield 51, 3, 7, 2, 0, 0, 0)), (18, (.iload_n 1, 1, 1, 0, 0, 0, 0)), (19, (.if_icmp .lt (11), 3, 0, 30, 0, 0, 0)), (22, (.aload_n 0, 1, 0, 0, 0, 0, 0)), (23, (.getfield 51, 3, 7, 2, 0, 0, 0)), (26, (.iload_n 2, 1, 2, 0, 0, 0, 0)), (27, (.if_icmp .le (11), 3, 0, 38, 0, 0, 0)), (30, (.aload_n 0, 1, 0, 0, 0, 0, 0)), (31, (.iconst 4, 1, 0, 0, 0, 4, 0)), (32, (.invokevirtual 71, 3, 45, 2, 1, 0, 0)), (35, (.ifCond .eq (7), 3, 0, 42, 0, 0, 0)), (38, (.iconst 1, 1, 0, 0, 0, 1, 0)), (39, (.goto (4), 3, 0, 43, 0, 0, 0)), (42, (.iconst 0, 1, 0, 0, 0, 0, 0)), (43, (.ireturn, 1, 0, 0, 1, 0, 0))]
def cd_54 : List (Nat × Ent) := [(0, (.aload_n 0, 1, 0, 0, 0, 0, 0)), (1, (.iload_n 1, 1, 1, 0, 0, 0, 0)), (2, (.invokevirtual 75, 3, 55, 2, 1, 0, 0)), (5, (.ifCond .ne (9), 3, 0, 14, 0, 0, 0)), (8, (.aload_n 0, 1, 0, 0, 0, 0, 0)), (9, (.iconst 1, 1, 0, 0, 0, 1, 0)), (10, (.invokevirtual 71, 3, 45, 2, 1, 0, 0)), (13, (.ireturn, 1, 0, 0, 1, 0, 0)), (14, (.aload_n 0, 1, 0, 0, 0, 0, 0)), (15, (.invokevirtual 22, 3, 11, 1, 0, 0, 0)), (18, (.iconst 1, 1, 0, 0, 0, 1, 0)), (19, (.ireturn, 1, 0, 0, 1, 0, 0))]
def cd_55 : List (Nat × Ent) := [(0, (.aload_n 0, 1, 0, 0, 0, 0, 0)), (1, (.getfield 28, 3, 7, 5, 0, 0, 0)), (4, (.iconst 3, 1, 0, 0, 0, 3, 0)), (5, (.if_icmp .ne (31), 3, 0, 36, 0, 0, 0)), (8, (.aload_n 0, 1, 0, 0, 0, 0, 0)), (9, (.getfield 25, 3, 7, 6, 0, 0, 0)), (12, (.aload_n 0, 1, 0, 0, 0, 0, 0)), (13, (.getfield 15, 3, 7, 0, 0, 0, 0)), (16, (.if_icmp .ge (20), 3, 0, 36, 0, 0, 0)), (19, (.aload_n 0, 1, 0, 0, 0, 0, 0)), (20, (.getfield 11, 3, 7, 4, 0, 0, 0)), (23, (.aload_n 0, 1, 0, 0, 0, 0, 0)), (24, (.getfield 25, 3, 7, 6, 0, 0, 0)), (27, (.caload, 1, 0, 0, 0, 0, 0)), (28, (.iload_n 1, 1, 1, 0, 0, 0, 0)), (29, (.if_icmp .ne (7), 3, 0, 36, 0, 0, 0)), (32, (.iconst 1, 1, 0, 0, 0, 1, 0)), (33, (.goto (4), 3, 0, 37, 0, 0, 0)), (36, (.iconst 0, 1, 0, 0, 0, 0, 0)), (37, (.ireturn, 1, 0, 0, 1, 0, 0))]
def cd_56 : List (Nat × Ent) := [(0, (.aload_n 0, 1, 0, 0, 0, 0, 0)), (1, (.getfield 15, 3, 10, 1, 0, 0, 0)), (4, (.getfield 130, 3, 9, 1, 0, 0, 0)), (7, (.getfield 108, 3, 4, 0, 0, 0, 0)), (10, (.istore_n 1, 1, 1, 0, 0, 0, 0)), (11, (.aload_n 0, 1, 0, 0, 0, 0, 0)), (12, (.aload_n 0, 1, 0, 0, 0, 0, 0)), (13, (.getfield 15, 3, 10, 1, 0, 0, 0)), (16, (.getfield 130, 3, 9, 1, 0, 0, 0)), (19, (.invokevirtual 113, 3, 43, 2, 1, 0, 0)), (22, (.ifCond .eq (50), 3, 0, 72, 0, 0, 0)), (25, (.aload_n 0, 1, 0, 0, 0, 0, 0)), (26, (.iload_n 1, 1, 1, 0, 0, 0, 0)), (27, (.invokevirtual 133, 3, 57, 2, 1, 0, 0)), (30, (.ifCond .eq (42), 3, 0, 72, 0, 0, 0)), (33, (.aload_n 0, 1, 0, 0, 0, 0, 0)), (34, (.getfield 9, 3, 10, 0, 0, 0, 0)), (37, (.ldc 136, 2, 0, 7, 1, 0, 0)), (39, (.iconst 0, 1, 0, 0, 0, 0, 0)), (40, (.bipush (9), 2, 0, 0, 0, 9, 0)), (42, (.aload_n 0, 1, 0, 0, 0, 0, 0)), (43, (.getfield 15, 3, 10, 1, 0, 0, 0)), (46, (.getfield 138, 3, 9, 5, 0, 0, 0)), (49, (.iload_n 1, 1, 1, 0, 0, 0, 0)), (50, (.invokevirtual 122, 3, 51, 6, 1, 0, 0)), (53, (.ifCond .eq (19), 3, 0, 72, 0, 0, 0)), (56, (.aload_n 0, 1, 0, 0, 0, 0, 0)), (57, (.getfield 9, 3, 10, 0, 0, 0, 0)), (60, (.bipush (59), 2, 0, 0, 0, 59, 0)), (62, (.invokevirtual 126, 3, 54, 2, 1, 0, 0)), (65, (.ifCond .eq (7), 3, 0, 72, 0, 0, 0)), (68, (.iconst 1, 1, 0, 0, 0, 1, 0)), (69, (.goto (4), 3, 0, 73, 0, 0, 0)), (72, (.iconst 0, 1, 0, 0, 0, 0, 0)), (73, (.ireturn, 1, 0, 0, 1, 0, 0))]
def cd_57 : List (Nat × Ent) := [(0, (.aload_n 0, 1, 0, 0, 0, 0, 0)), (1, (.getfield 9, 3, 10, 0, 0, 0, 0)), (4, (.ldc 176, 2, 0, 5, 1, 0, 0)), (6, (.invokevirtual 59, 3, 35, 2, 1, 0, 0)), (9, (.istore_n 2, 1, 2, 0, 0, 0, 0)), (10, (.iload_n 2, 1, 2, 0, 0, 0, 0)), (11, (.ifCond .ne (24), 3, 0, 35, 0, 0, 0)), (14, (.aload_n 0, 1, 0, 0, 0, 0, 0)), (15, (.getfield 9, 3, 10, 0, 0, 0, 0)), (18, (.ldc 178, 2, 0, 6, 1, 0, 0)), (20, (.invokevirtual 59, 3, 35, 2, 1, 0, 0)), (23, (.ifCond .ne (12), 3, 0, 35, 0, 0, 0)), (26, (.aload_n 0, 1, 0, 0, 0, 0, 0)), (27, (.getfield 9, 3, 10, 0, 0, 0, 0)), (30, (.iconst 1, 1, 0, 0, 0, 1, 0)), (31, (.invokevirtual 100, 3, 45, 2, 1, 0, 0)), (34, (.ireturn, 1, 0, 0, 1, 0, 0)), (35, (.aload_n 0, 1, 0, 0, 0, 0, 0)), (36, (.getfield 15, 3, 10, 1, 0, 0, 0)), (39, (.getfield 180, 3, 9, 4, 0, 0, 0)), (42, (.iload_n 1, 1, 1, 0, 0, 0, 0)), (43, (.iload_n 2, 1, 2, 0, 0, 0, 0)), (44, (.ifCond .eq (7), 3, 0, 51, 0, 0, 0)), (47, (.iconst 1, 1, 0, 0, 0, 1, 0)), (48, (.goto (4), 3, 0, 52, 0, 0, 0)), (51, (.iconst 0, 1, 0, 0, 0, 0, 0)), (52, (.iastore, 1, 0, 0, 0, 0, 0)), (53, (.aload_n 0, 1, 0, 0, 0, 0, 0)), (54, (.getfield 9, 3, 10, 0, 0, 0, 0)), (57, (.invokevirtual 169, 3, 11, 1, 0, 0, 0)), (60, (.iconst 1, 1, 0, 0, 0, 1, 0)), (61, (.ireturn, 1, 0, 0, 1, 0, 0))]
def cd_58 : List (Nat × Ent) := [(0, (.aload_n 0, 1, 0, 0, 0, 0, 0)), (1, (.getfield 15, 3, 10, 1, 0, 0, 0)), (4, (.getfield 140, 3, 9, 2, 0, 0, 0)), (7, (.getfield 108, 3, 4, 0, 0, 0, 0)), (10, (.istore_n 1, 1, 1, 0, 0, 0, 0)), (11, (.aload_n 0, 1, 0, 0, 0, 0, 0)), (12, (.aload_n 0, 1, 0, 0, 0, 0, 0)), (13, (.getfield 15, 3, 10, 1, 0, 0, 0)), (16, (.getfield 140, 3, 9, 2, 0, 0, 0)), (19, (.invokevirtual 113, 3, 43, 2, 1, 0, 0)), (22, (.ifCond .eq (116), 3, 0, 138, 0, 0, 0)), (25, (.aload_n 0, 1, 0, 0, 0, 0, 0)), (26, (.iload_n 1, 1, 1, 0, 0, 0, 0)), (27, (.invokevirtual 143, 3, 59, 2, 1, 0, 0)), (30, (.ifCond .eq (108), 3, 0, 138, 0, 0, 0)), (33, (.aload_n 0, 1, 0, 0, 0, 0, 0)), (34, (.getfield 9, 3, 10, 0, 0, 0, 0)), (37, (.ldc 146, 2, 0, 13, 1, 0, 0)), (39, (.iconst 1, 1, 0, 0, 0, 1, 0)), (40, (.bipush (20), 2, 0, 0, 0, 20, 0)), (42, (.aload_n 0, 1, 0, 0, 0, 0, 0)), (43, (.getfield 15, 3, 10, 1, 0, 0, 0)), (46, (.getfield 148, 3, 9, 7, 0, 0, 0)), (49, (.iload_n 1, 1, 1, 0, 0, 0, 0)), (50, (.invokevirtual 122, 3, 51, 6, 1, 0, 0)), (53, (.ifCond .eq (85), 3, 0, 138, 0, 0, 0)), (56, (.aload_n 0, 1, 0, 0, 0, 0, 0)), (57, (.getfield 9, 3, 10, 0, 0, 0, 0)), (60, (.ldc 150, 2, 0, 14, 1, 0, 0)), (62, (.iconst 1, 1, 0, 0, 0, 1, 0)), (63, (.bipush (99), 2, 0, 0, 0, 99, 0)), (65, (.aload_n 0, 1, 0, 0, 0, 0, 0)), (66, (.getfield 15, 3, 10, 1, 0, 0, 0)), (69, (.getfield 152, 3, 9, 8, 0, 0, 0)), (72, (.iload_n 1, 1, 1, 0, 0, 0, 0)), (73, (.invokevirtual 122, 3, 51, 6, 1, 0, 0)), (76, (.ifCond .eq (62), 3, 0, 138, 0, 0, 0)), (79, (.aload_n 0, 1, 0, 0, 0, 0, 0)), (80, (.getfield 9, 3, 10, 0, 0, 0, 0)), (83, (.ldc 154, 2, 0, 15, 1, 0, 0)), (85, (.iconst 0, 1, 0, 0, 0, 0, 0)), (86, (.bipush (99), 2, 0, 0, 0, 99, 0)), (88, (.aload_n 0, 1, 0, 0, 0, 0, 0)), (89, (.getfield 15, 3, 10, 1, 0, 0, 0)), (92, (.getfield 156, 3, 9, 9, 0, 0, 0)), (95, (.iload_n 1, 1, 1, 0, 0, 0, 0)), (96, (.invokevirtual 122, 3, 51, 6, 1, 0, 0)), (99, (.ifCond .eq (39), 3, 0, 138, 0, 0, 0)), (102, (.aload_n 0, 1, 0, 0, 0, 0, 0)), (103, (.getfield 9, 3, 10, 0, 0, 0, 0)), (106, (.ldc 158, 2, 0, 16, 1, 0, 0)), (108, (.invokevirtual 160, 3, 52, 2, 1, 0, 0)), (111, (.ifCond .eq (27), 3, 0, 138, 0, 0, 0)), (114, (.aload_n 0, 1, 0, 0, 0, 0, 0)), (115, (.iload_n 1, 1, 1, 0, 0, 0, 0)), (116, (.invokevirtual 163, 3, 60, 2, 1, 0, 0)), (119, (.ifCond .eq (19), 3, 0, 138, 0, 0, 0)), (122, (.aload_n 0, 1, 0, 0, 0, 0, 0)), (123, (.getfield 9, 3, 10, 0, 0, 0, 0)), (126, (.bipush (59), 2, 0, 0, 0, 59, 0)), (128, (.invokevirtual 126, 3, 54, 2, 1, 0, 0)), (131, (.ifCond .eq (7), 3, 0, 138, 0, 0, 0)), (134, (.iconst 1, 1, 0, 0, 0, 1, 0)), (135, (.goto (4), 3, 0, 139, 0, 0, 0)), (138, (.iconst 0, 1, 0, 0, 0, 0, 0)), (139, (.ireturn, 1, 0, 0, 1, 0, 0))]
def cd_59 : List (Nat × Ent) := [(0, (.aload_n 0, 1, 0, 0, 0, 0, 0)), (1, (.getfield 9, 3, 10, 0, 0, 0, 0)), (4, (.ldc 183, 2, 0, 9, 1, 0, 0)), (6, (.invokevirtual 59, 3, 35, 2, 1, 0, 0)), (9, (.ifCond .eq (16), 3, 0, 25, 0, 0, 0)), (12, (.aload_n 0, 1, 0, 0, 0, 0, 0)), (13, (.getfield 15, 3, 10, 1, 0, 0, 0)), (16, (.getfield 185, 3, 9, 6, 0, 0, 0)), (19, (.iload_n 1, 1, 1, 0, 0, 0, 0)), (20, (.iconst 0, 1, 0, 0, 0, 0, 0)), (21, (.iastore, 1, 0, 0, 0, 0, 0)), (22, (.goto (87), 3, 0, 109, 0, 0, 0)), (25, (.aload_n 0, 1, 0, 0, 0, 0, 0)), (26, (.getfield 9, 3, 10, 0, 0, 0, 0)), (29, (.ldc 188, 2, 0, 10, 1, 0, 0)), (31, (.invokevirtual 59, 3, 35, 2, 1, 0, 0)), (34, (.ifCond .eq (16), 3, 0, 50, 0, 0, 0)), (37, (.aload_n 0, 1, 0, 0, 0, 0, 0)), (38, (.getfield 15, 3, 10, 1, 0, 0, 0)), (41, (.getfield 185, 3, 9, 6, 0, 0, 0)), (44, (.iload_n 1, 1, 1, 0, 0, 0, 0)), (45, (.iconst 1, 1, 0, 0, 0, 1, 0)), (46, (.iastore, 1, 0, 0, 0, 0, 0)), (47, (.goto (62), 3, 0, 109, 0, 0, 0)), (50, (.aload_n 0, 1, 0, 0, 0, 0, 0)), (51, (.getfield 9, 3, 10, 0, 0, 0, 0)), (54, (.ldc 190, 2, 0, 11, 1, 0, 0)), (56, (.invokevirtual 59, 3, 35, 2, 1, 0, 0)), (59, (.ifCond .eq (16), 3, 0, 75, 0, 0, 0)), (62, (.aload_n 0, 1, 0, 0, 0, 0, 0)), (63, (.getfield 15, 3, 10, 1, 0, 0, 0)), (66, (.getfield 185, 3, 9, 6, 0, 0, 0)), (69, (.iload_n 1, 1, 1, 0, 0, 0, 0)), (70, (.iconst 2, 1, 0, 0, 0, 2, 0)), (71, (.iastore, 1, 0, 0, 0, 0, 0)), (72, (.goto (37), 3, 0, 109, 0, 0, 0)), (75, (.aload_n 0, 1, 0, 0, 0, 0, 0)), (76, (.getfield 9, 3, 10, 0, 0, 0, 0)), (79, (.ldc 192, 2, 0, 12, 1, 0, 0)), (81, (.invokevirtual 59, 3, 35, 2, 1, 0, 0)), (84, (.ifCond .eq (16), 3, 0, 100, 0, 0, 0)), (87, (.aload_n 0, 1, 0, 0, 0, 0, 0)), (88, (.getfield 15, 3, 10, 1, 0, 0, 0)), (91, (.getfield 185, 3, 9, 6, 0, 0, 0)), (94, (.iload_n 1, 1, 1, 0, 0, 0, 0)), (95, (.iconst 3, 1, 0, 0, 0, 3, 0)), (96, (.iastore, 1, 0, 0, 0, 0, 0)), (97, (.goto (12), 3, 0, 109, 0, 0, 0)), (100, (.aload_n 0, 1, 0, 0, 0, 0, 0)), (101, (.getfield 9, 3, 10, 0, 0, 0, 0)), (104, (.iconst 1, 1, 0, 0, 0, 1, 0)), (105, (.invokevirtual 100, 3, 45, 2, 1, 0, 0)), (108, (.ireturn, 1, 0, 0, 1, 0, 0)), (109, (.aload_n 0, 1, 0, 0, 0, 0, 0)), (110, (.getfield 9, 3, 10, 0, 0, 0, 0)), (113, (.invokevirtual 169, 3, 11, 1, 0, 0, 0)), (116, (.iconst 1, 1, 0, 0, 0, 1, 0)), (117, (.ireturn, 1, 0, 0, 1, 0, 0))]
def cd_60 : List (Nat × Ent) := [(0, (.aload_n 0, 1, 0, 0, 0, 0, 0)), (1, (.getfield 9, 3, 10, 0, 0, 0, 0)), (4, (.aload_n 0, 1, 0, 0, 0, 0, 0)), (5, (.getfield 15, 3, 10, 1, 0, 0, 0)), (8, (.getfield 130, 3, 9, 1, 0, 0, 0)), (11, (.invokevirtual 194, 3, 61, 2, 1, 0, 0)), (14, (.ifCond .ne (5), 3, 0, 19, 0, 0, 0)), (17, (.iconst 0, 1, 0, 0, 0, 0, 0)), (18, (.ireturn, 1, 0, 0, 1, 0, 0)), (19, (.aload_n 0, 1, 0, 0, 0, 0, 0)), (20, (.getfield 15, 3, 10, 1, 0, 0, 0)), (23, (.getfield 197, 3, 9, 10, 0, 0, 0)), (26, (.iload_n 1, 1, 1, 0, 0, 0, 0)), (27, (.aload_n 0, 1, 0, 0, 0, 0, 0)), (28, (.getfield 9, 3, 10, 0, 0, 0, 0)), (31, (.getfield 200, 3, 7, 3, 0, 0, 0)), (34, (.iastore, 1, 0, 0, 0, 0, 0)), (35, (.aload_n 0, 1, 0, 0, 0, 0, 0)), (36, (.getfield 9, 3, 10, 0, 0, 0, 0)), (39, (.invokevirtual 169, 3, 11, 1, 0, 0, 0)), (42, (.iconst 1, 1, 0, 0, 0, 1, 0)), (43, (.ireturn, 1, 0, 0, 1, 0, 0))]
def cd_61 : List (Nat × Ent) := [(0, (.aload_n 0, 1, 0, 0, 0, 0, 0)), (1, (.invokevirtual 86, 3, 47, 1, 1, 0, 0)), (4, (.ifCond .ne (9), 3, 0, 13, 0, 0, 0)), (7, (.aload_n 0, 1, 0, 0, 0, 0, 0)), (8, (.iconst 1, 1, 0, 0, 0, 1, 0)), (9, (.invokevirtual 71, 3, 45, 2, 1, 0, 0)), (12, (.ireturn, 1, 0, 0, 1, 0, 0)), (13, (.aload_n 0, 1, 0, 0, 0, 0, 0)), (14, (.aload_n 1, 1, 1, 0, 0, 0, 0)), (15, (.aload_n 0, 1, 0, 0, 0, 0, 0)), (16, (.getfield 45, 3, 7, 8, 0, 0, 0)), (19, (.invokevirtual 102, 3, 49, 2, 1, 0, 0)), (22, (.putfield 106, 3, 7, 3, 0, 0, 0)), (25, (.aload_n 0, 1, 0, 0, 0, 0, 0)), (26, (.getfield 106, 3, 7, 3, 0, 0, 0)), (29, (.iconst (-1), 1, 0, 0, 0, (-1), 0)), (30, (.if_icmp .ne (11), 3, 0, 41, 0, 0, 0)), (33, (.aload_n 0, 1, 0, 0, 0, 0, 0)), (34, (.iconst 2, 1, 0, 0, 0, 2, 0)), (35, (.invokevirtual 71, 3, 45, 2, 1, 0, 0)), (38, (.ifCond .eq (7), 3, 0, 45, 0, 0, 0)), (41, (.iconst 1, 1, 0, 0, 0, 1, 0)), (42, (.goto (4), 3, 0, 46, 0, 0, 0)), (45, (.iconst 0, 1, 0, 0, 0, 0, 0)), (46, (.ireturn, 1, 0, 0, 1, 0, 0))]
def cd_62 : List (Nat × Ent) := [(0, (.aload_n 0, 1, 0, 0, 0, 0, 0)), (1, (.getfield 9, 3, 10, 0, 0, 0, 0)), (4, (.invokevirtual 169, 3, 11, 1, 0, 0, 0)), (7, (.aload_n 0, 1, 0, 0, 0, 0, 0)), (8, (.getfield 9, 3, 10, 0, 0, 0, 0)), (11, (.aload_n 0, 1, 0, 0, 0, 0, 0)), (12, (.getfield 15, 3, 10, 1, 0, 0, 0)), (15, (.getfield 140, 3, 9, 2, 0, 0, 0)), (18, (.invokevirtual 203, 3, 63, 2, 1, 0, 0)), (21, (.ifCond .ne (5), 3, 0, 26, 0, 0, 0)), (24, (.iconst 0, 1, 0, 0, 0, 0, 0)), (25, (.ireturn, 1, 0, 0, 1, 0, 0)), (26, (.aload_n 0, 1, 0, 0, 0, 0, 0)), (27, (.getfield 9, 3, 10, 0, 0, 0, 0)), (30, (.getfield 200, 3, 7, 3, 0, 0, 0)), (33, (.istore_n 1, 1, 1, 0, 0, 0, 0)), (34, (.aload_n 0, 1, 0, 0, 0, 0, 0)), (35, (.getfield 9, 3, 10, 0, 0, 0, 0)), (38, (.aload_n 0, 1, 0, 0, 0, 0, 0)), (39, (.getfield 15, 3, 10, 1, 0, 0, 0)), (42, (.getfield 140, 3, 9, 2, 0, 0, 0)), (45, (.invokevirtual 194, 3, 61, 2, 1, 0, 0)), (48, (.ifCond .ne (5), 3, 0, 53, 0, 0, 0)), (51, (.iconst 0, 1, 0, 0, 0, 0, 0)), (52, (.ireturn, 1, 0, 0, 1, 0, 0)), (53, (.aload_n 0, 1, 0, 0, 0, 0, 0)), (54, (.getfield 9, 3, 10, 0, 0, 0, 0)), (57, (.getfield 200, 3, 7, 3, 0, 0, 0)), (60, (.istore_n 2, 1, 2, 0, 0, 0, 0)), (61, (.iload_n 2, 1, 2, 0, 0, 0, 0)), (62, (.iload_n 1, 1, 1, 0, 0, 0, 0)), (63, (.if_icmp .eq (19), 3, 0, 82, 0, 0, 0)), (66, (.aload_n 0, 1, 0, 0, 0, 0, 0)), (67, (.getfield 15, 3, 10, 1, 0, 0, 0)), (70, (.getfield 206, 3, 9, 11, 0, 0, 0)), (73, (.iload_n 1, 1, 1, 0, 0, 0, 0)), (74, (.iaload, 1, 0, 0, 0, 0, 0)), (75, (.iload_n 2, 1, 2, 0, 0, 0, 0)), (76, (.invokestatic 209, 3, 64, 2, 1, 0, 0)), (79, (.ifCond .eq (12), 3, 0, 91, 0, 0, 0)), (82, (.aload_n 0, 1, 0, 0, 0, 0, 0)), (83, (.getfield 9, 3, 10, 0, 0, 0, 0)), (86, (.iconst 3, 1, 0, 0, 0, 3, 0)), (87, (.invokevirtual 100, 3, 45, 2, 1, 0, 0)), (90, (.ireturn, 1, 0, 0, 1, 0, 0)), (91, (.aload_n 0, 1, 0, 0, 0, 0, 0)), (92, (.getfield 15, 3, 10, 1, 0, 0, 0)), (95, (.iload_n 1, 1, 1, 0, 0, 0, 0)), (96, (.iload_n 2, 1, 2, 0, 0, 0, 0)), (97, (.invokevirtual 213, 3, 65, 3, 0, 0, 0)), (100, (.aload_n 0, 1, 0, 0, 0, 0, 0)), (101, (.getfield 9, 3, 10, 0, 0, 0, 0)), (104, (.invokevirtual 169, 3, 11, 1, 0, 0, 0)), (107, (.aload_n 0, 1, 0, 0, 0, 0, 0)), (108, (.getfield 9, 3, 10, 0, 0, 0, 0)), (111, (.bipush (59), 2, 0, 0, 0, 59, 0)), (113, (.invokevirtual 126, 3, 54, 2, 1, 0, 0)), (116, (.ireturn, 1, 0, 0, 1, 0, 0))]
def cd_63 : List (Nat × Ent) := [(0, (.aload_n 0, 1, 0, 0, 0, 0, 0)), (1, (.aload_n 1, 1, 1, 0, 0, 0, 0)), (2, (.invokevirtual 109, 3, 61, 2, 1, 0, 0)), (5, (.ifCond .ne (5), 3, 0, 10, 0, 0, 0)), (8, (.iconst 0, 1, 0, 0, 0, 0, 0)), (9, (.ireturn, 1, 0, 0, 1, 0, 0)), (10, (.aload_n 0, 1, 0, 0, 0, 0, 0)), (11, (.invokevirtual 22, 3, 11, 1, 0, 0, 0)), (14, (.iconst 1, 1, 0, 0, 0, 1, 0)), (15, (.ireturn, 1, 0, 0, 1, 0, 0))]
def cd_64 : List (Nat × Ent) := [(0, (.iload_n 0, 1, 0, 0, 0, 0, 0)), (1, (.iload_n 1, 1, 1, 0, 0, 0, 0)), (2, (.ishr, 1, 0, 0, 0, 0, 0)), (3, (.iconst 1, 1, 0, 0, 0, 1, 0)), (4, (.iand, 1, 0, 0, 0, 0, 0)), (5, (.iconst 1, 1, 0, 0, 0, 1, 0)), (6, (.if_icmp .ne (7), 3, 0, 13, 0, 0, 0)), (9, (.iconst 1, 1, 0, 0, 0, 1, 0)), (10, (.goto (4), 3, 0, 14, 0, 0, 0)), (13, (.iconst 0, 1, 0, 0, 0, 0, 0)), (14, (.ireturn, 1, 0, 0, 1, 0, 0))]
def cd_65 : List (Nat × Ent) := [(0, (.aload_n 0, 1, 0, 0, 0, 0, 0)), (1, (.getfield 49, 3, 9, 11, 0, 0, 0)), (4, (.iload_n 1, 1, 1, 0, 0, 0, 0)), (5, (.dup2, 1, 0, 0, 0, 0, 0)), (6, (.iaload, 1, 0, 0, 0, 0, 0)), (7, (.iconst 1, 1, 0, 0, 0, 1, 0)), (8, (.iload_n 2, 1, 2, 0, 0, 0, 0)), (9, (.ishl, 1, 0, 0, 0, 0, 0)), (10, (.ior, 1, 0, 0, 0, 0, 0)), (11, (.iastore, 1, 0, 0, 0, 0, 0)), (12, (.aload_n 0, 1, 0, 0, 0, 0, 0)), (13, (.getfield 49, 3, 9, 11, 0, 0, 0)), (16, (.iload_n 2, 1, 2, 0, 0, 0, 0)), (17, (.dup2, 1, 0, 0, 0, 0, 0)), (18, (.iaload, 1, 0, 0, 0, 0, 0)), (19, (.iconst 1, 1, 0, 0, 0, 1, 0)), (20, (.iload_n 1, 1, 1, 0, 0, 0, 0)), (21, (.ishl, 1, 0, 0, 0, 0, 0)), (22, (.ior, 1, 0, 0, 0, 0, 0)), (23, (.iastore, 1, 0, 0, 0, 0, 0)), (24, (.aload_n 0, 1, 0, 0, 0, 0, 0)), (25, (.dup, 1, 0, 0, 0, 0, 0)), (26, (.getfield 75, 3, 9, 12, 0, 0, 0)), (29, (.iconst 1, 1, 0, 0, 0, 1, 0)), (30, (.iadd, 1, 0, 0, 0, 0, 0)), (31, (.putfield 75, 3, 9, 12, 0, 0, 0)), (34, (.return_, 1, 0, 0, 0, 0, 0))]
def cd_66 : List (Nat × Ent) := [(0, (.aload_n 0, 1, 0, 0, 0, 0, 0)), (1, (.getfield 15, 3, 10, 1, 0, 0, 0)), (4, (.getfield 217, 3, 9, 14, 0, 0, 0)), (7, (.ifCond .le (12), 3, 0, 19, 0, 0, 0)), (10, (.aload_n 0, 1, 0, 0, 0, 0, 0)), (11, (.getfield 9, 3, 10, 0, 0, 0, 0)), (14, (.iconst 3, 1, 0, 0, 0, 3, 0)), (15, (.invokevirtual 100, 3, 45, 2, 1, 0, 0)), (18, (.ireturn, 1, 0, 0, 1, 0, 0)), (19, (.aload_n 0, 1, 0, 0, 0, 0, 0)), (20, (.getfield 9, 3, 10, 0, 0, 0, 0)), (23, (.invokevirtual 169, 3, 11, 1, 0, 0, 0)), (26, (.iconst 0, 1, 0, 0, 0, 0, 0)), (27, (.istore_n 1, 1, 1, 0, 0, 0, 0)), (28, (.iload_n 1, 1, 1, 0, 0, 0, 0)), (29, (.bipush (14), 2, 0, 0, 0, 14, 0)), (31, (.if_icmp .gt (74), 3, 0, 105, 0, 0, 0)), (34, (.iload_n 1, 1, 1, 0, 0, 0, 0)), (35, (.ifCond .eq (13), 3, 0, 48, 0, 0, 0)), (38, (.aload_n 0, 1, 0, 0, 0, 0, 0)), (39, (.getfield 9, 3, 10, 0, 0, 0, 0)), (42, (.invokevirtual 219, 3, 67, 1, 1, 0, 0)), (45, (.ifCond .eq (60), 3, 0, 105, 0, 0, 0)), (48, (.aload_n 0, 1, 0, 0, 0, 0, 0)), (49, (.getfield 9, 3, 10, 0, 0, 0, 0)), (52, (.iconst 0, 1, 0, 0, 0, 0, 0)), (53, (.bipush (9), 2, 0, 0, 0, 9, 0)), (55, (.invokevirtual 222, 3, 53, 3, 1, 0, 0)), (58, (.ifCond .ne (5), 3, 0, 63, 0, 0, 0)), (61, (.iconst 0, 1, 0, 0, 0, 0, 0)), (62, (.ireturn, 1, 0, 0, 1, 0, 0)), (63, (.iload_n 1, 1, 1, 0, 0, 0, 0)), (64, (.bipush (14), 2, 0, 0, 0, 14, 0)), (66, (.if_icmp .ne (12), 3, 0, 78, 0, 0, 0)), (69, (.aload_n 0, 1, 0, 0, 0, 0, 0)), (70, (.getfield 9, 3, 10, 0, 0, 0, 0)), (73, (.iconst 5, 1, 0, 0, 0, 5, 0)), (74, (.invokevirtual 100, 3, 45, 2, 1, 0, 0)), (77, (.ireturn, 1, 0, 0, 1, 0, 0)), (78, (.aload_n 0, 1, 0, 0, 0, 0, 0)), (79, (.getfield 15, 3, 10, 1, 0, 0, 0)), (82, (.aload_n 0, 1, 0, 0, 0, 0, 0)), (83, (.getfield 9, 3, 10, 0, 0, 0, 0)), (86, (.getfield 225, 3, 7, 2, 0, 0, 0)), (89, (.invokevirtual 228, 3, 68, 2, 0, 0, 0)), (92, (.aload_n 0, 1, 0, 0, 0, 0, 0)), (93, (.getfield 9, 3, 10, 0, 0, 0, 0)), (96, (.invokevirtual 169, 3, 11, 1, 0, 0, 0)), (99, (.iinc 1 (1), 3, 1, 0, 0, 1, 0)), (102, (.goto (-74), 3, 0, 28, 0, 0, 0)), (105, (.aload_n 0, 1, 0, 0, 0, 0, 0)), (106, (.getfield 9, 3, 10, 0, 0, 0, 0)), (109, (.bipush (59), 2, 0, 0, 0, 59, 0)), (111, (.invokevirtual 126, 3, 54, 2, 1, 0, 0)), (114, (.ireturn, 1, 0, 0, 1, 0, 0))]
def cd_67 : List (Nat × Ent) := [(0, (.aload_n 0, 1, 0, 0, 0, 0, 0)), (1, (.getfield 28, 3, 7, 5, 0, 0, 0)), (4, (.iconst 2, 1, 0, 0, 0, 2, 0)), (5, (.if_icmp .ne (7), 3, 0, 12, 0, 0, 0)), (8, (.iconst 1, 1, 0, 0, 0, 1, 0)), (9, (.goto (4), 3, 0, 13, 0, 0, 0)), (12, (.iconst 0, 1, 0, 0, 0, 0, 0)), (13, (.ireturn, 1, 0, 0, 1, 0, 0))]
def cd_68 : List (Nat × Ent) := [(0, (.aload_n 0, 1, 0, 0, 0, 0, 0)), (1, (.getfield 79, 3, 9, 14, 0, 0, 0)), (4, (.aload_n 0, 1, 0, 0, 0, 0, 0)), (5, (.getfield 52, 3, 9, 13, 0, 0, 0)), (8, (.arraylength, 1, 0, 0, 0, 0, 0)), (9, (.if_icmp .ge (23), 3, 0, 32, 0, 0, 0)), (12, (.aload_n 0, 1, 0, 0, 0, 0, 0)), (13, (.getfield 52, 3, 9, 13, 0, 0, 0)), (16, (.aload_n 0, 1, 0, 0, 0, 0, 0)), (17, (.getfield 79, 3, 9, 14, 0, 0, 0)), (20, (.iload_n 1, 1, 1, 0, 0, 0, 0)), (21, (.iastore, 1, 0, 0, 0, 0, 0)), (22, (.aload_n 0, 1, 0, 0, 0, 0, 0)), (23, (.dup, 1, 0, 0, 0, 0, 0)), (24, (.getfield 79, 3, 9, 14, 0, 0, 0)), (27, (.iconst 1, 1, 0, 0, 0, 1, 0)), (28, (.iadd, 1, 0, 0, 0, 0, 0)), (29, (.putfield 79, 3, 9, 14, 0, 0, 0)), (32, (.return_, 1, 0, 0, 0, 0, 0))]
def cd_69 : List (Nat × Ent) := [(0, (.aload_n 0, 1, 0, 0, 0, 0, 0)), (1, (.getfield 37, 3, 10, 3, 0, 0, 0)), (4, (.ifCond .eq (12), 3, 0, 16, 0, 0, 0)), (7, (.aload_n 0, 1, 0, 0, 0, 0, 0)), (8, (.getfield 9, 3, 10, 0, 0, 0, 0)), (11, (.iconst 3, 1, 0, 0, 0, 3, 0)), (12, (.invokevirtual 100, 3, 45, 2, 1, 0, 0)), (15, (.ireturn, 1, 0, 0, 1, 0, 0)), (16, (.aload_n 0, 1, 0, 0, 0, 0, 0)), (17, (.iconst 1, 1, 0, 0, 0, 1, 0)), (18, (.putfield 37, 3, 10, 3, 0, 0, 0)), (21, (.aload_n 0, 1, 0, 0, 0, 0, 0)), (22, (.getfield 9, 3, 10, 0, 0, 0, 0)), (25, (.invokevirtual 169, 3, 11, 1, 0, 0, 0)), (28, (.aload_n 0, 1, 0, 0, 0, 0, 0)), (29, (.getfield 9, 3, 10, 0, 0, 0, 0)), (32, (.iconst 0, 1, 0, 0, 0, 0, 0)), (33, (.bipush (10), 2, 0, 0, 0, 10, 0)), (35, (.invokevirtual 222, 3, 53, 3, 1, 0, 0)), (38, (.ifCond .ne (5), 3, 0, 43, 0, 0, 0)), (41, (.iconst 0, 1, 0, 0, 0, 0, 0)), (42, (.ireturn, 1, 0, 0, 1, 0, 0)), (43, (.aload_n 0, 1, 0, 0, 0, 0, 0)), (44, (.getfield 15, 3, 10, 1, 0, 0, 0)), (47, (.aload_n 0, 1, 0, 0, 0, 0, 0)), (48, (.getfield 9, 3, 10, 0, 0, 0, 0)), (51, (.getfield 225, 3, 7, 2, 0, 0, 0)), (54, (.putfield 232, 3, 9, 15, 0, 0, 0)), (57, (.aload_n 0, 1, 0, 0, 0, 0, 0)), (58, (.getfield 9, 3, 10, 0, 0, 0, 0)), (61, (.invokevirtual 169, 3, 11, 1, 0, 0, 0)), (64, (.aload_n 0, 1, 0, 0, 0, 0, 0)), (65, (.getfield 9, 3, 10, 0, 0, 0, 0)), (68, (.bipush (59), 2, 0, 0, 0, 59, 0)), (70, (.invokevirtual 126, 3, 54, 2, 1, 0, 0)), (73, (.ireturn, 1, 0, 0, 1, 0, 0))]
def cd_70 : List (Nat × Ent) := [(0, (.aload_n 1, 1, 1, 0, 0, 0, 0)), (1, (.getfield 23, 3, 1, 0, 0, 0, 0)), (4, (.ifCond .eq (12), 3, 0, 16, 0, 0, 0)), (7, (.aload_n 0, 1, 0, 0, 0, 0, 0)), (8, (.getfield 15, 3, 2, 0, 0, 0, 0)), (11, (.iconst 3, 1, 0, 0, 0, 3, 0)), (12, (.invokevirtual 31, 3, 45, 2, 1, 0, 0)), (15, (.ireturn, 1, 0, 0, 1, 0, 0)), (16, (.aload_n 0, 1, 0, 0, 0, 0, 0)), (17, (.aload_n 1, 1, 1, 0, 0, 0, 0)), (18, (.putfield 19, 3, 2, 4, 0, 0, 0)), (21, (.aload_n 0, 1, 0, 0, 0, 0, 0)), (22, (.iload_n 2, 1, 2, 0, 0, 0, 0)), (23, (.putfield 35, 3, 2, 5, 0, 0, 0)), (26, (.aload_n 1, 1, 1, 0, 0, 0, 0)), (27, (.invokevirtual 38, 3, 3, 1, 0, 0, 0)), (30, (.aload_n 1, 1, 1, 0, 0, 0, 0)), (31, (.iconst 1, 1, 0, 0, 0, 1, 0)), (32, (.putfield 23, 3, 1, 0, 0, 0, 0)), (35, (.aload_n 0, 1, 0, 0, 0, 0, 0)), (36, (.getfield 15, 3, 2, 0, 0, 0, 0)), (39, (.invokevirtual 41, 3, 11, 1, 0, 0, 0)), (42, (.aload_n 0, 1, 0, 0, 0, 0, 0)), (43, (.iconst 0, 1, 0, 0, 0, 0, 0)), (44, (.putfield 44, 3, 2, 2, 0, 0, 0)), (47, (.aload_n 0, 1, 0, 0, 0, 0, 0)), (48, (.iconst 0, 1, 0, 0, 0, 0, 0)), (49, (.putfield 48, 3, 2, 3, 0, 0, 0)), (52, (.iconst 0, 1, 0, 0, 0, 0, 0)), (53, (.istore_n 3, 1, 3, 0, 0, 0, 0)), (54, (.iload_n 3, 1, 3, 0, 0, 0, 0)), (55, (.sipush (1000), 3, 0, 0, 0, 1000, 0)), (58, (.if_icmp .ge (57), 3, 0, 115, 0, 0, 0)), (61, (.aload_n 0, 1, 0, 0, 0, 0, 0)), (62, (.invokevirtual 51, 3, 71, 1, 1, 0, 0)), (65, (.ifCond .eq (10), 3, 0, 75, 0, 0, 0)), (68, (.aload_n 0, 1, 0, 0, 0, 0, 0)), (69, (.invokevirtual 55, 3, 73, 1, 1, 0, 0)), (72, (.ifCond .ne (5), 3, 0, 77, 0, 0, 0)), (75, (.iconst 0, 1, 0, 0, 0, 0, 0)), (76, (.ireturn, 1, 0, 0, 1, 0, 0)), (77, (.aload_n 0, 1, 0, 0, 0, 0, 0)), (78, (.invokevirtual 58, 3, 76, 1, 0, 0, 0)), (81, (.aload_n 0, 1, 0, 0, 0, 0, 0)), (82, (.invokevirtual 61, 3, 79, 1, 1, 0, 0)), (85, (.istore 4, 2, 4, 0, 0, 0, 0)), (87, (.iload 4, 2, 4, 0, 0, 0, 0)), (89, (.iconst (-1), 1, 0, 0, 0, (-1), 0)), (90, (.if_icmp .ne (8), 3, 0, 98, 0, 0, 0)), (93, (.aload_n 0, 1, 0, 0, 0, 0, 0)), (94, (.invokevirtual 65, 3, 80, 1, 1, 0, 0)), (97, (.ireturn, 1, 0, 0, 1, 0, 0)), (98, (.aload_n 0, 1, 0, 0, 0, 0, 0)), (99, (.iload 4, 2, 4, 0, 0, 0, 0)), (101, (.invokevirtual 68, 3, 81, 2, 1, 0, 0)), (104, (.ifCond .ne (5), 3, 0, 109, 0, 0, 0)), (107, (.iconst 0, 1, 0, 0, 0, 0, 0)), (108, (.ireturn, 1, 0, 0, 1, 0, 0)), (109, (.iinc 3 (1), 3, 3, 0, 0, 1, 0)), (112, (.goto (-58), 3, 0, 54, 0, 0, 0)), (115, (.aload_n 0, 1, 0, 0, 0, 0, 0)), (116, (.getfield 15, 3, 2, 0, 0, 0, 0)), (119, (.iconst 1, 1, 0, 0, 0, 1, 0)), (120, (.invokevirtual 31, 3, 45, 2, 1, 0, 0)), (123, (.ireturn, 1, 0, 0, 1, 0, 0))]
def cd_71 : List (Nat × Ent) := [(0, (.iconst 0, 1, 0, 0, 0, 0, 0)), (1, (.istore_n 1, 1, 1, 0, 0, 0, 0)), (2, (.iload_n 1, 1, 1, 0, 0, 0, 0)), (3, (.iconst 5, 1, 0, 0, 0, 5, 0)), (4, (.if_icmp .gt (88), 3, 0, 92, 0, 0, 0)), (7, (.aload_n 0, 1, 0, 0, 0, 0, 0)), (8, (.getfield 15, 3, 2, 0, 0, 0, 0)), (11, (.ldc 71, 2, 0, 21, 1, 0, 0)), (13, (.invokevirtual 73, 3, 35, 2, 1, 0, 0)), (16, (.istore_n 2, 1, 2, 0, 0, 0, 0)), (17, (.iload_n 2, 1, 2, 0, 0, 0, 0)), (18, (.ifCond .ne (17), 3, 0, 35, 0, 0, 0)), (21, (.aload_n 0, 1, 0, 0, 0, 0, 0)), (22, (.getfield 15, 3, 2, 0, 0, 0, 0)), (25, (.bipush (40), 2, 0, 0, 0, 40, 0)), (27, (.invokevirtual 77, 3, 55, 2, 1, 0, 0)), (30, (.ifCond .ne (5), 3, 0, 35, 0, 0, 0)), (33, (.iconst 1, 1, 0, 0, 0, 1, 0)), (34, (.ireturn, 1, 0, 0, 1, 0, 0)), (35, (.aload_n 0, 1, 0, 0, 0, 0, 0)), (36, (.getfield 48, 3, 2, 3, 0, 0, 0)), (39, (.iconst 5, 1, 0, 0, 0, 5, 0)), (40, (.if_icmp .lt (12), 3, 0, 52, 0, 0, 0)), (43, (.aload_n 0, 1, 0, 0, 0, 0, 0)), (44, (.getfield 15, 3, 2, 0, 0, 0, 0)), (47, (.iconst 5, 1, 0, 0, 0, 5, 0)), (48, (.invokevirtual 31, 3, 45, 2, 1, 0, 0)), (51, (.ireturn, 1, 0, 0, 1, 0, 0)), (52, (.aload_n 0, 1, 0, 0, 0, 0, 0)), (53, (.dup, 1, 0, 0, 0, 0, 0)), (54, (.getfield 48, 3, 2, 3, 0, 0, 0)), (57, (.iconst 1, 1, 0, 0, 0, 1, 0)), (58, (.iadd, 1, 0, 0, 0, 0, 0)), (59, (.putfield 48, 3, 2, 3, 0, 0, 0)), (62, (.aload_n 0, 1, 0, 0, 0, 0, 0)), (63, (.iload_n 2, 1, 2, 0, 0, 0, 0)), (64, (.ifCond .eq (9), 3, 0, 73, 0, 0, 0)), (67, (.sipush (10003), 3, 0, 0, 0, 10003, 0)), (70, (.goto (6), 3, 0, 76, 0, 0, 0)), (73, (.sipush (10011), 3, 0, 0, 0, 10011, 0)), (76, (.invokevirtual 81, 3, 72, 2, 0, 0, 0)), (79, (.aload_n 0, 1, 0, 0, 0, 0, 0)), (80, (.getfield 15, 3, 2, 0, 0, 0, 0)), (83, (.invokevirtual 41, 3, 11, 1, 0, 0, 0)), (86, (.iinc 1 (1), 3, 1, 0, 0, 1, 0)), (89, (.goto (-87), 3, 0, 2, 0, 0, 0)), (92, (.iconst 1, 1, 0, 0, 0, 1, 0)), (93, (.ireturn, 1, 0, 0, 1, 0, 0))]
def cd_72 : List (Nat × Ent) := [(0, (.aload_n 0, 1, 0, 0, 0, 0, 0)), (1, (.getfield 44, 3, 2, 2, 0, 0, 0)), (4, (.aload_n 0, 1, 0, 0, 0, 0, 0)), (5, (.getfield 9, 3, 2, 1, 0, 0, 0)), (8, (.arraylength, 1, 0, 0, 0, 0, 0)), (9, (.if_icmp .ge (23), 3, 0, 32, 0, 0, 0)), (12, (.aload_n 0, 1, 0, 0, 0, 0, 0)), (13, (.getfield 9, 3, 2, 1, 0, 0, 0)), (16, (.aload_n 0, 1, 0, 0, 0, 0, 0)), (17, (.getfield 44, 3, 2, 2, 0, 0, 0)), (20, (.iload_n 1, 1, 1, 0, 0, 0, 0)), (21, (.iastore, 1, 0, 0, 0, 0, 0)), (22, (.aload_n 0, 1, 0, 0, 0, 0, 0)), (23, (.dup, 1, 0, 0, 0, 0, 0)), (24, (.getfield 44, 3, 2, 2, 0, 0, 0)), (27, (.iconst 1, 1, 0, 0, 0, 1, 0)), (28, (.iadd, 1, 0, 0, 0, 0, 0)), (29, (.putfield 44, 3, 2, 2, 0, 0, 0)), (32, (.return_, 1, 0, 0, 0, 0, 0))]
def cd_73 : List (Nat × Ent) := [(0, (.aload_n 0, 1, 0, 0, 0, 0, 0)), (1, (.getfield 15, 3, 2, 0, 0, 0, 0)), (4, (.invokevirtual 85, 3, 67, 1, 1, 0, 0)), (7, (.ifCond .eq (13), 3, 0, 20, 0, 0, 0)), (10, (.aload_n 0, 1, 0, 0, 0, 0, 0)), (11, (.getfield 15, 3, 2, 0, 0, 0, 0)), (14, (.getfield 88, 3, 7, 2, 0, 0, 0)), (17, (.goto (7), 3, 0, 24, 0, 0, 0)), (20, (.aload_n 0, 1, 0, 0, 0, 0, 0)), (21, (.invokevirtual 91, 3, 74, 1, 1, 0, 0)), (24, (.istore_n 1, 1, 1, 0, 0, 0, 0)), (25, (.iload_n 1, 1, 1, 0, 0, 0, 0)), (26, (.iconst (-1), 1, 0, 0, 0, (-1), 0)), (27, (.if_icmp .ne (12), 3, 0, 39, 0, 0, 0)), (30, (.aload_n 0, 1, 0, 0, 0, 0, 0)), (31, (.getfield 15, 3, 2, 0, 0, 0, 0)), (34, (.iconst 1, 1, 0, 0, 0, 1, 0)), (35, (.invokevirtual 31, 3, 45, 2, 1, 0, 0)), (38, (.ireturn, 1, 0, 0, 1, 0, 0)), (39, (.aload_n 0, 1, 0, 0, 0, 0, 0)), (40, (.getfield 48, 3, 2, 3, 0, 0, 0)), (43, (.iconst 5, 1, 0, 0, 0, 5, 0)), (44, (.if_icmp .lt (12), 3, 0, 56, 0, 0, 0)), (47, (.aload_n 0, 1, 0, 0, 0, 0, 0)), (48, (.getfield 15, 3, 2, 0, 0, 0, 0)), (51, (.iconst 5, 1, 0, 0, 0, 5, 0)), (52, (.invokevirtual 31, 3, 45, 2, 1, 0, 0)), (55, (.ireturn, 1, 0, 0, 1, 0, 0)), (56, (.aload_n 0, 1, 0, 0, 0, 0, 0)), (57, (.getfield 19, 3, 2, 4, 0, 0, 0)), (60, (.iload_n 1, 1, 1, 0, 0, 0, 0)), (61, (.invokevirtual 94, 3, 4, 2, 0, 0, 0)), (64, (.aload_n 0, 1, 0, 0, 0, 0, 0)), (65, (.getfield 15, 3, 2, 0, 0, 0, 0)), (68, (.invokevirtual 41, 3, 11, 1, 0, 0, 0)), (71, (.aload_n 0, 1, 0, 0, 0, 0, 0)), (72, (.invokevirtual 97, 3, 75, 1, 0, 0, 0)), (75, (.iconst 1, 1, 0, 0, 0, 1, 0)), (76, (.ireturn, 1, 0, 0, 1, 0, 0))]
def cd_74 : List (Nat × Ent) := [(0, (.aload_n 0, 1, 0, 0, 0, 0, 0)), (1, (.getfield 15, 3, 2, 0, 0, 0, 0)), (4, (.aload_n 0, 1, 0, 0, 0, 0, 0)), (5, (.getfield 35, 3, 2, 5, 0, 0, 0)), (8, (.ifCond .eq (8), 3, 0, 16, 0, 0, 0)), (11, (.ldc 100, 2, 0, 22, 1, 0, 0)), (13, (.goto (5), 3, 0, 18, 0, 0, 0)), (16, (.ldc 102, 2, 0, 23, 1, 0, 0)), (18, (.invokevirtual 73, 3, 35, 2, 1, 0, 0)), (21, (.ifCond .eq (7), 3, 0, 28, 0, 0, 0)), (24, (.sipush (10000), 3, 0, 0, 0, 10000, 0)), (27, (.ireturn, 1, 0, 0, 0, 0, 0)), (28, (.aload_n 0, 1, 0, 0, 0, 0, 0)), (29, (.getfield 15, 3, 2, 0, 0, 0, 0)), (32, (.aload_n 0, 1, 0, 0, 0, 0, 0)), (33, (.getfield 35, 3, 2, 5, 0, 0, 0)), (36, (.ifCond .eq (8), 3, 0, 44, 0, 0, 0)), (39, (.ldc 104, 2, 0, 24, 1, 0, 0)), (41, (.goto (5), 3, 0, 46, 0, 0, 0)), (44, (.ldc 106, 2, 0, 25, 1, 0, 0)), (46, (.invokevirtual 73, 3, 35, 2, 1, 0, 0)), (49, (.ifCond .eq (7), 3, 0, 56, 0, 0, 0)), (52, (.sipush (10001), 3, 0, 0, 0, 10001, 0)), (55, (.ireturn, 1, 0, 0, 0, 0, 0)), (56, (.aload_n 0, 1, 0, 0, 0, 0, 0)), (57, (.getfield 15, 3, 2, 0, 0, 0, 0)), (60, (.aload_n 0, 1, 0, 0, 0, 0, 0)), (61, (.getfield 35, 3, 2, 5, 0, 0, 0)), (64, (.ifCond .eq (8), 3, 0, 72, 0, 0, 0)), (67, (.ldc 106, 2, 0, 25, 1, 0, 0)), (69, (.goto (5), 3, 0, 74, 0, 0, 0)), (72, (.ldc 108, 2, 0, 26, 1, 0, 0)), (74, (.invokevirtual 73, 3, 35, 2, 1, 0, 0)), (77, (.ifCond .eq (9), 3, 0, 86, 0, 0, 0)), (80, (.sipush (10002), 3, 0, 0, 0, 10002, 0)), (83, (.goto (4), 3, 0, 87, 0, 0, 0)), (86, (.iconst (-1), 1, 0, 0, 0, (-1), 0)), (87, (.ireturn, 1, 0, 0, 0, 0, 0))]
def cd_75 : List (Nat × Ent) := [(0, (.aload_n 0, 1, 0, 0, 0, 0, 0)), (1, (.getfield 44, 3, 2, 2, 0, 0, 0)), (4, (.ifCond .le (53), 3, 0, 57, 0, 0, 0)), (7, (.aload_n 0, 1, 0, 0, 0, 0, 0)), (8, (.getfield 9, 3, 2, 1, 0, 0, 0)), (11, (.aload_n 0, 1, 0, 0, 0, 0, 0)), (12, (.getfield 44, 3, 2, 2, 0, 0, 0)), (15, (.iconst 1, 1, 0, 0, 0, 1, 0)), (16, (.isub, 1, 0, 0, 0, 0, 0)), (17, (.iaload, 1, 0, 0, 0, 0, 0)), (18, (.sipush (10003), 3, 0, 0, 0, 10003, 0)), (21, (.if_icmp .ne (36), 3, 0, 57, 0, 0, 0)), (24, (.aload_n 0, 1, 0, 0, 0, 0, 0)), (25, (.dup, 1, 0, 0, 0, 0, 0)), (26, (.getfield 44, 3, 2, 2, 0, 0, 0)), (29, (.iconst 1, 1, 0, 0, 0, 1, 0)), (30, (.isub, 1, 0, 0, 0, 0, 0)), (31, (.putfield 44, 3, 2, 2, 0, 0, 0)), (34, (.aload_n 0, 1, 0, 0, 0, 0, 0)), (35, (.dup, 1, 0, 0, 0, 0, 0)), (36, (.getfield 48, 3, 2, 3, 0, 0, 0)), (39, (.iconst 1, 1, 0, 0, 0, 1, 0)), (40, (.isub, 1, 0, 0, 0, 0, 0)), (41, (.putfield 48, 3, 2, 3, 0, 0, 0)), (44, (.aload_n 0, 1, 0, 0, 0, 0, 0)), (45, (.getfield 19, 3, 2, 4, 0, 0, 0)), (48, (.sipush (10003), 3, 0, 0, 0, 10003, 0)), (51, (.invokevirtual 94, 3, 4, 2, 0, 0, 0)), (54, (.goto (-54), 3, 0, 0, 0, 0, 0)), (57, (.return_, 1, 0, 0, 0, 0, 0))]
def cd_76 : List (Nat × Ent) := [(0, (.iconst 0, 1, 0, 0, 0, 0, 0)), (1, (.istore_n 1, 1, 1, 0, 0, 0, 0)), (2, (.iload_n 1, 1, 1, 0, 0, 0, 0)), (3, (.iconst 5, 1, 0, 0, 0, 5, 0)), (4, (.if_icmp .ge (65), 3, 0, 69, 0, 0, 0)), (7, (.aload_n 0, 1, 0, 0, 0, 0, 0)), (8, (.getfield 15, 3, 2, 0, 0, 0, 0)), (11, (.bipush (41), 2, 0, 0, 0, 41, 0)), (13, (.invokevirtual 77, 3, 55, 2, 1, 0, 0)), (16, (.ifCond .eq (53), 3, 0, 69, 0, 0, 0)), (19, (.aload_n 0, 1, 0, 0, 0, 0, 0)), (20, (.iconst 1, 1, 0, 0, 0, 1, 0)), (21, (.invokevirtual 110, 3, 77, 2, 0, 0, 0)), (24, (.aload_n 0, 1, 0, 0, 0, 0, 0)), (25, (.getfield 44, 3, 2, 2, 0, 0, 0)), (28, (.ifCond .ne (4), 3, 0, 32, 0, 0, 0)), (31, (.return_, 1, 0, 0, 0, 0, 0)), (32, (.aload_n 0, 1, 0, 0, 0, 0, 0)), (33, (.dup, 1, 0, 0, 0, 0, 0)), (34, (.getfield 44, 3, 2, 2, 0, 0, 0)), (37, (.iconst 1, 1, 0, 0, 0, 1, 0)), (38, (.isub, 1, 0, 0, 0, 0, 0)), (39, (.putfield 44, 3, 2, 2, 0, 0, 0)), (42, (.aload_n 0, 1, 0, 0, 0, 0, 0)), (43, (.dup, 1, 0, 0, 0, 0, 0)), (44, (.getfield 48, 3, 2, 3, 0, 0, 0)), (47, (.iconst 1, 1, 0, 0, 0, 1, 0)), (48, (.isub, 1, 0, 0, 0, 0, 0)), (49, (.putfield 48, 3, 2, 3, 0, 0, 0)), (52, (.aload_n 0, 1, 0, 0, 0, 0, 0)), (53, (.getfield 15, 3, 2, 0, 0, 0, 0)), (56, (.invokevirtual 41, 3, 11, 1, 0, 0, 0)), (59, (.aload_n 0, 1, 0, 0, 0, 0, 0)), (60, (.invokevirtual 97, 3, 75, 1, 0, 0, 0)), (63, (.iinc 1 (1), 3, 1, 0, 0, 1, 0)), (66, (.goto (-64), 3, 0, 2, 0, 0, 0)), (69, (.return_, 1, 0, 0, 0, 0, 0))]
def cd_77 : List (Nat × Ent) := [(0, (.aload_n 0, 1, 0, 0, 0, 0, 0)), (1, (.getfield 44, 3, 2, 2, 0, 0, 0)), (4, (.ifCond .le (50), 3, 0, 54, 0, 0, 0)), (7, (.aload_n 0, 1, 0, 0, 0, 0, 0)), (8, (.getfield 9, 3, 2, 1, 0, 0, 0)), (11, (.aload_n 0, 1, 0, 0, 0, 0, 0)), (12, (.getfield 44, 3, 2, 2, 0, 0, 0)), (15, (.iconst 1, 1, 0, 0, 0, 1, 0)), (16, (.isub, 1, 0, 0, 0, 0, 0)), (17, (.iaload, 1, 0, 0, 0, 0, 0)), (18, (.invokestatic 117, 3, 78, 1, 1, 0, 0)), (21, (.iload_n 1, 1, 1, 0, 0, 0, 0)), (22, (.if_icmp .lt (32), 3, 0, 54, 0, 0, 0)), (25, (.aload_n 0, 1, 0, 0, 0, 0, 0)), (26, (.dup, 1, 0, 0, 0, 0, 0)), (27, (.getfield 44, 3, 2, 2, 0, 0, 0)), (30, (.iconst 1, 1, 0, 0, 0, 1, 0)), (31, (.isub, 1, 0, 0, 0, 0, 0)), (32, (.putfield 44, 3, 2, 2, 0, 0, 0)), (35, (.aload_n 0, 1, 0, 0, 0, 0, 0)), (36, (.getfield 19, 3, 2, 4, 0, 0, 0)), (39, (.aload_n 0, 1, 0, 0, 0, 0, 0)), (40, (.getfield 9, 3, 2, 1, 0, 0, 0)), (43, (.aload_n 0, 1, 0, 0, 0, 0, 0)), (44, (.getfield 44, 3, 2, 2, 0, 0, 0)), (47, (.iaload, 1, 0, 0, 0, 0, 0)), (48, (.invokevirtual 94, 3, 4, 2, 0, 0, 0)), (51, (.goto (-51), 3, 0, 0, 0, 0, 0)), (54, (.return_, 1, 0, 0, 0, 0, 0))]
def cd_78 : List (Nat × Ent) := [(0, (.iload_n 0, 1, 0, 0, 0, 0, 0)), (1, (.tableswitch (51) (10004) (10010) #[43, 45, 45, 47, 47, 49, 49], 43, 0, 0, 0, 0, 0)), (44, (.iconst 4, 1, 0, 0, 0, 4, 0)), (45, (.ireturn, 1, 0, 0, 0, 0, 0)), (46, (.iconst 3, 1, 0, 0, 0, 3, 0)), (47, (.ireturn, 1, 0, 0, 0, 0, 0)), (48, (.iconst 2, 1, 0, 0, 0, 2, 0)), (49, (.ireturn, 1, 0, 0, 0, 0, 0)), (50, (.iconst 1, 1, 0, 0, 0, 1, 0)), (51, (.ireturn, 1, 0, 0, 0, 0, 0)), (52, (.iconst 0, 1, 0, 0, 0, 0, 0)), (53, (.ireturn, 1, 0, 0, 0, 0, 0))]
def cd_79 : List (Nat × Ent) := [(0, (.aload_n 0, 1, 0, 0, 0, 0, 0)), (1, (.getfield 15, 3, 2, 0, 0, 0, 0)), (4, (.bipush (42), 2, 0, 0, 0, 42, 0)), (6, (.invokevirtual 77, 3, 55, 2, 1, 0, 0)), (9, (.ifCond .eq (7), 3, 0, 16, 0, 0, 0)), (12, (.sipush (10004), 3, 0, 0, 0, 10004, 0)), (15, (.ireturn, 1, 0, 0, 0, 0, 0)), (16, (.aload_n 0, 1, 0, 0, 0, 0, 0)), (17, (.getfield 15, 3, 2, 0, 0, 0, 0)), (20, (.bipush (43), 2, 0, 0, 0, 43, 0)), (22, (.invokevirtual 77, 3, 55, 2, 1, 0, 0)), (25, (.ifCond .eq (7), 3, 0, 32, 0, 0, 0)), (28, (.sipush (10005), 3, 0, 0, 0, 10005, 0)), (31, (.ireturn, 1, 0, 0, 0, 0, 0)), (32, (.aload_n 0, 1, 0, 0, 0, 0, 0)), (33, (.getfield 15, 3, 2, 0, 0, 0, 0)), (36, (.bipush (45), 2, 0, 0, 0, 45, 0)), (38, (.invokevirtual 77, 3, 55, 2, 1, 0, 0)), (41, (.ifCond .eq (7), 3, 0, 48, 0, 0, 0)), (44, (.sipush (10006), 3, 0, 0, 0, 10006, 0)), (47, (.ireturn, 1, 0, 0, 0, 0, 0)), (48, (.aload_n 0, 1, 0, 0, 0, 0, 0)), (49, (.getfield 15, 3, 2, 0, 0, 0, 0)), (52, (.bipush (60), 2, 0, 0, 0, 60, 0)), (54, (.invokevirtual 77, 3, 55, 2, 1, 0, 0)), (57, (.ifCond .eq (7), 3, 0, 64, 0, 0, 0)), (60, (.sipush (10007), 3, 0, 0, 0, 10007, 0)), (63, (.ireturn, 1, 0, 0, 0, 0, 0)), (64, (.aload_n 0, 1, 0, 0, 0, 0, 0)), (65, (.getfield 15, 3, 2, 0, 0, 0, 0)), (68, (.bipush (61), 2, 0, 0, 0, 61, 0)), (70, (.invokevirtual 77, 3, 55, 2, 1, 0, 0)), (73, (.ifCond .eq (7), 3, 0, 80, 0, 0, 0)), (76, (.sipush (10008), 3, 0, 0, 0, 10008, 0)), (79, (.ireturn, 1, 0, 0, 0, 0, 0)), (80, (.aload_n 0, 1, 0, 0, 0, 0, 0)), (81, (.getfield 15, 3, 2, 0, 0, 0, 0)), (84, (.ldc 113, 2, 0, 27, 1, 0, 0)), (86, (.invokevirtual 73, 3, 35, 2, 1, 0, 0)), (89, (.ifCond .eq (7), 3, 0, 96, 0, 0, 0)), (92, (.sipush (10009), 3, 0, 0, 0, 10009, 0)), (95, (.ireturn, 1, 0, 0, 0, 0, 0)), (96, (.aload_n 0, 1, 0, 0, 0, 0, 0)), (97, (.getfield 15, 3, 2, 0, 0, 0, 0)), (100, (.ldc 115, 2, 0, 28, 1, 0, 0)), (102, (.invokevirtual 73, 3, 35, 2, 1, 0, 0)), (105, (.ifCond .eq (9), 3, 0, 114, 0, 0, 0)), (108, (.sipush (10010), 3, 0, 0, 0, 10010, 0)), (111, (.goto (4), 3, 0, 115, 0, 0, 0)), (114, (.iconst (-1), 1, 0, 0, 0, (-1), 0)), (115, (.ireturn, 1, 0, 0, 0, 0, 0))]
def cd_80 : List (Nat × Ent) := [(0, (.aload_n 0, 1, 0, 0, 0, 0, 0)), (1, (.iconst 1, 1, 0, 0, 0, 1, 0)), (2, (.invokevirtual 110, 3, 77, 2, 0, 0, 0)), (5, (.aload_n 0, 1, 0, 0, 0, 0, 0)), (6, (.getfield 44, 3, 2, 2, 0, 0, 0)), (9, (.ifCond .le (12), 3, 0, 21, 0, 0, 0)), (12, (.aload_n 0, 1, 0, 0, 0, 0, 0)), (13, (.getfield 15, 3, 2, 0, 0, 0, 0)), (16, (.iconst 1, 1, 0, 0, 0, 1, 0)), (17, (.invokevirtual 31, 3, 45, 2, 1, 0, 0)), (20, (.ireturn, 1, 0, 0, 1, 0, 0)), (21, (.aload_n 0, 1, 0, 0, 0, 0, 0)), (22, (.getfield 15, 3, 2, 0, 0, 0, 0)), (25, (.bipush (59), 2, 0, 0, 0, 59, 0)), (27, (.invokevirtual 121, 3, 54, 2, 1, 0, 0)), (30, (.ireturn, 1, 0, 0, 1, 0, 0))]
def cd_81 : List (Nat × Ent) := [(0, (.iload_n 1, 1, 1, 0, 0, 0, 0)), (1, (.invokestatic 117, 3, 78, 1, 1, 0, 0)), (4, (.istore_n 2, 1, 2, 0, 0, 0, 0)), (5, (.iload_n 2, 1, 2, 0, 0, 0, 0)), (6, (.sipush (10007), 3, 0, 0, 0, 10007, 0)), (9, (.invokestatic 117, 3, 78, 1, 1, 0, 0)), (12, (.if_icmp .ne (7), 3, 0, 19, 0, 0, 0)), (15, (.iconst 1, 1, 0, 0, 0, 1, 0)), (16, (.goto (4), 3, 0, 20, 0, 0, 0)), (19, (.iconst 0, 1, 0, 0, 0, 0, 0)), (20, (.istore_n 3, 1, 3, 0, 0, 0, 0)), (21, (.aload_n 0, 1, 0, 0, 0, 0, 0)), (22, (.iload_n 3, 1, 3, 0, 0, 0, 0)), (23, (.ifCond .eq (9), 3, 0, 32, 0, 0, 0)), (26, (.iload_n 2, 1, 2, 0, 0, 0, 0)), (27, (.iconst 1, 1, 0, 0, 0, 1, 0)), (28, (.iadd, 1, 0, 0, 0, 0, 0)), (29, (.goto (4), 3, 0, 33, 0, 0, 0)), (32, (.iload_n 2, 1, 2, 0, 0, 0, 0)), (33, (.invokevirtual 110, 3, 77, 2, 0, 0, 0)), (36, (.iload_n 3, 1, 3, 0, 0, 0, 0)), (37, (.ifCond .eq (37), 3, 0, 74, 0, 0, 0)), (40, (.aload_n 0, 1, 0, 0, 0, 0, 0)), (41, (.getfield 44, 3, 2, 2, 0, 0, 0)), (44, (.ifCond .le (30), 3, 0, 74, 0, 0, 0)), (47, (.aload_n 0, 1, 0, 0, 0, 0, 0)), (48, (.getfield 9, 3, 2, 1, 0, 0, 0)), (51, (.aload_n 0, 1, 0, 0, 0, 0, 0)), (52, (.getfield 44, 3, 2, 2, 0, 0, 0)), (55, (.iconst 1, 1, 0, 0, 0, 1, 0)), (56, (.isub, 1, 0, 0, 0, 0, 0)), (57, (.iaload, 1, 0, 0, 0, 0, 0)), (58, (.invokestatic 117, 3, 78, 1, 1, 0, 0)), (61, (.iload_n 2, 1, 2, 0, 0, 0, 0)), (62, (.if_icmp .ne (12), 3, 0, 74, 0, 0, 0)), (65, (.aload_n 0, 1, 0, 0, 0, 0, 0)), (66, (.getfield 15, 3, 2, 0, 0, 0, 0)), (69, (.iconst 1, 1, 0, 0, 0, 1, 0)), (70, (.invokevirtual 31, 3, 45, 2, 1, 0, 0)), (73, (.ireturn, 1, 0, 0, 1, 0, 0)), (74, (.aload_n 0, 1, 0, 0, 0, 0, 0)), (75, (.iload_n 1, 1, 1, 0, 0, 0, 0)), (76, (.invokevirtual 81, 3, 72, 2, 0, 0, 0)), (79, (.aload_n 0, 1, 0, 0, 0, 0, 0)), (80, (.getfield 15, 3, 2, 0, 0, 0, 0)), (83, (.invokevirtual 41, 3, 11, 1, 0, 0, 0)), (86, (.iconst 1, 1, 0, 0, 0, 1, 0)), (87, (.ireturn, 1, 0, 0, 1, 0, 0))]
def cd_82 : List (Nat × Ent) := [(0, (.aload_n 0, 1, 0, 0, 0, 0, 0)), (1, (.iconst 0, 1, 0, 0, 0, 0, 0)), (2, (.putfield 15, 3, 7, 0, 0, 0, 0)), (5, (.return_, 1, 0, 0, 0, 0, 0))]
def cd_83 : List (Nat × Ent) := [(0, (.aload_n 0, 1, 0, 0, 0, 0, 0)), (1, (.getfield 12, 3, 9, 0, 0, 0, 0)), (4, (.aload_n 1, 1, 1, 0, 0, 0, 0)), (5, (.getfield 12, 3, 9, 0, 0, 0, 0)), (8, (.invokevirtual 90, 3, 84, 2, 0, 0, 0)), (11, (.aload_n 0, 1, 0, 0, 0, 0, 0)), (12, (.getfield 18, 3, 9, 1, 0, 0, 0)), (15, (.aload_n 1, 1, 1, 0, 0, 0, 0)), (16, (.getfield 18, 3, 9, 1, 0, 0, 0)), (19, (.invokevirtual 90, 3, 84, 2, 0, 0, 0)), (22, (.aload_n 0, 1, 0, 0, 0, 0, 0)), (23, (.getfield 21, 3, 9, 2, 0, 0, 0)), (26, (.aload_n 1, 1, 1, 0, 0, 0, 0)), (27, (.getfield 21, 3, 9, 2, 0, 0, 0)), (30, (.invokevirtual 90, 3, 84, 2, 0, 0, 0)), (33, (.aload_n 1, 1, 1, 0, 0, 0, 0)), (34, (.getfield 24, 3, 9, 3, 0, 0, 0)), (37, (.iconst 0, 1, 0, 0, 0, 0, 0)), (38, (.aload_n 0, 1, 0, 0, 0, 0, 0)), (39, (.getfield 24, 3, 9, 3, 0, 0, 0)), (42, (.iconst 0, 1, 0, 0, 0, 0, 0)), (43, (.bipush (6), 2, 0, 0, 0, 6, 0)), (45, (.invokestatic 94, 3, 0, 0, 9, 0, 0)), (48, (.aload_n 1, 1, 1, 0, 0, 0, 0)), (49, (.getfield 28, 3, 9, 4, 0, 0, 0)), (52, (.iconst 0, 1, 0, 0, 0, 0, 0)), (53, (.aload_n 0, 1, 0, 0, 0, 0, 0)), (54, (.getfield 28, 3, 9, 4, 0, 0, 0)), (57, (.iconst 0, 1, 0, 0, 0, 0, 0)), (58, (.bipush (6), 2, 0, 0, 0, 6, 0)), (60, (.invokestatic 94, 3, 0, 0, 9, 0, 0)), (63, (.aload_n 1, 1, 1, 0, 0, 0, 0)), (64, (.getfield 31, 3, 9, 5, 0, 0, 0)), (67, (.iconst 0, 1, 0, 0, 0, 0, 0)), (68, (.aload_n 0, 1, 0, 0, 0, 0, 0)), (69, (.getfield 31, 3, 9, 5, 0, 0, 0)), (72, (.iconst 0, 1, 0, 0, 0, 0, 0)), (73, (.bipush (6), 2, 0, 0, 0, 6, 0)), (75, (.invokestatic 94, 3, 0, 0, 9, 0, 0)), (78, (.aload_n 1, 1, 1, 0, 0, 0, 0)), (79, (.getfield 34, 3, 9, 6, 0, 0, 0)), (82, (.iconst 0, 1, 0, 0, 0, 0, 0)), (83, (.aload_n 0, 1, 0, 0, 0, 0, 0)), (84, (.getfield 34, 3, 9, 6, 0, 0, 0)), (87, (.iconst 0, 1, 0, 0, 0, 0, 0)), (88, (.bipush (6), 2, 0, 0, 0, 6, 0)), (90, (.invokestatic 94, 3, 0, 0, 9, 0, 0)), (93, (.aload_n 1, 1, 1, 0, 0, 0, 0)), (94, (.getfield 37, 3, 9, 7, 0, 0, 0)), (97, (.iconst 0, 1, 0, 0, 0, 0, 0)), (98, (.aload_n 0, 1, 0, 0, 0, 0, 0)), (99, (.getfield 37, 3, 9, 7, 0, 0, 0)), (102, (.iconst 0, 1, 0, 0, 0, 0, 0)), (103, (.bipush (6), 2, 0, 0, 0, 6, 0)), (105, (.invokestatic 94, 3, 0, 0, 9, 0, 0)), (108, (.aload_n 1, 1, 1, 0, 0, 0, 0)), (109, (.getfield 40, 3, 9, 8, 0, 0, 0)), (112, (.iconst 0, 1, 0, 0, 0, 0, 0)), (113, (.aload_n 0, 1, 0, 0, 0, 0, 0)), (114, (.getfield 40, 3, 9, 8, 0, 0, 0)), (117, (.iconst 0, 1, 0, 0, 0, 0, 0)), (118, (.bipush (6), 2, 0, 0, 0, 6, 0)), (120, (.invokestatic 94, 3, 0, 0, 9, 0, 0)), (123, (.aload_n 1, 1, 1, 0, 0, 0, 0)), (124, (.getfield 43, 3, 9, 9, 0, 0, 0)), (127, (.iconst 0, 1, 0, 0, 0, 0, 0)), (128, (.aload_n 0, 1, 0, 0, 0, 0, 0)), (129, (.getfield 43, 3, 9, 9, 0, 0, 0)), (132, (.iconst 0, 1, 0, 0, 0, 0, 0)), (133, (.bipush (6), 2, 0, 0, 0, 6, 0)), (135, (.invokestatic 94, 3, 0, 0, 9, 0, 0)), (138, (.aload_n 1, 1, 1, 0, 0, 0, 0)), (139, (.getfield 46, 3, 9, 10, 0, 0, 0)), (142, (.iconst 0, 1, 0, 0, 0, 0, 0)), (143, (.aload_n 0, 1, 0, 0, 0, 0, 0)), (144, (.getfield 46, 3, 9, 10, 0, 0, 0)), (147, (.iconst 0, 1, 0, 0, 0, 0, 0)), (148, (.bipush (6), 2, 0, 0, 0, 6, 0)), (150, (.invokestatic 94, 3, 0, 0, 9, 0, 0)), (153, (.aload_n 1, 1, 1, 0, 0, 0, 0)), (154, (.getfield 49, 3, 9, 11, 0, 0, 0)), (157, (.iconst 0, 1, 0, 0, 0, 0, 0)), (158, (.aload_n 0, 1, 0, 0, 0, 0, 0)), (159, (.getfield 49, 3, 9, 11, 0, 0, 0)), (162, (.iconst 0, 1, 0, 0, 0, 0, 0)), (163, (.bipush (6), 2, 0, 0, 0, 6, 0)), (165, (.invokestatic 94, 3, 0, 0, 9, 0, 0)), (168, (.aload_n 0, 1, 0, 0, 0, 0, 0)), (169, (.aload_n 1, 1, 1, 0, 0, 0, 0)), (170, (.getfield 75, 3, 9, 12, 0, 0, 0)), (173, (.putfield 75, 3, 9, 12, 0, 0, 0)), (176, (.aload_n 1, 1, 1, 0, 0, 0, 0)), (177, (.getfield 52, 3, 9, 13, 0, 0, 0)), (180, (.iconst 0, 1, 0, 0, 0, 0, 0)), (181, (.aload_n 0, 1, 0, 0, 0, 0, 0)), (182, (.getfield 52, 3, 9, 13, 0, 0, 0)), (185, (.iconst 0, 1, 0, 0, 0, 0, 0)), (186, (.bipush (14), 2, 0, 0, 0, 14, 0)), (188, (.invokestatic 94, 3, 0, 0, 9, 0, 0)), (191, (.aload_n 0, 1, 0, 0, 0, 0, 0)), (192, (.aload_n 1, 1, 1, 0, 0, 0, 0)), (193, (.getfield 79, 3, 9, 14, 0, 0, 0)), (196, (.putfield 79, 3, 9, 14, 0, 0, 0)), (199, (.aload_n 0, 1, 0, 0, 0, 0, 0)), (200, (.aload_n 1, 1, 1, 0, 0, 0, 0)), (201, (.getfield 82, 3, 9, 15, 0, 0, 0)), (204, (.putfield 82, 3, 9, 15, 0, 0, 0)), (207, (.aload_n 0, 1, 0, 0, 0, 0, 0)), (208, (.getfield 58, 3, 9, 16, 0, 0, 0)), (211, (.aload_n 1, 1, 1, 0, 0, 0, 0)), (212, (.getfield 58, 3, 9, 16, 0, 0, 0)), (215, (.invokevirtual 100, 3, 85, 2, 0, 0, 0)), (218, (.aload_n 0, 1, 0, 0, 0, 0, 0)), (219, (.getfield 62, 3, 9, 17, 0, 0, 0)), (222, (.aload_n 1, 1, 1, 0, 0, 0, 0)), (223, (.getfield 62, 3, 9, 17, 0, 0, 0)), (226, (.invokevirtual 100, 3, 85, 2, 0, 0, 0)), (229, (.return_, 1, 0, 0, 0, 0, 0))]
def cd_84 : List (Nat × Ent) := [(0, (.aload_n 1, 1, 1, 0, 0, 0, 0)), (1, (.getfield 9, 3, 4, 1, 0, 0, 0)), (4, (.iconst 0, 1, 0, 0, 0, 0, 0)), (5, (.aload_n 0, 1, 0, 0, 0, 0, 0)), (6, (.getfield 9, 3, 4, 1, 0, 0, 0)), (9, (.iconst 0, 1, 0, 0, 0, 0, 0)), (10, (.aload_n 0, 1, 0, 0, 0, 0, 0)), (11, (.getfield 9, 3, 4, 1, 0, 0, 0)), (14, (.arraylength, 1, 0, 0, 0, 0, 0)), (15, (.invokestatic 19, 3, 0, 0, 9, 0, 0)), (18, (.aload_n 0, 1, 0, 0, 0, 0, 0)), (19, (.aload_n 1, 1, 1, 0, 0, 0, 0)), (20, (.getfield 15, 3, 4, 0, 0, 0, 0)), (23, (.putfield 15, 3, 4, 0, 0, 0, 0)), (26, (.return_, 1, 0, 0, 0, 0, 0))]
def cd_85 : List (Nat × Ent) := [(0, (.aload_n 1, 1, 1, 0, 0, 0, 0)), (1, (.getfield 9, 3, 1, 1, 0, 0, 0)), (4, (.iconst 0, 1, 0, 0, 0, 0, 0)), (5, (.aload_n 0, 1, 0, 0, 0, 0, 0)), (6, (.getfield 9, 3, 1, 1, 0, 0, 0)), (9, (.iconst 0, 1, 0, 0, 0, 0, 0)), (10, (.aload_n 1, 1, 1, 0, 0, 0, 0)), (11, (.getfield 18, 3, 1, 2, 0, 0, 0)), (14, (.invokestatic 26, 3, 0, 0, 9, 0, 0)), (17, (.aload_n 0, 1, 0, 0, 0, 0, 0)), (18, (.aload_n 1, 1, 1, 0, 0, 0, 0)), (19, (.getfield 18, 3, 1, 2, 0, 0, 0)), (22, (.putfield 18, 3, 1, 2, 0, 0, 0)), (25, (.return_, 1, 0, 0, 0, 0, 0))]
def cd_86 : List (Nat × Ent) := [(0, (.aload_n 0, 1, 0, 0, 0, 0, 0)), (1, (.iconst 0, 1, 0, 0, 0, 0, 0)), (2, (.putfield 21, 3, 5, 3, 0, 0, 0)), (5, (.return_, 1, 0, 0, 0, 0, 0))]
def cd_87 : List (Nat × Ent) := [(0, (.aload_n 0, 1, 0, 0, 0, 0, 0)), (1, (.getfield 42, 3, 11, 5, 0, 0, 0)), (4, (.aload_n 0, 1, 0, 0, 0, 0, 0)), (5, (.getfield 12, 3, 11, 0, 0, 0, 0)), (8, (.aload_n 0, 1, 0, 0, 0, 0, 0)), (9, (.getfield 19, 3, 11, 1, 0, 0, 0)), (12, (.invokevirtual 110, 3, 88, 3, 1, 0, 0)), (15, (.istore_n 1, 1, 1, 0, 0, 0, 0)), (16, (.aload_n 0, 1, 0, 0, 0, 0, 0)), (17, (.getfield 12, 3, 11, 0, 0, 0, 0)), (20, (.invokevirtual 96, 3, 82, 1, 0, 0, 0)), (23, (.iload_n 1, 1, 1, 0, 0, 0, 0)), (24, (.ifCond .ne (14), 3, 0, 38, 0, 0, 0)), (27, (.aload_n 0, 1, 0, 0, 0, 0, 0)), (28, (.getfield 38, 3, 11, 4, 0, 0, 0)), (31, (.aload_n 0, 1, 0, 0, 0, 0, 0)), (32, (.getfield 42, 3, 11, 5, 0, 0, 0)), (35, (.invokevirtual 113, 3, 92, 2, 0, 0, 0)), (38, (.iload_n 1, 1, 1, 0, 0, 0, 0)), (39, (.ireturn, 1, 0, 0, 0, 0, 0))]
def cd_88 : List (Nat × Ent) := [(0, (.aload_n 0, 1, 0, 0, 0, 0, 0)), (1, (.invokevirtual 31, 3, 86, 1, 0, 0, 0)), (4, (.aload_n 1, 1, 1, 0, 0, 0, 0)), (5, (.invokevirtual 34, 3, 10, 1, 0, 0, 0)), (8, (.iconst 0, 1, 0, 0, 0, 0, 0)), (9, (.istore_n 3, 1, 3, 0, 0, 0, 0)), (10, (.iload_n 3, 1, 3, 0, 0, 0, 0)), (11, (.bipush (40), 2, 0, 0, 0, 40, 0)), (13, (.if_icmp .gt (30), 3, 0, 43, 0, 0, 0)), (16, (.aload_n 1, 1, 1, 0, 0, 0, 0)), (17, (.invokevirtual 39, 3, 33, 1, 1, 0, 0)), (20, (.ifCond .ne (23), 3, 0, 43, 0, 0, 0)), (23, (.aload_n 0, 1, 0, 0, 0, 0, 0)), (24, (.aload_n 1, 1, 1, 0, 0, 0, 0)), (25, (.aload_n 2, 1, 2, 0, 0, 0, 0)), (26, (.invokevirtual 43, 3, 89, 3, 1, 0, 0)), (29, (.ifCond .ne (8), 3, 0, 37, 0, 0, 0)), (32, (.aload_n 1, 1, 1, 0, 0, 0, 0)), (33, (.getfield 47, 3, 7, 1, 0, 0, 0)), (36, (.ireturn, 1, 0, 0, 0, 0, 0)), (37, (.iinc 3 (1), 3, 3, 0, 0, 1, 0)), (40, (.goto (-30), 3, 0, 10, 0, 0, 0)), (43, (.iconst 0, 1, 0, 0, 0, 0, 0)), (44, (.ireturn, 1, 0, 0, 0, 0, 0))]
def cd_89 : List (Nat × Ent) := [(0, (.aload_n 1, 1, 1, 0, 0, 0, 0)), (1, (.invokestatic 50, 3, 90, 1, 1, 0, 0)), (4, (.istore_n 3, 1, 3, 0, 0, 0, 0)), (5, (.iload_n 3, 1, 3, 0, 0, 0, 0)), (6, (.iconst (-1), 1, 0, 0, 0, (-1), 0)), (7, (.if_icmp .ne (9), 3, 0, 16, 0, 0, 0)), (10, (.aload_n 1, 1, 1, 0, 0, 0, 0)), (11, (.iconst 1, 1, 0, 0, 0, 1, 0)), (12, (.invokevirtual 54, 3, 45, 2, 1, 0, 0)), (15, (.ireturn, 1, 0, 0, 1, 0, 0)), (16, (.aload_n 0, 1, 0, 0, 0, 0, 0)), (17, (.getfield 21, 3, 5, 3, 0, 0, 0)), (20, (.bipush (40), 2, 0, 0, 0, 40, 0)), (22, (.if_icmp .lt (9), 3, 0, 31, 0, 0, 0)), (25, (.aload_n 1, 1, 1, 0, 0, 0, 0)), (26, (.iconst 5, 1, 0, 0, 0, 5, 0)), (27, (.invokevirtual 54, 3, 45, 2, 1, 0, 0)), (30, (.ireturn, 1, 0, 0, 1, 0, 0)), (31, (.aload_n 1, 1, 1, 0, 0, 0, 0)), (32, (.invokevirtual 58, 3, 11, 1, 0, 0, 0)), (35, (.aload_n 0, 1, 0, 0, 0, 0, 0)), (36, (.aload_n 1, 1, 1, 0, 0, 0, 0)), (37, (.aload_n 2, 1, 2, 0, 0, 0, 0)), (38, (.iload_n 3, 1, 3, 0, 0, 0, 0)), (39, (.invokevirtual 61, 3, 91, 4, 1, 0, 0)), (42, (.ifCond .eq (12), 3, 0, 54, 0, 0, 0)), (45, (.aload_n 1, 1, 1, 0, 0, 0, 0)), (46, (.bipush (59), 2, 0, 0, 0, 59, 0)), (48, (.invokevirtual 65, 3, 54, 2, 1, 0, 0)), (51, (.ifCond .ne (5), 3, 0, 56, 0, 0, 0)), (54, (.iconst 0, 1, 0, 0, 0, 0, 0)), (55, (.ireturn, 1, 0, 0, 1, 0, 0)), (56, (.aload_n 0, 1, 0, 0, 0, 0, 0)), (57, (.getfield 11, 3, 5, 0, 0, 0, 0)), (60, (.aload_n 0, 1, 0, 0, 0, 0, 0)), (61, (.getfield 21, 3, 5, 3, 0, 0, 0)), (64, (.iload_n 3, 1, 3, 0, 0, 0, 0)), (65, (.iastore, 1, 0, 0, 0, 0, 0)), (66, (.aload_n 0, 1, 0, 0, 0, 0, 0)), (67, (.dup, 1, 0, 0, 0, 0, 0)), (68, (.getfield 21, 3, 5, 3, 0, 0, 0)), (71, (.iconst 1, 1, 0, 0, 0, 1, 0)), (72, (.iadd, 1, 0, 0, 0, 0, 0)), (73, (.putfield 21, 3, 5, 3, 0, 0, 0)), (76, (.iconst 1, 1, 0, 0, 0, 1, 0)), (77, (.ireturn, 1, 0, 0, 1, 0, 0))]
def cd_90 : List (Nat × Ent) := [(0, (.aload_n 0, 1, 0, 0, 0, 0, 0)), (1, (.ldc 69, 2, 0, 30, 1, 0, 0)), (3, (.invokevirtual 71, 3, 35, 2, 1, 0, 0)), (6, (.ifCond .eq (5), 3, 0, 11, 0, 0, 0)), (9, (.iconst 0, 1, 0, 0, 0, 0, 0)), (10, (.ireturn, 1, 0, 0, 0, 0, 0)), (11, (.aload_n 0, 1, 0, 0, 0, 0, 0)), (12, (.ldc 75, 2, 0, 31, 1, 0, 0)), (14, (.invokevirtual 71, 3, 35, 2, 1, 0, 0)), (17, (.ifCond .eq (5), 3, 0, 22, 0, 0, 0)), (20, (.iconst 1, 1, 0, 0, 0, 1, 0)), (21, (.ireturn, 1, 0, 0, 0, 0, 0)), (22, (.aload_n 0, 1, 0, 0, 0, 0, 0)), (23, (.ldc 77, 2, 0, 32, 1, 0, 0)), (25, (.invokevirtual 71, 3, 35, 2, 1, 0, 0)), (28, (.ifCond .eq (5), 3, 0, 33, 0, 0, 0)), (31, (.iconst 2, 1, 0, 0, 0, 2, 0)), (32, (.ireturn, 1, 0, 0, 0, 0, 0)), (33, (.aload_n 0, 1, 0, 0, 0, 0, 0)), (34, (.ldc 79, 2, 0, 33, 1, 0, 0)), (36, (.invokevirtual 71, 3, 35, 2, 1, 0, 0)), (39, (.ifCond .eq (5), 3, 0, 44, 0, 0, 0)), (42, (.iconst 3, 1, 0, 0, 0, 3, 0)), (43, (.ireturn, 1, 0, 0, 0, 0, 0)), (44, (.aload_n 0, 1, 0, 0, 0, 0, 0)), (45, (.ldc 81, 2, 0, 34, 1, 0, 0)), (47, (.invokevirtual 71, 3, 35, 2, 1, 0, 0)), (50, (.ifCond .eq (7), 3, 0, 57, 0, 0, 0)), (53, (.iconst 4, 1, 0, 0, 0, 4, 0)), (54, (.goto (4), 3, 0, 58, 0, 0, 0)), (57, (.iconst (-1), 1, 0, 0, 0, (-1), 0)), (58, (.ireturn, 1, 0, 0, 0, 0, 0))]
def cd_91 : List (Nat × Ent) := [(0, (.iload_n 3, 1, 3, 0, 0, 0, 0)), (1, (.iconst 4, 1, 0, 0, 0, 4, 0)), (2, (.if_icmp .ne (5), 3, 0, 7, 0, 0, 0)), (5, (.iconst 1, 1, 0, 0, 0, 1, 0)), (6, (.ireturn, 1, 0, 0, 1, 0, 0)), (7, (.aload_n 1, 1, 1, 0, 0, 0, 0)), (8, (.iload_n 3, 1, 3, 0, 0, 0, 0)), (9, (.iconst 1, 1, 0, 0, 0, 1, 0)), (10, (.if_icmp .ne (10), 3, 0, 20, 0, 0, 0)), (13, (.aload_n 2, 1, 2, 0, 0, 0, 0)), (14, (.getfield 83, 3, 9, 1, 0, 0, 0)), (17, (.goto (7), 3, 0, 24, 0, 0, 0)), (20, (.aload_n 2, 1, 2, 0, 0, 0, 0)), (21, (.getfield 89, 3, 9, 2, 0, 0, 0)), (24, (.invokevirtual 92, 3, 63, 2, 1, 0, 0)), (27, (.ifCond .ne (5), 3, 0, 32, 0, 0, 0)), (30, (.iconst 0, 1, 0, 0, 0, 0, 0)), (31, (.ireturn, 1, 0, 0, 1, 0, 0)), (32, (.aload_n 0, 1, 0, 0, 0, 0, 0)), (33, (.getfield 15, 3, 5, 1, 0, 0, 0)), (36, (.aload_n 0, 1, 0, 0, 0, 0, 0)), (37, (.getfield 21, 3, 5, 3, 0, 0, 0)), (40, (.aload_n 1, 1, 1, 0, 0, 0, 0)), (41, (.getfield 96, 3, 7, 3, 0, 0, 0)), (44, (.iastore, 1, 0, 0, 0, 0, 0)), (45, (.iload_n 3, 1, 3, 0, 0, 0, 0)), (46, (.iconst 2, 1, 0, 0, 0, 2, 0)), (47, (.if_icmp .eq (8), 3, 0, 55, 0, 0, 0)), (50, (.iload_n 3, 1, 3, 0, 0, 0, 0)), (51, (.iconst 3, 1, 0, 0, 0, 3, 0)), (52, (.if_icmp .ne (5), 3, 0, 57, 0, 0, 0)), (55, (.iconst 1, 1, 0, 0, 0, 1, 0)), (56, (.ireturn, 1, 0, 0, 1, 0, 0)), (57, (.aload_n 1, 1, 1, 0, 0, 0, 0)), (58, (.iload_n 3, 1, 3, 0, 0, 0, 0)), (59, (.iconst 1, 1, 0, 0, 0, 1, 0)), (60, (.if_icmp .ne (10), 3, 0, 70, 0, 0, 0)), (63, (.aload_n 2, 1, 2, 0, 0, 0, 0)), (64, (.getfield 89, 3, 9, 2, 0, 0, 0)), (67, (.goto (7), 3, 0, 74, 0, 0, 0)), (70, (.aload_n 2, 1, 2, 0, 0, 0, 0)), (71, (.getfield 99, 3, 9, 0, 0, 0, 0)), (74, (.invokevirtual 92, 3, 63, 2, 1, 0, 0)), (77, (.ifCond .ne (5), 3, 0, 82, 0, 0, 0)), (80, (.iconst 0, 1, 0, 0, 0, 0, 0)), (81, (.ireturn, 1, 0, 0, 1, 0, 0)), (82, (.aload_n 0, 1, 0, 0, 0, 0, 0)), (83, (.getfield 18, 3, 5, 2, 0, 0, 0)), (86, (.aload_n 0, 1, 0, 0, 0, 0, 0)), (87, (.getfield 21, 3, 5, 3, 0, 0, 0)), (90, (.aload_n 1, 1, 1, 0, 0, 0, 0)), (91, (.getfield 96, 3, 7, 3, 0, 0, 0)), (94, (.iastore, 1, 0, 0, 0, 0, 0)), (95, (.iconst 1, 1, 0, 0, 0, 1, 0)), (96, (.ireturn, 1, 0, 0, 1, 0, 0))]
def cd_92 : List (Nat × Ent) := [(0, (.aload_n 1, 1, 1, 0, 0, 0, 0)), (1, (.getfield 11, 3, 5, 0, 0, 0, 0)), (4, (.iconst 0, 1, 0, 0, 0, 0, 0)), (5, (.aload_n 0, 1, 0, 0, 0, 0, 0)), (6, (.getfield 11, 3, 5, 0, 0, 0, 0)), (9, (.iconst 0, 1, 0, 0, 0, 0, 0)), (10, (.bipush (40), 2, 0, 0, 0, 40, 0)), (12, (.invokestatic 25, 3, 0, 0, 9, 0, 0)), (15, (.aload_n 1, 1, 1, 0, 0, 0, 0)), (16, (.getfield 15, 3, 5, 1, 0, 0, 0)), (19, (.iconst 0, 1, 0, 0, 0, 0, 0)), (20, (.aload_n 0, 1, 0, 0, 0, 0, 0)), (21, (.getfield 15, 3, 5, 1, 0, 0, 0)), (24, (.iconst 0, 1, 0, 0, 0, 0, 0)), (25, (.bipush (40), 2, 0, 0, 0, 40, 0)), (27, (.invokestatic 25, 3, 0, 0, 9, 0, 0)), (30, (.aload_n 1, 1, 1, 0, 0, 0, 0)), (31, (.getfield 18, 3, 5, 2, 0, 0, 0)), (34, (.iconst 0, 1, 0, 0, 0, 0, 0)), (35, (.aload_n 0, 1, 0, 0, 0, 0, 0)), (36, (.getfield 18, 3, 5, 2, 0, 0, 0)), (39, (.iconst 0, 1, 0, 0, 0, 0, 0)), (40, (.bipush (40), 2, 0, 0, 0, 40, 0)), (42, (.invokestatic 25, 3, 0, 0, 9, 0, 0)), (45, (.aload_n 0, 1, 0, 0, 0, 0, 0)), (46, (.aload_n 1, 1, 1, 0, 0, 0, 0)), (47, (.getfield 21, 3, 5, 3, 0, 0, 0)), (50, (.putfield 21, 3, 5, 3, 0, 0, 0)), (53, (.return_, 1, 0, 0, 0, 0, 0))]
def cd_93 : List (Nat × Ent) := [(0, (.aload_n 0, 1, 0, 0, 0, 0, 0)), (1, (.iload_n 1, 1, 1, 0, 0, 0, 0)), (2, (.invokevirtual 116, 3, 94, 2, 1, 0, 0)), (5, (.ifCond .ne (5), 3, 0, 10, 0, 0, 0)), (8, (.iconst (-1), 1, 0, 0, 0, (-1), 0)), (9, (.ireturn, 1, 0, 0, 0, 0, 0)), (10, (.iload_n 2, 1, 2, 0, 0, 0, 0)), (11, (.tableswitch (170) (0) (8) #[49, 59, 69, 79, 88, 98, 108, 125, 145], 49, 0, 0, 0, 0, 0)), (60, (.aload_n 0, 1, 0, 0, 0, 0, 0)), (61, (.getfield 19, 3, 11, 1, 0, 0, 0)), (64, (.getfield 120, 3, 9, 6, 0, 0, 0)), (67, (.iload_n 1, 1, 1, 0, 0, 0, 0)), (68, (.iaload, 1, 0, 0, 0, 0, 0)), (69, (.ireturn, 1, 0, 0, 0, 0, 0)), (70, (.aload_n 0, 1, 0, 0, 0, 0, 0)), (71, (.getfield 50, 3, 11, 6, 0, 0, 0)), (74, (.getfield 124, 3, 6, 1, 0, 0, 0)), (77, (.iload_n 1, 1, 1, 0, 0, 0, 0)), (78, (.iaload, 1, 0, 0, 0, 0, 0)), (79, (.ireturn, 1, 0, 0, 0, 0, 0)), (80, (.aload_n 0, 1, 0, 0, 0, 0, 0)), (81, (.getfield 50, 3, 11, 6, 0, 0, 0)), (84, (.getfield 127, 3, 6, 2, 0, 0, 0)), (87, (.iload_n 1, 1, 1, 0, 0, 0, 0)), (88, (.iaload, 1, 0, 0, 0, 0, 0)), (89, (.ireturn, 1, 0, 0, 0, 0, 0)), (90, (.aload_n 0, 1, 0, 0, 0, 0, 0)), (91, (.getfield 19, 3, 11, 1, 0, 0, 0)), (94, (.iload_n 1, 1, 1, 0, 0, 0, 0)), (95, (.invokevirtual 130, 3, 95, 2, 1, 0, 0)), (98, (.ireturn, 1, 0, 0, 0, 0, 0)), (99, (.aload_n 0, 1, 0, 0, 0, 0, 0)), (100, (.getfield 50, 3, 11, 6, 0, 0, 0)), (103, (.getfield 134, 3, 6, 4, 0, 0, 0)), (106, (.iload_n 1, 1, 1, 0, 0, 0, 0)), (107, (.iaload, 1, 0, 0, 0, 0, 0)), (108, (.ireturn, 1, 0, 0, 0, 0, 0)), (109, (.aload_n 0, 1, 0, 0, 0, 0, 0)), (110, (.getfield 50, 3, 11, 6, 0, 0, 0)), (113, (.getfield 137, 3, 6, 3, 0, 0, 0)), (116, (.iload_n 1, 1, 1, 0, 0, 0, 0)), (117, (.iaload, 1, 0, 0, 0, 0, 0)), (118, (.ireturn, 1, 0, 0, 0, 0, 0)), (119, (.aload_n 0, 1, 0, 0, 0, 0, 0)), (120, (.getfield 50, 3, 11, 6, 0, 0, 0)), (123, (.iload_n 1, 1, 1, 0, 0, 0, 0)), (124, (.invokevirtual 140, 3, 96, 2, 1, 0, 0)), (127, (.ifCond .eq (7), 3, 0, 134, 0, 0, 0)), (130, (.iconst 1, 1, 0, 0, 0, 1, 0)), (131, (.goto (4), 3, 0, 135, 0, 0, 0)), (134, (.iconst 0, 1, 0, 0, 0, 0, 0)), (135, (.ireturn, 1, 0, 0, 0, 0, 0)), (136, (.aload_n 0, 1, 0, 0, 0, 0, 0)), (137, (.getfield 50, 3, 11, 6, 0, 0, 0)), (140, (.getfield 143, 3, 6, 8, 0, 0, 0)), (143, (.iload_n 1, 1, 1, 0, 0, 0, 0)), (144, (.invokestatic 146, 3, 64, 2, 1, 0, 0)), (147, (.ifCond .eq (7), 3, 0, 154, 0, 0, 0)), (150, (.iconst 1, 1, 0, 0, 0, 1, 0)), (151, (.goto (4), 3, 0, 155, 0, 0, 0)), (154, (.iconst 0, 1, 0, 0, 0, 0, 0)), (155, (.ireturn, 1, 0, 0, 0, 0, 0)), (156, (.aload_n 0, 1, 0, 0, 0, 0, 0)), (157, (.getfield 50, 3, 11, 6, 0, 0, 0)), (160, (.iload_n 1, 1, 1, 0, 0, 0, 0)), (161, (.invokevirtual 150, 3, 97, 2, 1, 0, 0)), (164, (.ifCond .eq (15), 3, 0, 179, 0, 0, 0)), (167, (.aload_n 0, 1, 0, 0, 0, 0, 0)), (168, (.getfield 50, 3, 11, 6, 0, 0, 0)), (171, (.iload_n 1, 1, 1, 0, 0, 0, 0)), (172, (.iconst 0, 1, 0, 0, 0, 0, 0)), (173, (.invokevirtual 153, 3, 100, 3, 1, 0, 0)), (176, (.goto (4), 3, 0, 180, 0, 0, 0)), (179, (.iconst 0, 1, 0, 0, 0, 0, 0)), (180, (.ireturn, 1, 0, 0, 0, 0, 0)), (181, (.iconst (-1), 1, 0, 0, 0, (-1), 0)), (182, (.ireturn, 1, 0, 0, 0, 0, 0))]
def cd_94 : List (Nat × Ent) := [(0, (.iload_n 1, 1, 1, 0, 0, 0, 0)), (1, (.ifCond .lt (21), 3, 0, 22, 0, 0, 0)), (4, (.iload_n 1, 1, 1, 0, 0, 0, 0)), (5, (.aload_n 0, 1, 0, 0, 0, 0, 0)), (6, (.getfield 19, 3, 11, 1, 0, 0, 0)), (9, (.getfield 175, 3, 9, 2, 0, 0, 0)), (12, (.getfield 179, 3, 4, 0, 0, 0, 0)), (15, (.if_icmp .ge (7), 3, 0, 22, 0, 0, 0)), (18, (.iconst 1, 1, 0, 0, 0, 1, 0)), (19, (.goto (4), 3, 0, 23, 0, 0, 0)), (22, (.iconst 0, 1, 0, 0, 0, 0, 0)), (23, (.ireturn, 1, 0, 0, 1, 0, 0))]
def cd_95 : List (Nat × Ent) := [(0, (.aload_n 0, 1, 0, 0, 0, 0, 0)), (1, (.getfield 34, 3, 9, 6, 0, 0, 0)), (4, (.iload_n 1, 1, 1, 0, 0, 0, 0)), (5, (.iaload, 1, 0, 0, 0, 0, 0)), (6, (.iconst 1, 1, 0, 0, 0, 1, 0)), (7, (.if_icmp .ne (18), 3, 0, 25, 0, 0, 0)), (10, (.iconst 1, 1, 0, 0, 0, 1, 0)), (11, (.aload_n 0, 1, 0, 0, 0, 0, 0)), (12, (.getfield 40, 3, 9, 8, 0, 0, 0)), (15, (.iload_n 1, 1, 1, 0, 0, 0, 0)), (16, (.iaload, 1, 0, 0, 0, 0, 0)), (17, (.iconst 2, 1, 0, 0, 0, 2, 0)), (18, (.idiv, 1, 0, 0, 0, 0, 0)), (19, (.invokestatic 113, 3, 21, 2, 1, 0, 0)), (22, (.goto (9), 3, 0, 31, 0, 0, 0)), (25, (.aload_n 0, 1, 0, 0, 0, 0, 0)), (26, (.getfield 40, 3, 9, 8, 0, 0, 0)), (29, (.iload_n 1, 1, 1, 0, 0, 0, 0)), (30, (.iaload, 1, 0, 0, 0, 0, 0)), (31, (.ireturn, 1, 0, 0, 0, 0, 0))]
def cd_96 : List (Nat × Ent) := [(0, (.aload_n 0, 1, 0, 0, 0, 0, 0)), (1, (.iload_n 1, 1, 1, 0, 0, 0, 0)), (2, (.invokevirtual 77, 3, 97, 2, 1, 0, 0)), (5, (.ifCond .eq (15), 3, 0, 20, 0, 0, 0)), (8, (.aload_n 0, 1, 0, 0, 0, 0, 0)), (9, (.iload_n 1, 1, 1, 0, 0, 0, 0)), (10, (.invokevirtual 81, 3, 99, 2, 1, 0, 0)), (13, (.ifCond .eq (7), 3, 0, 20, 0, 0, 0)), (16, (.iconst 1, 1, 0, 0, 0, 1, 0)), (17, (.goto (4), 3, 0, 21, 0, 0, 0)), (20, (.iconst 0, 1, 0, 0, 0, 0, 0)), (21, (.ireturn, 1, 0, 0, 1, 0, 0))]
def cd_97 : List (Nat × Ent) := [(0, (.aload_n 0, 1, 0, 0, 0, 0, 0)), (1, (.invokevirtual 65, 3, 98, 1, 1, 0, 0)), (4, (.iload_n 1, 1, 1, 0, 0, 0, 0)), (5, (.invokestatic 69, 3, 64, 2, 1, 0, 0)), (8, (.ireturn, 1, 0, 0, 1, 0, 0))]
def cd_98 : List (Nat × Ent) := [(0, (.aload_n 0, 1, 0, 0, 0, 0, 0)), (1, (.getfield 56, 3, 6, 7, 0, 0, 0)), (4, (.aload_n 0, 1, 0, 0, 0, 0, 0)), (5, (.getfield 59, 3, 6, 8, 0, 0, 0)), (8, (.iconst (-1), 1, 0, 0, 0, (-1), 0)), (9, (.ixor, 1, 0, 0, 0, 0, 0)), (10, (.iand, 1, 0, 0, 0, 0, 0)), (11, (.ireturn, 1, 0, 0, 0, 0, 0))]
def cd_99 : List (Nat × Ent) := [(0, (.aload_n 0, 1, 0, 0, 0, 0, 0)), (1, (.getfield 15, 3, 6, 2, 0, 0, 0)), (4, (.iload_n 1, 1, 1, 0, 0, 0, 0)), (5, (.iaload, 1, 0, 0, 0, 0, 0)), (6, (.aload_n 0, 1, 0, 0, 0, 0, 0)), (7, (.getfield 30, 3, 6, 10, 0, 0, 0)), (10, (.iload_n 1, 1, 1, 0, 0, 0, 0)), (11, (.invokevirtual 73, 3, 95, 2, 1, 0, 0)), (14, (.if_icmp .lt (7), 3, 0, 21, 0, 0, 0)), (17, (.iconst 1, 1, 0, 0, 0, 1, 0)), (18, (.goto (4), 3, 0, 22, 0, 0, 0)), (21, (.iconst 0, 1, 0, 0, 0, 0, 0)), (22, (.ireturn, 1, 0, 0, 1, 0, 0))]
def cd_100 : List (Nat × Ent) := [(0, (.aload_n 0, 1, 0, 0, 0, 0, 0)), (1, (.getfield 30, 3, 6, 10, 0, 0, 0)), (4, (.iload_n 1, 1, 1, 0, 0, 0, 0)), (5, (.aload_n 0, 1, 0, 0, 0, 0, 0)), (6, (.getfield 21, 3, 6, 4, 0, 0, 0)), (9, (.iload_n 1, 1, 1, 0, 0, 0, 0)), (10, (.iaload, 1, 0, 0, 0, 0, 0)), (11, (.aload_n 0, 1, 0, 0, 0, 0, 0)), (12, (.getfield 9, 3, 6, 1, 0, 0, 0)), (15, (.iload_n 1, 1, 1, 0, 0, 0, 0)), (16, (.iaload, 1, 0, 0, 0, 0, 0)), (17, (.aload_n 0, 1, 0, 0, 0, 0, 0)), (18, (.getfield 18, 3, 6, 3, 0, 0, 0)), (21, (.iload_n 1, 1, 1, 0, 0, 0, 0)), (22, (.iaload, 1, 0, 0, 0, 0, 0)), (23, (.aload_n 0, 1, 0, 0, 0, 0, 0)), (24, (.getfield 30, 3, 6, 10, 0, 0, 0)), (27, (.aload_n 0, 1, 0, 0, 0, 0, 0)), (28, (.getfield 37, 3, 6, 0, 0, 0, 0)), (31, (.invokevirtual 118, 3, 101, 2, 1, 0, 0)), (34, (.iload_n 2, 1, 2, 0, 0, 0, 0)), (35, (.iadd, 1, 0, 0, 0, 0, 0)), (36, (.invokevirtual 121, 3, 103, 6, 1, 0, 0)), (39, (.ireturn, 1, 0, 0, 0, 0, 0))]
def cd_101 : List (Nat × Ent) := [(0, (.aload_n 0, 1, 0, 0, 0, 0, 0)), (1, (.getfield 79, 3, 9, 14, 0, 0, 0)), (4, (.iconst 1, 1, 0, 0, 0, 1, 0)), (5, (.if_icmp .ge (7), 3, 0, 12, 0, 0, 0)), (8, (.iconst 3, 1, 0, 0, 0, 3, 0)), (9, (.goto (16), 3, 0, 25, 0, 0, 0)), (12, (.aload_n 0, 1, 0, 0, 0, 0, 0)), (13, (.getfield 52, 3, 9, 13, 0, 0, 0)), (16, (.iload_n 1, 1, 1, 0, 0, 0, 0)), (17, (.aload_n 0, 1, 0, 0, 0, 0, 0)), (18, (.getfield 79, 3, 9, 14, 0, 0, 0)), (21, (.invokestatic 107, 3, 102, 2, 1, 0, 0)), (24, (.iaload, 1, 0, 0, 0, 0, 0)), (25, (.ireturn, 1, 0, 0, 0, 0, 0))]
def cd_102 : List (Nat × Ent) := [(0, (.iload_n 0, 1, 0, 0, 0, 0, 0)), (1, (.iload_n 1, 1, 1, 0, 0, 0, 0)), (2, (.irem, 1, 0, 0, 0, 0, 0)), (3, (.istore_n 2, 1, 2, 0, 0, 0, 0)), (4, (.iload_n 0, 1, 0, 0, 0, 0, 0)), (5, (.iload_n 1, 1, 1, 0, 0, 0, 0)), (6, (.ixor, 1, 0, 0, 0, 0, 0)), (7, (.ifCond .ge (11), 3, 0, 18, 0, 0, 0)), (10, (.iload_n 2, 1, 2, 0, 0, 0, 0)), (11, (.ifCond .eq (7), 3, 0, 18, 0, 0, 0)), (14, (.iload_n 2, 1, 2, 0, 0, 0, 0)), (15, (.iload_n 1, 1, 1, 0, 0, 0, 0)), (16, (.iadd, 1, 0, 0, 0, 0, 0)), (17, (.ireturn, 1, 0, 0, 0, 0, 0)), (18, (.iload_n 2, 1, 2, 0, 0, 0, 0)), (19, (.ireturn, 1, 0, 0, 0, 0, 0))]
def cd_103 : List (Nat × Ent) := [(0, (.iload_n 2, 1, 2, 0, 0, 0, 0)), (1, (.ifCond .lt (23), 3, 0, 24, 0, 0, 0)), (4, (.aload_n 0, 1, 0, 0, 0, 0, 0)), (5, (.getfield 34, 3, 9, 6, 0, 0, 0)), (8, (.iload_n 1, 1, 1, 0, 0, 0, 0)), (9, (.iaload, 1, 0, 0, 0, 0, 0)), (10, (.iconst 3, 1, 0, 0, 0, 3, 0)), (11, (.if_icmp .ne (15), 3, 0, 26, 0, 0, 0)), (14, (.aload_n 0, 1, 0, 0, 0, 0, 0)), (15, (.getfield 24, 3, 9, 3, 0, 0, 0)), (18, (.iload_n 2, 1, 2, 0, 0, 0, 0)), (19, (.iaload, 1, 0, 0, 0, 0, 0)), (20, (.iconst 5, 1, 0, 0, 0, 5, 0)), (21, (.if_icmp .lt (5), 3, 0, 26, 0, 0, 0)), (24, (.iconst 0, 1, 0, 0, 0, 0, 0)), (25, (.ireturn, 1, 0, 0, 0, 0, 0)), (26, (.iconst 0, 1, 0, 0, 0, 0, 0)), (27, (.bipush (9), 2, 0, 0, 0, 9, 0)), (29, (.aload_n 0, 1, 0, 0, 0, 0, 0)), (30, (.getfield 58, 3, 9, 16, 0, 0, 0)), (33, (.iload 5, 2, 5, 0, 0, 0, 0)), (35, (.aload_n 0, 1, 0, 0, 0, 0, 0)), (36, (.getfield 24, 3, 9, 3, 0, 0, 0)), (39, (.iload_n 2, 1, 2, 0, 0, 0, 0)), (40, (.iaload, 1, 0, 0, 0, 0, 0)), (41, (.iload_n 3, 1, 3, 0, 0, 0, 0)), (42, (.invokevirtual 116, 3, 104, 4, 1, 0, 0)), (45, (.invokestatic 120, 3, 22, 2, 1, 0, 0)), (48, (.invokestatic 113, 3, 21, 2, 1, 0, 0)), (51, (.istore 6, 2, 6, 0, 0, 0, 0)), (53, (.aload_n 0, 1, 0, 0, 0, 0, 0)), (54, (.getfield 34, 3, 9, 6, 0, 0, 0)), (57, (.iload_n 1, 1, 1, 0, 0, 0, 0)), (58, (.iaload, 1, 0, 0, 0, 0, 0)), (59, (.iconst 1, 1, 0, 0, 0, 1, 0)), (60, (.if_icmp .ne (9), 3, 0, 69, 0, 0, 0)), (63, (.iinc 6 (1), 3, 6, 0, 0, 1, 0)), (66, (.goto (19), 3, 0, 85, 0, 0, 0)), (69, (.aload_n 0, 1, 0, 0, 0, 0, 0)), (70, (.getfield 34, 3, 9, 6, 0, 0, 0)), (73, (.iload_n 1, 1, 1, 0, 0, 0, 0)), (74, (.iaload, 1, 0, 0, 0, 0, 0)), (75, (.iconst 2, 1, 0, 0, 0, 2, 0)), (76, (.if_icmp .ne (9), 3, 0, 85, 0, 0, 0)), (79, (.iload 6, 2, 6, 0, 0, 0, 0)), (81, (.iconst 2, 1, 0, 0, 0, 2, 0)), (82, (.idiv, 1, 0, 0, 0, 0, 0)), (83, (.istore 6, 2, 6, 0, 0, 0, 0)), (85, (.iconst 0, 1, 0, 0, 0, 0, 0)), (86, (.iload 6, 2, 6, 0, 0, 0, 0)), (88, (.iload 4, 2, 4, 0, 0, 0, 0)), (90, (.isub, 1, 0, 0, 0, 0, 0)), (91, (.invokestatic 113, 3, 21, 2, 1, 0, 0)), (94, (.ireturn, 1, 0, 0, 0, 0, 0))]
def cd_104 : List (Nat × Ent) := [(0, (.iconst 0, 1, 0, 0, 0, 0, 0)), (1, (.istore 4, 2, 4, 0, 0, 0, 0)), (3, (.iconst 0, 1, 0, 0, 0, 0, 0)), (4, (.istore 5, 2, 5, 0, 0, 0, 0)), (6, (.iload 5, 2, 5, 0, 0, 0, 0)), (8, (.aload_n 0, 1, 0, 0, 0, 0, 0)), (9, (.getfield 18, 3, 1, 2, 0, 0, 0)), (12, (.if_icmp .ge (155), 3, 0, 167, 0, 0, 0)), (15, (.aload_n 0, 1, 0, 0, 0, 0, 0)), (16, (.getfield 9, 3, 1, 1, 0, 0, 0)), (19, (.iload 5, 2, 5, 0, 0, 0, 0)), (21, (.iaload, 1, 0, 0, 0, 0, 0)), (22, (.istore 6, 2, 6, 0, 0, 0, 0)), (24, (.iload 6, 2, 6, 0, 0, 0, 0)), (26, (.sipush (10003), 3, 0, 0, 0, 10003, 0)), (29, (.if_icmp .ge (51), 3, 0, 80, 0, 0, 0)), (32, (.iload 4, 2, 4, 0, 0, 0, 0)), (34, (.aload_n 0, 1, 0, 0, 0, 0, 0)), (35, (.getfield 15, 3, 1, 3, 0, 0, 0)), (38, (.arraylength, 1, 0, 0, 0, 0, 0)), (39, (.if_icmp .ge (122), 3, 0, 161, 0, 0, 0)), (42, (.aload_n 0, 1, 0, 0, 0, 0, 0)), (43, (.getfield 15, 3, 1, 3, 0, 0, 0)), (46, (.iload 4, 2, 4, 0, 0, 0, 0)), (48, (.iload 6, 2, 6, 0, 0, 0, 0)), (50, (.sipush (10000), 3, 0, 0, 0, 10000, 0)), (53, (.if_icmp .ge (8), 3, 0, 61, 0, 0, 0)), (56, (.iload 6, 2, 6, 0, 0, 0, 0)), (58, (.goto (15), 3, 0, 73, 0, 0, 0)), (61, (.iload 6, 2, 6, 0, 0, 0, 0)), (63, (.sipush (10000), 3, 0, 0, 0, 10000, 0)), (66, (.isub, 1, 0, 0, 0, 0, 0)), (67, (.iload_n 1, 1, 1, 0, 0, 0, 0)), (68, (.iload_n 2, 1, 2, 0, 0, 0, 0)), (69, (.iload_n 3, 1, 3, 0, 0, 0, 0)), (70, (.invokestatic 32, 3, 105, 4, 1, 0, 0)), (73, (.iastore, 1, 0, 0, 0, 0, 0)), (74, (.iinc 4 (1), 3, 4, 0, 0, 1, 0)), (77, (.goto (84), 3, 0, 161, 0, 0, 0)), (80, (.iload 6, 2, 6, 0, 0, 0, 0)), (82, (.sipush (10003), 3, 0, 0, 0, 10003, 0)), (85, (.if_icmp .ne (37), 3, 0, 122, 0, 0, 0)), (88, (.iload 4, 2, 4, 0, 0, 0, 0)), (90, (.ifCond .le (71), 3, 0, 161, 0, 0, 0)), (93, (.aload_n 0, 1, 0, 0, 0, 0, 0)), (94, (.getfield 15, 3, 1, 3, 0, 0, 0)), (97, (.iload 4, 2, 4, 0, 0, 0, 0)), (99, (.iconst 1, 1, 0, 0, 0, 1, 0)), (100, (.isub, 1, 0, 0, 0, 0, 0)), (101, (.aload_n 0, 1, 0, 0, 0, 0, 0)), (102, (.getfield 15, 3, 1, 3, 0, 0, 0)), (105, (.iload 4, 2, 4, 0, 0, 0, 0)), (107, (.iconst 1, 1, 0, 0, 0, 1, 0)), (108, (.isub, 1, 0, 0, 0, 0, 0)), (109, (.iaload, 1, 0, 0, 0, 0, 0)), (110, (.ifCond .ne (7), 3, 0, 117, 0, 0, 0)), (113, (.iconst 1, 1, 0, 0, 0, 1, 0)), (114, (.goto (4), 3, 0, 118, 0, 0, 0)), (117, (.iconst 0, 1, 0, 0, 0, 0, 0)), (118, (.iastore, 1, 0, 0, 0, 0, 0)), (119, (.goto (42), 3, 0, 161, 0, 0, 0)), (122, (.iload 4, 2, 4, 0, 0, 0, 0)), (124, (.iconst 1, 1, 0, 0, 0, 1, 0)), (125, (.if_icmp .le (36), 3, 0, 161, 0, 0, 0)), (128, (.iinc 4 (-1), 3, 4, 0, 0, (-1), 0)), (131, (.aload_n 0, 1, 0, 0, 0, 0, 0)), (132, (.getfield 15, 3, 1, 3, 0, 0, 0)), (135, (.iload 4, 2, 4, 0, 0, 0, 0)), (137, (.iconst 1, 1, 0, 0, 0, 1, 0)), (138, (.isub, 1, 0, 0, 0, 0, 0)), (139, (.iload 6, 2, 6, 0, 0, 0, 0)), (141, (.aload_n 0, 1, 0, 0, 0, 0, 0)), (142, (.getfield 15, 3, 1, 3, 0, 0, 0)), (145, (.iload 4, 2, 4, 0, 0, 0, 0)), (147, (.iconst 1, 1, 0, 0, 0, 1, 0)), (148, (.isub, 1, 0, 0, 0, 0, 0)), (149, (.iaload, 1, 0, 0, 0, 0, 0)), (150, (.aload_n 0, 1, 0, 0, 0, 0, 0)), (151, (.getfield 15, 3, 1, 3, 0, 0, 0)), (154, (.iload 4, 2, 4, 0, 0, 0, 0)), (156, (.iaload, 1, 0, 0, 0, 0, 0)), (157, (.invokestatic 36, 3, 106, 3, 1, 0, 0)), (160, (.iastore, 1, 0, 0, 0, 0, 0)), (161, (.iinc 5 (1), 3, 5, 0, 0, 1, 0)), (164, (.goto (-158), 3, 0, 6, 0, 0, 0)), (167, (.aload_n 0, 1, 0, 0, 0, 0, 0)), (168, (.getfield 15, 3, 1, 3, 0, 0, 0)), (171, (.iconst 0, 1, 0, 0, 0, 0, 0)), (172, (.iaload, 1, 0, 0, 0, 0, 0)), (173, (.ireturn, 1, 0, 0, 0, 0, 0))]
def cd_105 : List (Nat × Ent) := [(0, (.iload_n 0, 1, 0, 0, 0, 0, 0)), (1, (.ifCond .ne (5), 3, 0, 6, 0, 0, 0)), (4, (.iload_n 1, 1, 1, 0, 0, 0, 0)), (5, (.ireturn, 1, 0, 0, 0, 0, 0)), (6, (.iload_n 0, 1, 0, 0, 0, 0, 0)), (7, (.iconst 1, 1, 0, 0, 0, 1, 0)), (8, (.if_icmp .ne (7), 3, 0, 15, 0, 0, 0)), (11, (.iload_n 2, 1, 2, 0, 0, 0, 0)), (12, (.goto (4), 3, 0, 16, 0, 0, 0)), (15, (.iload_n 3, 1, 3, 0, 0, 0, 0)), (16, (.ireturn, 1, 0, 0, 0, 0, 0))]
def cd_106 : List (Nat × Ent) := [(0, (.iload_n 0, 1, 0, 0, 0, 0, 0)), (1, (.tableswitch (87) (10004) (10009) #[39, 43, 47, 51, 62, 73], 39, 0, 0, 0, 0, 0)), (40, (.iload_n 1, 1, 1, 0, 0, 0, 0)), (41, (.iload_n 2, 1, 2, 0, 0, 0, 0)), (42, (.imul, 1, 0, 0, 0, 0, 0)), (43, (.ireturn, 1, 0, 0, 0, 0, 0)), (44, (.iload_n 1, 1, 1, 0, 0, 0, 0)), (45, (.iload_n 2, 1, 2, 0, 0, 0, 0)), (46, (.iadd, 1, 0, 0, 0, 0, 0)), (47, (.ireturn, 1, 0, 0, 0, 0, 0)), (48, (.iload_n 1, 1, 1, 0, 0, 0, 0)), (49, (.iload_n 2, 1, 2, 0, 0, 0, 0)), (50, (.isub, 1, 0, 0, 0, 0, 0)), (51, (.ireturn, 1, 0, 0, 0, 0, 0)), (52, (.iload_n 1, 1, 1, 0, 0, 0, 0)), (53, (.iload_n 2, 1, 2, 0, 0, 0, 0)), (54, (.if_icmp .ge (7), 3, 0, 61, 0, 0, 0)), (57, (.iconst 1, 1, 0, 0, 0, 1, 0)), (58, (.goto (4), 3, 0, 62, 0, 0, 0)), (61, (.iconst 0, 1, 0, 0, 0, 0, 0)), (62, (.ireturn, 1, 0, 0, 0, 0, 0)), (63, (.iload_n 1, 1, 1, 0, 0, 0, 0)), (64, (.iload_n 2, 1, 2, 0, 0, 0, 0)), (65, (.if_icmp .ne (7), 3, 0, 72, 0, 0, 0)), (68, (.iconst 1, 1, 0, 0, 0, 1, 0)), (69, (.goto (4), 3, 0, 73, 0, 0, 0)), (72, (.iconst 0, 1, 0, 0, 0, 0, 0)), (73, (.ireturn, 1, 0, 0, 0, 0, 0)), (74, (.iload_n 1, 1, 1, 0, 0, 0, 0)), (75, (.ifCond .eq (11), 3, 0, 86, 0, 0, 0)), (78, (.iload_n 2, 1, 2, 0, 0, 0, 0)), (79, (.ifCond .eq (7), 3, 0, 86, 0, 0, 0)), (82, (.iconst 1, 1, 0, 0, 0, 1, 0)), (83, (.goto (4), 3, 0, 87, 0, 0, 0)), (86, (.iconst 0, 1, 0, 0, 0, 0, 0)), (87, (.ireturn, 1, 0, 0, 0, 0, 0)), (88, (.iload_n 1, 1, 1, 0, 0, 0, 0)), (89, (.ifCond .ne (7), 3, 0, 96, 0, 0, 0)), (92, (.iload_n 2, 1, 2, 0, 0, 0, 0)), (93, (.ifCond .eq (7), 3, 0, 100, 0, 0, 0)), (96, (.iconst 1, 1, 0, 0, 0, 1, 0)), (97, (.goto (4), 3, 0, 101, 0, 0, 0)), (100, (.iconst 0, 1, 0, 0, 0, 0, 0)), (101, (.ireturn, 1, 0, 0, 0, 0, 0))]
def cd_107 : List (Nat × Ent) := [(0, (.aload_n 0, 1, 0, 0, 0, 0, 0)), (1, (.iload_n 1, 1, 1, 0, 0, 0, 0)), (2, (.invokevirtual 157, 3, 108, 2, 1, 0, 0)), (5, (.ifCond .ne (6), 3, 0, 11, 0, 0, 0)), (8, (.bipush (-2), 2, 0, 0, 0, (-2), 0)), (10, (.ireturn, 1, 0, 0, 0, 0, 0)), (11, (.iload_n 2, 1, 2, 0, 0, 0, 0)), (12, (.tableswitch (82) (0) (3) #[32, 42, 52, 62], 32, 0, 0, 0, 0, 0)), (44, (.aload_n 0, 1, 0, 0, 0, 0, 0)), (45, (.getfield 19, 3, 11, 1, 0, 0, 0)), (48, (.getfield 160, 3, 9, 4, 0, 0, 0)), (51, (.iload_n 1, 1, 1, 0, 0, 0, 0)), (52, (.iaload, 1, 0, 0, 0, 0, 0)), (53, (.ireturn, 1, 0, 0, 0, 0, 0)), (54, (.aload_n 0, 1, 0, 0, 0, 0, 0)), (55, (.getfield 19, 3, 11, 1, 0, 0, 0)), (58, (.getfield 163, 3, 9, 5, 0, 0, 0)), (61, (.iload_n 1, 1, 1, 0, 0, 0, 0)), (62, (.iaload, 1, 0, 0, 0, 0, 0)), (63, (.ireturn, 1, 0, 0, 0, 0, 0)), (64, (.aload_n 0, 1, 0, 0, 0, 0, 0)), (65, (.getfield 50, 3, 11, 6, 0, 0, 0)), (68, (.getfield 166, 3, 6, 5, 0, 0, 0)), (71, (.iload_n 1, 1, 1, 0, 0, 0, 0)), (72, (.iaload, 1, 0, 0, 0, 0, 0)), (73, (.ireturn, 1, 0, 0, 0, 0, 0)), (74, (.aload_n 0, 1, 0, 0, 0, 0, 0)), (75, (.getfield 50, 3, 11, 6, 0, 0, 0)), (78, (.getfield 169, 3, 6, 9, 0, 0, 0)), (81, (.iload_n 1, 1, 1, 0, 0, 0, 0)), (82, (.invokestatic 146, 3, 64, 2, 1, 0, 0)), (85, (.ifCond .eq (7), 3, 0, 92, 0, 0, 0)), (88, (.iconst 1, 1, 0, 0, 0, 1, 0)), (89, (.goto (4), 3, 0, 93, 0, 0, 0)), (92, (.iconst 0, 1, 0, 0, 0, 0, 0)), (93, (.ireturn, 1, 0, 0, 0, 0, 0)), (94, (.bipush (-2), 2, 0, 0, 0, (-2), 0)), (96, (.ireturn, 1, 0, 0, 0, 0, 0))]
def cd_108 : List (Nat × Ent) := [(0, (.iload_n 1, 1, 1, 0, 0, 0, 0)), (1, (.ifCond .lt (21), 3, 0, 22, 0, 0, 0)), (4, (.iload_n 1, 1, 1, 0, 0, 0, 0)), (5, (.aload_n 0, 1, 0, 0, 0, 0, 0)), (6, (.getfield 19, 3, 11, 1, 0, 0, 0)), (9, (.getfield 191, 3, 9, 1, 0, 0, 0)), (12, (.getfield 179, 3, 4, 0, 0, 0, 0)), (15, (.if_icmp .ge (7), 3, 0, 22, 0, 0, 0)), (18, (.iconst 1, 1, 0, 0, 0, 1, 0)), (19, (.goto (4), 3, 0, 23, 0, 0, 0)), (22, (.iconst 0, 1, 0, 0, 0, 0, 0)), (23, (.ireturn, 1, 0, 0, 1, 0, 0))]
def cd_109 : List (Nat × Ent) := [(0, (.aload_n 0, 1, 0, 0, 0, 0, 0)), (1, (.getfield 50, 3, 11, 6, 0, 0, 0)), (4, (.invokevirtual 172, 3, 110, 1, 1, 0, 0)), (7, (.ireturn, 1, 0, 0, 0, 0, 0))]
def cd_110 : List (Nat × Ent) := [(0, (.iconst 0, 1, 0, 0, 0, 0, 0)), (1, (.istore_n 1, 1, 1, 0, 0, 0, 0)), (2, (.iconst 0, 1, 0, 0, 0, 0, 0)), (3, (.istore_n 2, 1, 2, 0, 0, 0, 0)), (4, (.iload_n 2, 1, 2, 0, 0, 0, 0)), (5, (.aload_n 0, 1, 0, 0, 0, 0, 0)), (6, (.getfield 30, 3, 6, 10, 0, 0, 0)), (9, (.getfield 84, 3, 9, 2, 0, 0, 0)), (12, (.getfield 88, 3, 4, 0, 0, 0, 0)), (15, (.if_icmp .ge (27), 3, 0, 42, 0, 0, 0)), (18, (.iload_n 1, 1, 1, 0, 0, 0, 0)), (19, (.aload_n 0, 1, 0, 0, 0, 0, 0)), (20, (.iload_n 2, 1, 2, 0, 0, 0, 0)), (21, (.invokevirtual 93, 3, 96, 2, 1, 0, 0)), (24, (.ifCond .eq (9), 3, 0, 33, 0, 0, 0)), (27, (.iconst 1, 1, 0, 0, 0, 1, 0)), (28, (.iload_n 2, 1, 2, 0, 0, 0, 0)), (29, (.ishl, 1, 0, 0, 0, 0, 0)), (30, (.goto (4), 3, 0, 34, 0, 0, 0)), (33, (.iconst 0, 1, 0, 0, 0, 0, 0)), (34, (.ior, 1, 0, 0, 0, 0, 0)), (35, (.istore_n 1, 1, 1, 0, 0, 0, 0)), (36, (.iinc 2 (1), 3, 2, 0, 0, 1, 0)), (39, (.goto (-35), 3, 0, 4, 0, 0, 0)), (42, (.iload_n 1, 1, 1, 0, 0, 0, 0)), (43, (.ireturn, 1, 0, 0, 0, 0, 0))]
def cd_111 : List (Nat × Ent) := [(0, (.iload_n 1, 1, 1, 0, 0, 0, 0)), (1, (.ifCond .lt (8), 3, 0, 9, 0, 0, 0)), (4, (.iload_n 1, 1, 1, 0, 0, 0, 0)), (5, (.iconst 1, 1, 0, 0, 0, 1, 0)), (6, (.if_icmp .le (5), 3, 0, 11, 0, 0, 0)), (9, (.iconst (-1), 1, 0, 0, 0, (-1), 0)), (10, (.ireturn, 1, 0, 0, 0, 0, 0)), (11, (.iconst 0, 1, 0, 0, 0, 0, 0)), (12, (.istore_n 2, 1, 2, 0, 0, 0, 0)), (13, (.iconst 0, 1, 0, 0, 0, 0, 0)), (14, (.istore_n 3, 1, 3, 0, 0, 0, 0)), (15, (.iload_n 3, 1, 3, 0, 0, 0, 0)), (16, (.aload_n 0, 1, 0, 0, 0, 0, 0)), (17, (.getfield 19, 3, 11, 1, 0, 0, 0)), (20, (.getfield 175, 3, 9, 2, 0, 0, 0)), (23, (.getfield 179, 3, 4, 0, 0, 0, 0)), (26, (.if_icmp .ge (53), 3, 0, 79, 0, 0, 0)), (29, (.aload_n 0, 1, 0, 0, 0, 0, 0)), (30, (.getfield 50, 3, 11, 6, 0, 0, 0)), (33, (.iload_n 3, 1, 3, 0, 0, 0, 0)), (34, (.invokevirtual 140, 3, 96, 2, 1, 0, 0)), (37, (.ifCond .eq (36), 3, 0, 73, 0, 0, 0)), (40, (.aload_n 0, 1, 0, 0, 0, 0, 0)), (41, (.getfield 19, 3, 11, 1, 0, 0, 0)), (44, (.getfield 160, 3, 9, 4, 0, 0, 0)), (47, (.aload_n 0, 1, 0, 0, 0, 0, 0)), (48, (.getfield 19, 3, 11, 1, 0, 0, 0)), (51, (.getfield 182, 3, 9, 10, 0, 0, 0)), (54, (.iload_n 3, 1, 3, 0, 0, 0, 0)), (55, (.iaload, 1, 0, 0, 0, 0, 0)), (56, (.iaload, 1, 0, 0, 0, 0, 0)), (57, (.iload_n 1, 1, 1, 0, 0, 0, 0)), (58, (.if_icmp .ne (15), 3, 0, 73, 0, 0, 0)), (61, (.iload_n 2, 1, 2, 0, 0, 0, 0)), (62, (.aload_n 0, 1, 0, 0, 0, 0, 0)), (63, (.getfield 19, 3, 11, 1, 0, 0, 0)), (66, (.getfield 185, 3, 9, 9, 0, 0, 0)), (69, (.iload_n 3, 1, 3, 0, 0, 0, 0)), (70, (.iaload, 1, 0, 0, 0, 0, 0)), (71, (.iadd, 1, 0, 0, 0, 0, 0)), (72, (.istore_n 2, 1, 2, 0, 0, 0, 0)), (73, (.iinc 3 (1), 3, 3, 0, 0, 1, 0)), (76, (.goto (-61), 3, 0, 15, 0, 0, 0)), (79, (.iload_n 2, 1, 2, 0, 0, 0, 0)), (80, (.ireturn, 1, 0, 0, 0, 0, 0))]
def cd_112 : List (Nat × Ent) := [(0, (.iload_n 1, 1, 1, 0, 0, 0, 0)), (1, (.tableswitch (184) (0) (12) #[67, 78, 89, 100, 108, 116, 131, 139, 147, 155, 163, 171, 176], 67, 0, 0, 0, 0, 0)), (68, (.aload_n 0, 1, 0, 0, 0, 0, 0)), (69, (.getfield 19, 3, 11, 1, 0, 0, 0)), (72, (.getfield 188, 3, 9, 0, 0, 0, 0)), (75, (.getfield 179, 3, 4, 0, 0, 0, 0)), (78, (.ireturn, 1, 0, 0, 0, 0, 0)), (79, (.aload_n 0, 1, 0, 0, 0, 0, 0)), (80, (.getfield 19, 3, 11, 1, 0, 0, 0)), (83, (.getfield 191, 3, 9, 1, 0, 0, 0)), (86, (.getfield 179, 3, 4, 0, 0, 0, 0)), (89, (.ireturn, 1, 0, 0, 0, 0, 0)), (90, (.aload_n 0, 1, 0, 0, 0, 0, 0)), (91, (.getfield 19, 3, 11, 1, 0, 0, 0)), (94, (.getfield 175, 3, 9, 2, 0, 0, 0)), (97, (.getfield 179, 3, 4, 0, 0, 0, 0)), (100, (.ireturn, 1, 0, 0, 0, 0, 0)), (101, (.aload_n 0, 1, 0, 0, 0, 0, 0)), (102, (.getfield 19, 3, 11, 1, 0, 0, 0)), (105, (.getfield 194, 3, 9, 12, 0, 0, 0)), (108, (.ireturn, 1, 0, 0, 0, 0, 0)), (109, (.aload_n 0, 1, 0, 0, 0, 0, 0)), (110, (.getfield 50, 3, 11, 6, 0, 0, 0)), (113, (.getfield 197, 3, 6, 0, 0, 0, 0)), (116, (.ireturn, 1, 0, 0, 0, 0, 0)), (117, (.aload_n 0, 1, 0, 0, 0, 0, 0)), (118, (.getfield 19, 3, 11, 1, 0, 0, 0)), (121, (.aload_n 0, 1, 0, 0, 0, 0, 0)), (122, (.getfield 50, 3, 11, 6, 0, 0, 0)), (125, (.getfield 197, 3, 6, 0, 0, 0, 0)), (128, (.invokevirtual 200, 3, 101, 2, 1, 0, 0)), (131, (.ireturn, 1, 0, 0, 0, 0, 0)), (132, (.aload_n 0, 1, 0, 0, 0, 0, 0)), (133, (.getfield 50, 3, 11, 6, 0, 0, 0)), (136, (.invokevirtual 203, 3, 98, 1, 1, 0, 0)), (139, (.ireturn, 1, 0, 0, 0, 0, 0)), (140, (.aload_n 0, 1, 0, 0, 0, 0, 0)), (141, (.getfield 50, 3, 11, 6, 0, 0, 0)), (144, (.getfield 143, 3, 6, 8, 0, 0, 0)), (147, (.ireturn, 1, 0, 0, 0, 0, 0)), (148, (.aload_n 0, 1, 0, 0, 0, 0, 0)), (149, (.getfield 50, 3, 11, 6, 0, 0, 0)), (152, (.invokevirtual 206, 3, 113, 1, 1, 0, 0)), (155, (.ireturn, 1, 0, 0, 0, 0, 0)), (156, (.aload_n 0, 1, 0, 0, 0, 0, 0)), (157, (.getfield 38, 3, 11, 4, 0, 0, 0)), (160, (.getfield 209, 3, 5, 3, 0, 0, 0)), (163, (.ireturn, 1, 0, 0, 0, 0, 0)), (164, (.aload_n 0, 1, 0, 0, 0, 0, 0)), (165, (.getfield 50, 3, 11, 6, 0, 0, 0)), (168, (.invokevirtual 210, 3, 115, 1, 1, 0, 0)), (171, (.ireturn, 1, 0, 0, 0, 0, 0)), (172, (.aload_n 0, 1, 0, 0, 0, 0, 0)), (173, (.getfield 104, 3, 11, 8, 0, 0, 0)), (176, (.ireturn, 1, 0, 0, 0, 0, 0)), (177, (.aload_n 0, 1, 0, 0, 0, 0, 0)), (178, (.getfield 12, 3, 11, 0, 0, 0, 0)), (181, (.getfield 88, 3, 7, 0, 0, 0, 0)), (184, (.ireturn, 1, 0, 0, 0, 0, 0)), (185, (.iconst (-1), 1, 0, 0, 0, (-1), 0)), (186, (.ireturn, 1, 0, 0, 0, 0, 0))]
def cd_113 : List (Nat × Ent) := [(0, (.aload_n 0, 1, 0, 0, 0, 0, 0)), (1, (.getfield 30, 3, 6, 10, 0, 0, 0)), (4, (.aload_n 0, 1, 0, 0, 0, 0, 0)), (5, (.invokevirtual 96, 3, 110, 1, 1, 0, 0)), (8, (.invokevirtual 99, 3, 114, 2, 1, 0, 0)), (11, (.ireturn, 1, 0, 0, 0, 0, 0))]
def cd_114 : List (Nat × Ent) := [(0, (.iconst 0, 1, 0, 0, 0, 0, 0)), (1, (.istore_n 2, 1, 2, 0, 0, 0, 0)), (2, (.iconst 0, 1, 0, 0, 0, 0, 0)), (3, (.istore_n 3, 1, 3, 0, 0, 0, 0)), (4, (.iload_n 3, 1, 3, 0, 0, 0, 0)), (5, (.aload_n 0, 1, 0, 0, 0, 0, 0)), (6, (.getfield 21, 3, 9, 2, 0, 0, 0)), (9, (.getfield 131, 3, 4, 0, 0, 0, 0)), (12, (.if_icmp .ge (30), 3, 0, 42, 0, 0, 0)), (15, (.iload_n 2, 1, 2, 0, 0, 0, 0)), (16, (.iload_n 1, 1, 1, 0, 0, 0, 0)), (17, (.iload_n 3, 1, 3, 0, 0, 0, 0)), (18, (.invokestatic 134, 3, 64, 2, 1, 0, 0)), (21, (.ifCond .eq (12), 3, 0, 33, 0, 0, 0)), (24, (.aload_n 0, 1, 0, 0, 0, 0, 0)), (25, (.getfield 43, 3, 9, 9, 0, 0, 0)), (28, (.iload_n 3, 1, 3, 0, 0, 0, 0)), (29, (.iaload, 1, 0, 0, 0, 0, 0)), (30, (.goto (4), 3, 0, 34, 0, 0, 0)), (33, (.iconst 0, 1, 0, 0, 0, 0, 0)), (34, (.iadd, 1, 0, 0, 0, 0, 0)), (35, (.istore_n 2, 1, 2, 0, 0, 0, 0)), (36, (.iinc 3 (1), 3, 3, 0, 0, 1, 0)), (39, (.goto (-35), 3, 0, 4, 0, 0, 0)), (42, (.iload_n 2, 1, 2, 0, 0, 0, 0)), (43, (.ireturn, 1, 0, 0, 0, 0, 0))]
def cd_115 : List (Nat × Ent) := [(0, (.iconst 0, 1, 0, 0, 0, 0, 0)), (1, (.istore_n 1, 1, 1, 0, 0, 0, 0)), (2, (.iconst 0, 1, 0, 0, 0, 0, 0)), (3, (.istore_n 2, 1, 2, 0, 0, 0, 0)), (4, (.iload_n 2, 1, 2, 0, 0, 0, 0)), (5, (.aload_n 0, 1, 0, 0, 0, 0, 0)), (6, (.getfield 30, 3, 6, 10, 0, 0, 0)), (9, (.getfield 84, 3, 9, 2, 0, 0, 0)), (12, (.getfield 88, 3, 4, 0, 0, 0, 0)), (15, (.if_icmp .ge (27), 3, 0, 42, 0, 0, 0)), (18, (.iload_n 1, 1, 1, 0, 0, 0, 0)), (19, (.aload_n 0, 1, 0, 0, 0, 0, 0)), (20, (.getfield 27, 3, 6, 6, 0, 0, 0)), (23, (.iload_n 2, 1, 2, 0, 0, 0, 0)), (24, (.iaload, 1, 0, 0, 0, 0, 0)), (25, (.iconst (-1), 1, 0, 0, 0, (-1), 0)), (26, (.if_icmp .ne (7), 3, 0, 33, 0, 0, 0)), (29, (.iconst 0, 1, 0, 0, 0, 0, 0)), (30, (.goto (4), 3, 0, 34, 0, 0, 0)), (33, (.iconst 1, 1, 0, 0, 0, 1, 0)), (34, (.iadd, 1, 0, 0, 0, 0, 0)), (35, (.istore_n 1, 1, 1, 0, 0, 0, 0)), (36, (.iinc 2 (1), 3, 2, 0, 0, 1, 0)), (39, (.goto (-35), 3, 0, 4, 0, 0, 0)), (42, (.iload_n 1, 1, 1, 0, 0, 0, 0)), (43, (.ireturn, 1, 0, 0, 0, 0, 0))]
def cd_116 : List (Nat × Ent) := [(0, (.aload_n 0, 1, 0, 0, 0, 0, 0)), (1, (.iload_n 1, 1, 1, 0, 0, 0, 0)), (2, (.invokevirtual 116, 3, 94, 2, 1, 0, 0)), (5, (.ifCond .eq (23), 3, 0, 28, 0, 0, 0)), (8, (.aload_n 0, 1, 0, 0, 0, 0, 0)), (9, (.iload_n 2, 1, 2, 0, 0, 0, 0)), (10, (.invokevirtual 213, 3, 117, 2, 1, 0, 0)), (13, (.ifCond .eq (15), 3, 0, 28, 0, 0, 0)), (16, (.aload_n 0, 1, 0, 0, 0, 0, 0)), (17, (.getfield 50, 3, 11, 6, 0, 0, 0)), (20, (.iload_n 1, 1, 1, 0, 0, 0, 0)), (21, (.iload_n 2, 1, 2, 0, 0, 0, 0)), (22, (.invokevirtual 216, 3, 118, 3, 1, 0, 0)), (25, (.ifCond .ne (5), 3, 0, 30, 0, 0, 0)), (28, (.iconst 0, 1, 0, 0, 0, 0, 0)), (29, (.ireturn, 1, 0, 0, 1, 0, 0)), (30, (.aload_n 0, 1, 0, 0, 0, 0, 0)), (31, (.invokevirtual 219, 3, 120, 1, 0, 0, 0)), (34, (.aload_n 0, 1, 0, 0, 0, 0, 0)), (35, (.getfield 50, 3, 11, 6, 0, 0, 0)), (38, (.iload_n 1, 1, 1, 0, 0, 0, 0)), (39, (.iload_n 2, 1, 2, 0, 0, 0, 0)), (40, (.invokevirtual 222, 3, 122, 3, 0, 0, 0)), (43, (.iconst 1, 1, 0, 0, 0, 1, 0)), (44, (.ireturn, 1, 0, 0, 1, 0, 0))]
def cd_117 : List (Nat × Ent) := [(0, (.iload_n 1, 1, 1, 0, 0, 0, 0)), (1, (.ifCond .lt (21), 3, 0, 22, 0, 0, 0)), (4, (.iload_n 1, 1, 1, 0, 0, 0, 0)), (5, (.aload_n 0, 1, 0, 0, 0, 0, 0)), (6, (.getfield 19, 3, 11, 1, 0, 0, 0)), (9, (.getfield 188, 3, 9, 0, 0, 0, 0)), (12, (.getfield 179, 3, 4, 0, 0, 0, 0)), (15, (.if_icmp .ge (7), 3, 0, 22, 0, 0, 0)), (18, (.iconst 1, 1, 0, 0, 0, 1, 0)), (19, (.goto (4), 3, 0, 23, 0, 0, 0)), (22, (.iconst 0, 1, 0, 0, 0, 0, 0)), (23, (.ireturn, 1, 0, 0, 1, 0, 0))]
def cd_118 : List (Nat × Ent) := [(0, (.aload_n 0, 1, 0, 0, 0, 0, 0)), (1, (.getfield 56, 3, 6, 7, 0, 0, 0)), (4, (.iload_n 1, 1, 1, 0, 0, 0, 0)), (5, (.invokestatic 69, 3, 64, 2, 1, 0, 0)), (8, (.ifCond .ne (15), 3, 0, 23, 0, 0, 0)), (11, (.aload_n 0, 1, 0, 0, 0, 0, 0)), (12, (.iload_n 2, 1, 2, 0, 0, 0, 0)), (13, (.invokevirtual 102, 3, 119, 2, 1, 0, 0)), (16, (.ifCond .eq (7), 3, 0, 23, 0, 0, 0)), (19, (.iconst 1, 1, 0, 0, 0, 1, 0)), (20, (.goto (4), 3, 0, 24, 0, 0, 0)), (23, (.iconst 0, 1, 0, 0, 0, 0, 0)), (24, (.ireturn, 1, 0, 0, 1, 0, 0))]
def cd_119 : List (Nat × Ent) := [(0, (.iconst 0, 1, 0, 0, 0, 0, 0)), (1, (.istore_n 2, 1, 2, 0, 0, 0, 0)), (2, (.iload_n 2, 1, 2, 0, 0, 0, 0)), (3, (.aload_n 0, 1, 0, 0, 0, 0, 0)), (4, (.getfield 30, 3, 6, 10, 0, 0, 0)), (7, (.getfield 84, 3, 9, 2, 0, 0, 0)), (10, (.getfield 88, 3, 4, 0, 0, 0, 0)), (13, (.if_icmp .ge (21), 3, 0, 34, 0, 0, 0)), (16, (.aload_n 0, 1, 0, 0, 0, 0, 0)), (17, (.getfield 21, 3, 6, 4, 0, 0, 0)), (20, (.iload_n 2, 1, 2, 0, 0, 0, 0)), (21, (.iaload, 1, 0, 0, 0, 0, 0)), (22, (.iload_n 1, 1, 1, 0, 0, 0, 0)), (23, (.if_icmp .ne (5), 3, 0, 28, 0, 0, 0)), (26, (.iconst 0, 1, 0, 0, 0, 0, 0)), (27, (.ireturn, 1, 0, 0, 1, 0, 0)), (28, (.iinc 2 (1), 3, 2, 0, 0, 1, 0)), (31, (.goto (-29), 3, 0, 2, 0, 0, 0)), (34, (.iconst 1, 1, 0, 0, 0, 1, 0)), (35, (.ireturn, 1, 0, 0, 1, 0, 0))]
def cd_120 : List (Nat × Ent) := [(0, (.aload_n 0, 1, 0, 0, 0, 0, 0)), (1, (.getfield 104, 3, 11, 8, 0, 0, 0)), (4, (.aload_n 0, 1, 0, 0, 0, 0, 0)), (5, (.getfield 54, 3, 11, 7, 0, 0, 0)), (8, (.arraylength, 1, 0, 0, 0, 0, 0)), (9, (.if_icmp .lt (65), 3, 0, 74, 0, 0, 0)), (12, (.aload_n 0, 1, 0, 0, 0, 0, 0)), (13, (.getfield 54, 3, 11, 7, 0, 0, 0)), (16, (.iconst 0, 1, 0, 0, 0, 0, 0)), (17, (.aaload, 1, 0, 0, 0, 0, 0)), (18, (.astore_n 1, 1, 1, 0, 0, 0, 0)), (19, (.iconst 1, 1, 0, 0, 0, 1, 0)), (20, (.istore_n 2, 1, 2, 0, 0, 0, 0)), (21, (.iload_n 2, 1, 2, 0, 0, 0, 0)), (22, (.aload_n 0, 1, 0, 0, 0, 0, 0)), (23, (.getfield 54, 3, 11, 7, 0, 0, 0)), (26, (.arraylength, 1, 0, 0, 0, 0, 0)), (27, (.if_icmp .ge (23), 3, 0, 50, 0, 0, 0)), (30, (.aload_n 0, 1, 0, 0, 0, 0, 0)), (31, (.getfield 54, 3, 11, 7, 0, 0, 0)), (34, (.iload_n 2, 1, 2, 0, 0, 0, 0)), (35, (.iconst 1, 1, 0, 0, 0, 1, 0)), (36, (.isub, 1, 0, 0, 0, 0, 0)), (37, (.aload_n 0, 1, 0, 0, 0, 0, 0)), (38, (.getfield 54, 3, 11, 7, 0, 0, 0)), (41, (.iload_n 2, 1, 2, 0, 0, 0, 0)), (42, (.aaload, 1, 0, 0, 0, 0, 0)), (43, (.aastore, 1, 0, 0, 0, 0, 0)), (44, (.iinc 2 (1), 3, 2, 0, 0, 1, 0)), (47, (.goto (-26), 3, 0, 21, 0, 0, 0)), (50, (.aload_n 0, 1, 0, 0, 0, 0, 0)), (51, (.getfield 54, 3, 11, 7, 0, 0, 0)), (54, (.aload_n 0, 1, 0, 0, 0, 0, 0)), (55, (.getfield 54, 3, 11, 7, 0, 0, 0)), (58, (.arraylength, 1, 0, 0, 0, 0, 0)), (59, (.iconst 1, 1, 0, 0, 0, 1, 0)), (60, (.isub, 1, 0, 0, 0, 0, 0)), (61, (.aload_n 1, 1, 1, 0, 0, 0, 0)), (62, (.aastore, 1, 0, 0, 0, 0, 0)), (63, (.aload_n 0, 1, 0, 0, 0, 0, 0)), (64, (.aload_n 0, 1, 0, 0, 0, 0, 0)), (65, (.getfield 54, 3, 11, 7, 0, 0, 0)), (68, (.arraylength, 1, 0, 0, 0, 0, 0)), (69, (.iconst 1, 1, 0, 0, 0, 1, 0)), (70, (.isub, 1, 0, 0, 0, 0, 0)), (71, (.putfield 104, 3, 11, 8, 0, 0, 0)), (74, (.aload_n 0, 1, 0, 0, 0, 0, 0)), (75, (.getfield 54, 3, 11, 7, 0, 0, 0)), (78, (.aload_n 0, 1, 0, 0, 0, 0, 0)), (79, (.getfield 104, 3, 11, 8, 0, 0, 0)), (82, (.aaload, 1, 0, 0, 0, 0, 0)), (83, (.aload_n 0, 1, 0, 0, 0, 0, 0)), (84, (.getfield 50, 3, 11, 6, 0, 0, 0)), (87, (.invokevirtual 242, 3, 121, 2, 0, 0, 0)), (90, (.aload_n 0, 1, 0, 0, 0, 0, 0)), (91, (.dup, 1, 0, 0, 0, 0, 0)), (92, (.getfield 104, 3, 11, 8, 0, 0, 0)), (95, (.iconst 1, 1, 0, 0, 0, 1, 0)), (96, (.iadd, 1, 0, 0, 0, 0, 0)), (97, (.putfield 104, 3, 11, 8, 0, 0, 0)), (100, (.return_, 1, 0, 0, 0, 0, 0))]
def cd_121 : List (Nat × Ent) := [(0, (.aload_n 0, 1, 0, 0, 0, 0, 0)), (1, (.aload_n 1, 1, 1, 0, 0, 0, 0)), (2, (.getfield 37, 3, 6, 0, 0, 0, 0)), (5, (.putfield 37, 3, 6, 0, 0, 0, 0)), (8, (.aload_n 1, 1, 1, 0, 0, 0, 0)), (9, (.getfield 9, 3, 6, 1, 0, 0, 0)), (12, (.iconst 0, 1, 0, 0, 0, 0, 0)), (13, (.aload_n 0, 1, 0, 0, 0, 0, 0)), (14, (.getfield 9, 3, 6, 1, 0, 0, 0)), (17, (.iconst 0, 1, 0, 0, 0, 0, 0)), (18, (.bipush (6), 2, 0, 0, 0, 6, 0)), (20, (.invokestatic 44, 3, 0, 0, 9, 0, 0)), (23, (.aload_n 1, 1, 1, 0, 0, 0, 0)), (24, (.getfield 15, 3, 6, 2, 0, 0, 0)), (27, (.iconst 0, 1, 0, 0, 0, 0, 0)), (28, (.aload_n 0, 1, 0, 0, 0, 0, 0)), (29, (.getfield 15, 3, 6, 2, 0, 0, 0)), (32, (.iconst 0, 1, 0, 0, 0, 0, 0)), (33, (.bipush (6), 2, 0, 0, 0, 6, 0)), (35, (.invokestatic 44, 3, 0, 0, 9, 0, 0)), (38, (.aload_n 1, 1, 1, 0, 0, 0, 0)), (39, (.getfield 18, 3, 6, 3, 0, 0, 0)), (42, (.iconst 0, 1, 0, 0, 0, 0, 0)), (43, (.aload_n 0, 1, 0, 0, 0, 0, 0)), (44, (.getfield 18, 3, 6, 3, 0, 0, 0)), (47, (.iconst 0, 1, 0, 0, 0, 0, 0)), (48, (.bipush (6), 2, 0, 0, 0, 6, 0)), (50, (.invokestatic 44, 3, 0, 0, 9, 0, 0)), (53, (.aload_n 1, 1, 1, 0, 0, 0, 0)), (54, (.getfield 21, 3, 6, 4, 0, 0, 0)), (57, (.iconst 0, 1, 0, 0, 0, 0, 0)), (58, (.aload_n 0, 1, 0, 0, 0, 0, 0)), (59, (.getfield 21, 3, 6, 4, 0, 0, 0)), (62, (.iconst 0, 1, 0, 0, 0, 0, 0)), (63, (.bipush (6), 2, 0, 0, 0, 6, 0)), (65, (.invokestatic 44, 3, 0, 0, 9, 0, 0)), (68, (.aload_n 1, 1, 1, 0, 0, 0, 0)), (69, (.getfield 24, 3, 6, 5, 0, 0, 0)), (72, (.iconst 0, 1, 0, 0, 0, 0, 0)), (73, (.aload_n 0, 1, 0, 0, 0, 0, 0)), (74, (.getfield 24, 3, 6, 5, 0, 0, 0)), (77, (.iconst 0, 1, 0, 0, 0, 0, 0)), (78, (.bipush (6), 2, 0, 0, 0, 6, 0)), (80, (.invokestatic 44, 3, 0, 0, 9, 0, 0)), (83, (.aload_n 1, 1, 1, 0, 0, 0, 0)), (84, (.getfield 27, 3, 6, 6, 0, 0, 0)), (87, (.iconst 0, 1, 0, 0, 0, 0, 0)), (88, (.aload_n 0, 1, 0, 0, 0, 0, 0)), (89, (.getfield 27, 3, 6, 6, 0, 0, 0)), (92, (.iconst 0, 1, 0, 0, 0, 0, 0)), (93, (.bipush (6), 2, 0, 0, 0, 6, 0)), (95, (.invokestatic 44, 3, 0, 0, 9, 0, 0)), (98, (.aload_n 0, 1, 0, 0, 0, 0, 0)), (99, (.aload_n 1, 1, 1, 0, 0, 0, 0)), (100, (.getfield 56, 3, 6, 7, 0, 0, 0)), (103, (.putfield 56, 3, 6, 7, 0, 0, 0)), (106, (.aload_n 0, 1, 0, 0, 0, 0, 0)), (107, (.aload_n 1, 1, 1, 0, 0, 0, 0)), (108, (.getfield 59, 3, 6, 8, 0, 0, 0)), (111, (.putfield 59, 3, 6, 8, 0, 0, 0)), (114, (.aload_n 0, 1, 0, 0, 0, 0, 0)), (115, (.aload_n 1, 1, 1, 0, 0, 0, 0)), (116, (.getfield 62, 3, 6, 9, 0, 0, 0)), (119, (.putfield 62, 3, 6, 9, 0, 0, 0)), (122, (.return_, 1, 0, 0, 0, 0, 0))]
def cd_122 : List (Nat × Ent) := [(0, (.aload_n 0, 1, 0, 0, 0, 0, 0)), (1, (.dup, 1, 0, 0, 0, 0, 0)), (2, (.getfield 56, 3, 6, 7, 0, 0, 0)), (5, (.iconst 1, 1, 0, 0, 0, 1, 0)), (6, (.iload_n 1, 1, 1, 0, 0, 0, 0)), (7, (.ishl, 1, 0, 0, 0, 0, 0)), (8, (.ior, 1, 0, 0, 0, 0, 0)), (9, (.putfield 56, 3, 6, 7, 0, 0, 0)), (12, (.aload_n 0, 1, 0, 0, 0, 0, 0)), (13, (.getfield 21, 3, 6, 4, 0, 0, 0)), (16, (.iload_n 1, 1, 1, 0, 0, 0, 0)), (17, (.iload_n 2, 1, 2, 0, 0, 0, 0)), (18, (.iastore, 1, 0, 0, 0, 0, 0)), (19, (.return_, 1, 0, 0, 0, 0, 0))]
def cd_123 : List (Nat × Ent) := [(0, (.aload_n 0, 1, 0, 0, 0, 0, 0)), (1, (.iload_n 1, 1, 1, 0, 0, 0, 0)), (2, (.invokevirtual 157, 3, 108, 2, 1, 0, 0)), (5, (.ifCond .eq (23), 3, 0, 28, 0, 0, 0)), (8, (.aload_n 0, 1, 0, 0, 0, 0, 0)), (9, (.iload_n 2, 1, 2, 0, 0, 0, 0)), (10, (.invokevirtual 116, 3, 94, 2, 1, 0, 0)), (13, (.ifCond .eq (15), 3, 0, 28, 0, 0, 0)), (16, (.aload_n 0, 1, 0, 0, 0, 0, 0)), (17, (.getfield 50, 3, 11, 6, 0, 0, 0)), (20, (.iload_n 1, 1, 1, 0, 0, 0, 0)), (21, (.iload_n 2, 1, 2, 0, 0, 0, 0)), (22, (.invokevirtual 226, 3, 124, 3, 1, 0, 0)), (25, (.ifCond .ne (5), 3, 0, 30, 0, 0, 0)), (28, (.iconst (-1), 1, 0, 0, 0, (-1), 0)), (29, (.ireturn, 1, 0, 0, 0, 0, 0)), (30, (.aload_n 0, 1, 0, 0, 0, 0, 0)), (31, (.invokevirtual 219, 3, 120, 1, 0, 0, 0)), (34, (.aload_n 0, 1, 0, 0, 0, 0, 0)), (35, (.getfield 50, 3, 11, 6, 0, 0, 0)), (38, (.iload_n 1, 1, 1, 0, 0, 0, 0)), (39, (.iload_n 2, 1, 2, 0, 0, 0, 0)), (40, (.invokevirtual 229, 3, 125, 3, 0, 0, 0)), (43, (.aload_n 0, 1, 0, 0, 0, 0, 0)), (44, (.getfield 50, 3, 11, 6, 0, 0, 0)), (47, (.getfield 127, 3, 6, 2, 0, 0, 0)), (50, (.iload_n 2, 1, 2, 0, 0, 0, 0)), (51, (.iaload, 1, 0, 0, 0, 0, 0)), (52, (.ireturn, 1, 0, 0, 0, 0, 0))]
def cd_124 : List (Nat × Ent) := [(0, (.aload_n 0, 1, 0, 0, 0, 0, 0)), (1, (.getfield 62, 3, 6, 9, 0, 0, 0)), (4, (.iload_n 1, 1, 1, 0, 0, 0, 0)), (5, (.invokestatic 69, 3, 64, 2, 1, 0, 0)), (8, (.ifCond .ne (33), 3, 0, 41, 0, 0, 0)), (11, (.aload_n 0, 1, 0, 0, 0, 0, 0)), (12, (.getfield 24, 3, 6, 5, 0, 0, 0)), (15, (.iload_n 1, 1, 1, 0, 0, 0, 0)), (16, (.iaload, 1, 0, 0, 0, 0, 0)), (17, (.iconst (-1), 1, 0, 0, 0, (-1), 0)), (18, (.if_icmp .ne (23), 3, 0, 41, 0, 0, 0)), (21, (.aload_n 0, 1, 0, 0, 0, 0, 0)), (22, (.iload_n 2, 1, 2, 0, 0, 0, 0)), (23, (.invokevirtual 77, 3, 97, 2, 1, 0, 0)), (26, (.ifCond .eq (15), 3, 0, 41, 0, 0, 0)), (29, (.aload_n 0, 1, 0, 0, 0, 0, 0)), (30, (.iload_n 2, 1, 2, 0, 0, 0, 0)), (31, (.invokevirtual 81, 3, 99, 2, 1, 0, 0)), (34, (.ifCond .ne (7), 3, 0, 41, 0, 0, 0)), (37, (.iconst 1, 1, 0, 0, 0, 1, 0)), (38, (.goto (4), 3, 0, 42, 0, 0, 0)), (41, (.iconst 0, 1, 0, 0, 0, 0, 0)), (42, (.ireturn, 1, 0, 0, 1, 0, 0))]
def cd_125 : List (Nat × Ent) := [(0, (.aload_n 0, 1, 0, 0, 0, 0, 0)), (1, (.getfield 15, 3, 6, 2, 0, 0, 0)), (4, (.iload_n 2, 1, 2, 0, 0, 0, 0)), (5, (.aload_n 0, 1, 0, 0, 0, 0, 0)), (6, (.getfield 30, 3, 6, 10, 0, 0, 0)), (9, (.iload_n 1, 1, 1, 0, 0, 0, 0)), (10, (.aload_n 0, 1, 0, 0, 0, 0, 0)), (11, (.getfield 9, 3, 6, 1, 0, 0, 0)), (14, (.iload_n 2, 1, 2, 0, 0, 0, 0)), (15, (.iaload, 1, 0, 0, 0, 0, 0)), (16, (.aload_n 0, 1, 0, 0, 0, 0, 0)), (17, (.getfield 15, 3, 6, 2, 0, 0, 0)), (20, (.iload_n 2, 1, 2, 0, 0, 0, 0)), (21, (.iaload, 1, 0, 0, 0, 0, 0)), (22, (.invokevirtual 105, 3, 126, 4, 1, 0, 0)), (25, (.iastore, 1, 0, 0, 0, 0, 0)), (26, (.aload_n 0, 1, 0, 0, 0, 0, 0)), (27, (.getfield 24, 3, 6, 5, 0, 0, 0)), (30, (.iload_n 1, 1, 1, 0, 0, 0, 0)), (31, (.iload_n 2, 1, 2, 0, 0, 0, 0)), (32, (.iastore, 1, 0, 0, 0, 0, 0)), (33, (.return_, 1, 0, 0, 0, 0, 0))]
def cd_126 : List (Nat × Ent) := [(0, (.iconst 0, 1, 0, 0, 0, 0, 0)), (1, (.bipush (99), 2, 0, 0, 0, 99, 0)), (3, (.aload_n 0, 1, 0, 0, 0, 0, 0)), (4, (.getfield 62, 3, 9, 17, 0, 0, 0)), (7, (.aload_n 0, 1, 0, 0, 0, 0, 0)), (8, (.getfield 31, 3, 9, 5, 0, 0, 0)), (11, (.iload_n 1, 1, 1, 0, 0, 0, 0)), (12, (.iaload, 1, 0, 0, 0, 0, 0)), (13, (.iload_n 2, 1, 2, 0, 0, 0, 0)), (14, (.iload_n 3, 1, 3, 0, 0, 0, 0)), (15, (.invokevirtual 116, 3, 104, 4, 1, 0, 0)), (18, (.invokestatic 120, 3, 22, 2, 1, 0, 0)), (21, (.invokestatic 113, 3, 21, 2, 1, 0, 0)), (24, (.istore 4, 2, 4, 0, 0, 0, 0)), (26, (.bipush (99), 2, 0, 0, 0, 99, 0)), (28, (.iload_n 3, 1, 3, 0, 0, 0, 0)), (29, (.iload 4, 2, 4, 0, 0, 0, 0)), (31, (.iadd, 1, 0, 0, 0, 0, 0)), (32, (.invokestatic 120, 3, 22, 2, 1, 0, 0)), (35, (.ireturn, 1, 0, 0, 0, 0, 0))]
def cd_127 : List (Nat × Ent) := [(0, (.aload_n 0, 1, 0, 0, 0, 0, 0)), (1, (.iload_n 1, 1, 1, 0, 0, 0, 0)), (2, (.invokevirtual 116, 3, 94, 2, 1, 0, 0)), (5, (.ifCond .eq (14), 3, 0, 19, 0, 0, 0)), (8, (.aload_n 0, 1, 0, 0, 0, 0, 0)), (9, (.getfield 50, 3, 11, 6, 0, 0, 0)), (12, (.iload_n 1, 1, 1, 0, 0, 0, 0)), (13, (.invokevirtual 232, 3, 128, 2, 1, 0, 0)), (16, (.ifCond .ne (5), 3, 0, 21, 0, 0, 0)), (19, (.iconst (-1), 1, 0, 0, 0, (-1), 0)), (20, (.ireturn, 1, 0, 0, 0, 0, 0)), (21, (.aload_n 0, 1, 0, 0, 0, 0, 0)), (22, (.invokevirtual 219, 3, 120, 1, 0, 0, 0)), (25, (.aload_n 0, 1, 0, 0, 0, 0, 0)), (26, (.getfield 50, 3, 11, 6, 0, 0, 0)), (29, (.getfield 137, 3, 6, 3, 0, 0, 0)), (32, (.iload_n 1, 1, 1, 0, 0, 0, 0)), (33, (.dup2, 1, 0, 0, 0, 0, 0)), (34, (.iaload, 1, 0, 0, 0, 0, 0)), (35, (.iconst 1, 1, 0, 0, 0, 1, 0)), (36, (.iadd, 1, 0, 0, 0, 0, 0)), (37, (.iastore, 1, 0, 0, 0, 0, 0)), (38, (.aload_n 0, 1, 0, 0, 0, 0, 0)), (39, (.getfield 50, 3, 11, 6, 0, 0, 0)), (42, (.getfield 137, 3, 6, 3, 0, 0, 0)), (45, (.iload_n 1, 1, 1, 0, 0, 0, 0)), (46, (.iaload, 1, 0, 0, 0, 0, 0)), (47, (.ireturn, 1, 0, 0, 0, 0, 0))]
def cd_128 : List (Nat × Ent) := [(0, (.aload_n 0, 1, 0, 0, 0, 0, 0)), (1, (.iload_n 1, 1, 1, 0, 0, 0, 0)), (2, (.invokevirtual 77, 3, 97, 2, 1, 0, 0)), (5, (.ifCond .eq (17), 3, 0, 22, 0, 0, 0)), (8, (.aload_n 0, 1, 0, 0, 0, 0, 0)), (9, (.getfield 18, 3, 6, 3, 0, 0, 0)), (12, (.iload_n 1, 1, 1, 0, 0, 0, 0)), (13, (.iaload, 1, 0, 0, 0, 0, 0)), (14, (.iconst 3, 1, 0, 0, 0, 3, 0)), (15, (.if_icmp .ge (7), 3, 0, 22, 0, 0, 0)), (18, (.iconst 1, 1, 0, 0, 0, 1, 0)), (19, (.goto (4), 3, 0, 23, 0, 0, 0)), (22, (.iconst 0, 1, 0, 0, 0, 0, 0)), (23, (.ireturn, 1, 0, 0, 1, 0, 0))]
def cd_129 : List (Nat × Ent) := [(0, (.aload_n 0, 1, 0, 0, 0, 0, 0)), (1, (.iload_n 1, 1, 1, 0, 0, 0, 0)), (2, (.invokevirtual 116, 3, 94, 2, 1, 0, 0)), (5, (.ifCond .eq (14), 3, 0, 19, 0, 0, 0)), (8, (.aload_n 0, 1, 0, 0, 0, 0, 0)), (9, (.getfield 50, 3, 11, 6, 0, 0, 0)), (12, (.iload_n 1, 1, 1, 0, 0, 0, 0)), (13, (.invokevirtual 150, 3, 97, 2, 1, 0, 0)), (16, (.ifCond .ne (5), 3, 0, 21, 0, 0, 0)), (19, (.iconst (-1), 1, 0, 0, 0, (-1), 0)), (20, (.ireturn, 1, 0, 0, 0, 0, 0)), (21, (.aload_n 0, 1, 0, 0, 0, 0, 0)), (22, (.invokevirtual 219, 3, 120, 1, 0, 0, 0)), (25, (.aload_n 0, 1, 0, 0, 0, 0, 0)), (26, (.getfield 50, 3, 11, 6, 0, 0, 0)), (29, (.iload_n 1, 1, 1, 0, 0, 0, 0)), (30, (.invokevirtual 235, 3, 130, 2, 0, 0, 0)), (33, (.aload_n 0, 1, 0, 0, 0, 0, 0)), (34, (.getfield 50, 3, 11, 6, 0, 0, 0)), (37, (.getfield 124, 3, 6, 1, 0, 0, 0)), (40, (.iload_n 1, 1, 1, 0, 0, 0, 0)), (41, (.iaload, 1, 0, 0, 0, 0, 0)), (42, (.ireturn, 1, 0, 0, 0, 0, 0))]
def cd_130 : List (Nat × Ent) := [(0, (.aload_n 0, 1, 0, 0, 0, 0, 0)), (1, (.iload_n 1, 1, 1, 0, 0, 0, 0)), (2, (.iconst 1, 1, 0, 0, 0, 1, 0)), (3, (.invokevirtual 109, 3, 131, 3, 1, 0, 0)), (6, (.pop, 1, 0, 0, 0, 0, 0)), (7, (.return_, 1, 0, 0, 0, 0, 0))]
def cd_131 : List (Nat × Ent) := [(0, (.aload_n 0, 1, 0, 0, 0, 0, 0)), (1, (.getfield 9, 3, 6, 1, 0, 0, 0)), (4, (.iload_n 1, 1, 1, 0, 0, 0, 0)), (5, (.iconst 0, 1, 0, 0, 0, 0, 0)), (6, (.aload_n 0, 1, 0, 0, 0, 0, 0)), (7, (.getfield 9, 3, 6, 1, 0, 0, 0)), (10, (.iload_n 1, 1, 1, 0, 0, 0, 0)), (11, (.iaload, 1, 0, 0, 0, 0, 0)), (12, (.iload_n 2, 1, 2, 0, 0, 0, 0)), (13, (.isub, 1, 0, 0, 0, 0, 0)), (14, (.invokestatic 112, 3, 21, 2, 1, 0, 0)), (17, (.iastore, 1, 0, 0, 0, 0, 0)), (18, (.aload_n 0, 1, 0, 0, 0, 0, 0)), (19, (.getfield 9, 3, 6, 1, 0, 0, 0)), (22, (.iload_n 1, 1, 1, 0, 0, 0, 0)), (23, (.iaload, 1, 0, 0, 0, 0, 0)), (24, (.ifCond .le (5), 3, 0, 29, 0, 0, 0)), (27, (.iconst 0, 1, 0, 0, 0, 0, 0)), (28, (.ireturn, 1, 0, 0, 1, 0, 0)), (29, (.aload_n 0, 1, 0, 0, 0, 0, 0)), (30, (.dup, 1, 0, 0, 0, 0, 0)), (31, (.getfield 59, 3, 6, 8, 0, 0, 0)), (34, (.iconst 1, 1, 0, 0, 0, 1, 0)), (35, (.iload_n 1, 1, 1, 0, 0, 0, 0)), (36, (.ishl, 1, 0, 0, 0, 0, 0)), (37, (.ior, 1, 0, 0, 0, 0, 0)), (38, (.putfield 59, 3, 6, 8, 0, 0, 0)), (41, (.aload_n 0, 1, 0, 0, 0, 0, 0)), (42, (.getfield 21, 3, 6, 4, 0, 0, 0)), (45, (.iload_n 1, 1, 1, 0, 0, 0, 0)), (46, (.iconst (-1), 1, 0, 0, 0, (-1), 0)), (47, (.iastore, 1, 0, 0, 0, 0, 0)), (48, (.iconst 1, 1, 0, 0, 0, 1, 0)), (49, (.ireturn, 1, 0, 0, 1, 0, 0))]
def cd_132 : List (Nat × Ent) := [(0, (.aload_n 0, 1, 0, 0, 0, 0, 0)), (1, (.invokevirtual 219, 3, 120, 1, 0, 0, 0)), (4, (.aload_n 0, 1, 0, 0, 0, 0, 0)), (5, (.getfield 50, 3, 11, 6, 0, 0, 0)), (8, (.iconst 0, 1, 0, 0, 0, 0, 0)), (9, (.invokevirtual 239, 3, 133, 2, 1, 0, 0)), (12, (.ireturn, 1, 0, 0, 0, 0, 0))]
def cd_133 : List (Nat × Ent) := [(0, (.iconst 0, 1, 0, 0, 0, 0, 0)), (1, (.istore_n 2, 1, 2, 0, 0, 0, 0)), (2, (.iconst 0, 1, 0, 0, 0, 0, 0)), (3, (.istore_n 3, 1, 3, 0, 0, 0, 0)), (4, (.iload_n 3, 1, 3, 0, 0, 0, 0)), (5, (.aload_n 0, 1, 0, 0, 0, 0, 0)), (6, (.getfield 30, 3, 6, 10, 0, 0, 0)), (9, (.getfield 84, 3, 9, 2, 0, 0, 0)), (12, (.getfield 88, 3, 4, 0, 0, 0, 0)), (15, (.if_icmp .ge (72), 3, 0, 87, 0, 0, 0)), (18, (.aload_n 0, 1, 0, 0, 0, 0, 0)), (19, (.iload_n 3, 1, 3, 0, 0, 0, 0)), (20, (.invokevirtual 77, 3, 97, 2, 1, 0, 0)), (23, (.ifCond .eq (58), 3, 0, 81, 0, 0, 0)), (26, (.aload_n 0, 1, 0, 0, 0, 0, 0)), (27, (.iload_n 3, 1, 3, 0, 0, 0, 0)), (28, (.aload_n 0, 1, 0, 0, 0, 0, 0)), (29, (.iload_n 3, 1, 3, 0, 0, 0, 0)), (30, (.iload_n 1, 1, 1, 0, 0, 0, 0)), (31, (.invokevirtual 129, 3, 100, 3, 1, 0, 0)), (34, (.invokevirtual 109, 3, 131, 3, 1, 0, 0)), (37, (.ifCond .eq (44), 3, 0, 81, 0, 0, 0)), (40, (.iinc 2 (1), 3, 2, 0, 0, 1, 0)), (43, (.aload_n 0, 1, 0, 0, 0, 0, 0)), (44, (.getfield 24, 3, 6, 5, 0, 0, 0)), (47, (.aload_n 0, 1, 0, 0, 0, 0, 0)), (48, (.getfield 30, 3, 6, 10, 0, 0, 0)), (51, (.getfield 132, 3, 9, 10, 0, 0, 0)), (54, (.iload_n 3, 1, 3, 0, 0, 0, 0)), (55, (.iaload, 1, 0, 0, 0, 0, 0)), (56, (.iaload, 1, 0, 0, 0, 0, 0)), (57, (.iload_n 3, 1, 3, 0, 0, 0, 0)), (58, (.if_icmp .ne (23), 3, 0, 81, 0, 0, 0)), (61, (.aload_n 0, 1, 0, 0, 0, 0, 0)), (62, (.dup, 1, 0, 0, 0, 0, 0)), (63, (.getfield 62, 3, 6, 9, 0, 0, 0)), (66, (.iconst 1, 1, 0, 0, 0, 1, 0)), (67, (.aload_n 0, 1, 0, 0, 0, 0, 0)), (68, (.getfield 30, 3, 6, 10, 0, 0, 0)), (71, (.getfield 132, 3, 9, 10, 0, 0, 0)), (74, (.iload_n 3, 1, 3, 0, 0, 0, 0)), (75, (.iaload, 1, 0, 0, 0, 0, 0)), (76, (.ishl, 1, 0, 0, 0, 0, 0)), (77, (.ior, 1, 0, 0, 0, 0, 0)), (78, (.putfield 62, 3, 6, 9, 0, 0, 0)), (81, (.iinc 3 (1), 3, 3, 0, 0, 1, 0)), (84, (.goto (-80), 3, 0, 4, 0, 0, 0)), (87, (.aload_n 0, 1, 0, 0, 0, 0, 0)), (88, (.getfield 24, 3, 6, 5, 0, 0, 0)), (91, (.iconst (-1), 1, 0, 0, 0, (-1), 0)), (92, (.invokestatic 50, 3, 2, 2, 0, 0, 0)), (95, (.aload_n 0, 1, 0, 0, 0, 0, 0)), (96, (.getfield 27, 3, 6, 6, 0, 0, 0)), (99, (.iconst (-1), 1, 0, 0, 0, (-1), 0)), (100, (.invokestatic 50, 3, 2, 2, 0, 0, 0)), (103, (.aload_n 0, 1, 0, 0, 0, 0, 0)), (104, (.dup, 1, 0, 0, 0, 0, 0)), (105, (.getfield 37, 3, 6, 0, 0, 0, 0)), (108, (.iconst 1, 1, 0, 0, 0, 1, 0)), (109, (.iadd, 1, 0, 0, 0, 0, 0)), (110, (.putfield 37, 3, 6, 0, 0, 0, 0)), (113, (.iload_n 2, 1, 2, 0, 0, 0, 0)), (114, (.ireturn, 1, 0, 0, 0, 0, 0))]
def cd_134 : List (Nat × Ent) := [(0, (.aload_n 0, 1, 0, 0, 0, 0, 0)), (1, (.getfield 104, 3, 11, 8, 0, 0, 0)), (4, (.iconst 1, 1, 0, 0, 0, 1, 0)), (5, (.if_icmp .lt (15), 3, 0, 20, 0, 0, 0)), (8, (.aload_n 0, 1, 0, 0, 0, 0, 0)), (9, (.getfield 104, 3, 11, 8, 0, 0, 0)), (12, (.aload_n 0, 1, 0, 0, 0, 0, 0)), (13, (.getfield 54, 3, 11, 7, 0, 0, 0)), (16, (.arraylength, 1, 0, 0, 0, 0, 0)), (17, (.if_icmp .le (5), 3, 0, 22, 0, 0, 0)), (20, (.iconst 0, 1, 0, 0, 0, 0, 0)), (21, (.ireturn, 1, 0, 0, 1, 0, 0)), (22, (.aload_n 0, 1, 0, 0, 0, 0, 0)), (23, (.dup, 1, 0, 0, 0, 0, 0)), (24, (.getfield 104, 3, 11, 8, 0, 0, 0)), (27, (.iconst 1, 1, 0, 0, 0, 1, 0)), (28, (.isub, 1, 0, 0, 0, 0, 0)), (29, (.putfield 104, 3, 11, 8, 0, 0, 0)), (32, (.aload_n 0, 1, 0, 0, 0, 0, 0)), (33, (.getfield 50, 3, 11, 6, 0, 0, 0)), (36, (.aload_n 0, 1, 0, 0, 0, 0, 0)), (37, (.getfield 54, 3, 11, 7, 0, 0, 0)), (40, (.aload_n 0, 1, 0, 0, 0, 0, 0)), (41, (.getfield 104, 3, 11, 8, 0, 0, 0)), (44, (.aaload, 1, 0, 0, 0, 0, 0)), (45, (.invokevirtual 242, 3, 121, 2, 0, 0, 0)), (48, (.iconst 1, 1, 0, 0, 0, 1, 0)), (49, (.ireturn, 1, 0, 0, 1, 0, 0))]
def cd_135 : List (Nat × Ent) := [(0, (.iload_n 1, 1, 1, 0, 0, 0, 0)), (1, (.ifCond .lt (12), 3, 0, 13, 0, 0, 0)), (4, (.iload_n 1, 1, 1, 0, 0, 0, 0)), (5, (.aload_n 0, 1, 0, 0, 0, 0, 0)), (6, (.getfield 58, 3, 11, 9, 0, 0, 0)), (9, (.arraylength, 1, 0, 0, 0, 0, 0)), (10, (.if_icmp .lt (5), 3, 0, 15, 0, 0, 0)), (13, (.iconst 0, 1, 0, 0, 0, 0, 0)), (14, (.ireturn, 1, 0, 0, 1, 0, 0)), (15, (.iload_n 2, 1, 2, 0, 0, 0, 0)), (16, (.ifCond .ne (30), 3, 0, 46, 0, 0, 0)), (19, (.aload_n 0, 1, 0, 0, 0, 0, 0)), (20, (.getfield 58, 3, 11, 9, 0, 0, 0)), (23, (.iload_n 1, 1, 1, 0, 0, 0, 0)), (24, (.aaload, 1, 0, 0, 0, 0, 0)), (25, (.aload_n 0, 1, 0, 0, 0, 0, 0)), (26, (.getfield 50, 3, 11, 6, 0, 0, 0)), (29, (.invokevirtual 242, 3, 121, 2, 0, 0, 0)), (32, (.aload_n 0, 1, 0, 0, 0, 0, 0)), (33, (.dup, 1, 0, 0, 0, 0, 0)), (34, (.getfield 107, 3, 11, 10, 0, 0, 0)), (37, (.iconst 1, 1, 0, 0, 0, 1, 0)), (38, (.iload_n 1, 1, 1, 0, 0, 0, 0)), (39, (.ishl, 1, 0, 0, 0, 0, 0)), (40, (.ior, 1, 0, 0, 0, 0, 0)), (41, (.putfield 107, 3, 11, 10, 0, 0, 0)), (44, (.iconst 1, 1, 0, 0, 0, 1, 0)), (45, (.ireturn, 1, 0, 0, 1, 0, 0)), (46, (.aload_n 0, 1, 0, 0, 0, 0, 0)), (47, (.getfield 107, 3, 11, 10, 0, 0, 0)), (50, (.iload_n 1, 1, 1, 0, 0, 0, 0)), (51, (.invokestatic 146, 3, 64, 2, 1, 0, 0)), (54, (.ifCond .ne (5), 3, 0, 59, 0, 0, 0)), (57, (.iconst 0, 1, 0, 0, 0, 0, 0)), (58, (.ireturn, 1, 0, 0, 1, 0, 0)), (59, (.aload_n 0, 1, 0, 0, 0, 0, 0)), (60, (.getfield 50, 3, 11, 6, 0, 0, 0)), (63, (.aload_n 0, 1, 0, 0, 0, 0, 0)), (64, (.getfield 58, 3, 11, 9, 0, 0, 0)), (67, (.iload_n 1, 1, 1, 0, 0, 0, 0)), (68, (.aaload, 1, 0, 0, 0, 0, 0)), (69, (.invokevirtual 242, 3, 121, 2, 0, 0, 0)), (72, (.aload_n 0, 1, 0, 0, 0, 0, 0)), (73, (.iconst 0, 1, 0, 0, 0, 0, 0)), (74, (.putfield 104, 3, 11, 8, 0, 0, 0)), (77, (.iconst 1, 1, 0, 0, 0, 1, 0)), (78, (.ireturn, 1, 0, 0, 1, 0, 0))]
def cd_136 : List (Nat × Ent) := [(0, (.iload_n 1, 1, 1, 0, 0, 0, 0)), (1, (.ifCond .lt (8), 3, 0, 9, 0, 0, 0)), (4, (.iload_n 1, 1, 1, 0, 0, 0, 0)), (5, (.iconst 2, 1, 0, 0, 0, 2, 0)), (6, (.if_icmp .le (6), 3, 0, 12, 0, 0, 0)), (9, (.bipush (-2), 2, 0, 0, 0, (-2), 0)), (11, (.ireturn, 1, 0, 0, 0, 0, 0)), (12, (.aload_n 0, 1, 0, 0, 0, 0, 0)), (13, (.getfield 80, 3, 11, 13, 0, 0, 0)), (16, (.aload_n 0, 1, 0, 0, 0, 0, 0)), (17, (.getfield 38, 3, 11, 4, 0, 0, 0)), (20, (.invokevirtual 245, 3, 137, 2, 0, 0, 0)), (23, (.iload_n 1, 1, 1, 0, 0, 0, 0)), (24, (.ifCond .ne (11), 3, 0, 35, 0, 0, 0)), (27, (.aload_n 0, 1, 0, 0, 0, 0, 0)), (28, (.getfield 80, 3, 11, 13, 0, 0, 0)), (31, (.getfield 248, 3, 8, 0, 0, 0, 0)), (34, (.ireturn, 1, 0, 0, 0, 0, 0)), (35, (.iload_n 1, 1, 1, 0, 0, 0, 0)), (36, (.iconst 1, 1, 0, 0, 0, 1, 0)), (37, (.if_icmp .ne (13), 3, 0, 50, 0, 0, 0)), (40, (.aload_n 0, 1, 0, 0, 0, 0, 0)), (41, (.getfield 80, 3, 11, 13, 0, 0, 0)), (44, (.getfield 251, 3, 8, 1, 0, 0, 0)), (47, (.goto (10), 3, 0, 57, 0, 0, 0)), (50, (.aload_n 0, 1, 0, 0, 0, 0, 0)), (51, (.getfield 80, 3, 11, 13, 0, 0, 0)), (54, (.getfield 254, 3, 8, 2, 0, 0, 0)), (57, (.ireturn, 1, 0, 0, 0, 0, 0))]
def cd_137 : List (Nat × Ent) := [(0, (.aload_n 0, 1, 0, 0, 0, 0, 0)), (1, (.getfield 20, 3, 8, 6, 0, 0, 0)), (4, (.invokevirtual 24, 3, 5, 1, 0, 0, 0)), (7, (.aload_n 0, 1, 0, 0, 0, 0, 0)), (8, (.iconst (-1), 1, 0, 0, 0, (-1), 0)), (9, (.putfield 27, 3, 8, 0, 0, 0, 0)), (12, (.aload_n 0, 1, 0, 0, 0, 0, 0)), (13, (.iconst (-1), 1, 0, 0, 0, (-1), 0)), (14, (.putfield 31, 3, 8, 1, 0, 0, 0)), (17, (.iconst 0, 1, 0, 0, 0, 0, 0)), (18, (.istore_n 2, 1, 2, 0, 0, 0, 0)), (19, (.iload_n 2, 1, 2, 0, 0, 0, 0)), (20, (.aload_n 1, 1, 1, 0, 0, 0, 0)), (21, (.getfield 34, 3, 5, 3, 0, 0, 0)), (24, (.if_icmp .ge (80), 3, 0, 104, 0, 0, 0)), (27, (.aload_n 0, 1, 0, 0, 0, 0, 0)), (28, (.aload_n 1, 1, 1, 0, 0, 0, 0)), (29, (.getfield 39, 3, 5, 0, 0, 0, 0)), (32, (.iload_n 2, 1, 2, 0, 0, 0, 0)), (33, (.iaload, 1, 0, 0, 0, 0, 0)), (34, (.aload_n 1, 1, 1, 0, 0, 0, 0)), (35, (.getfield 43, 3, 5, 1, 0, 0, 0)), (38, (.iload_n 2, 1, 2, 0, 0, 0, 0)), (39, (.iaload, 1, 0, 0, 0, 0, 0)), (40, (.aload_n 1, 1, 1, 0, 0, 0, 0)), (41, (.getfield 46, 3, 5, 2, 0, 0, 0)), (44, (.iload_n 2, 1, 2, 0, 0, 0, 0)), (45, (.iaload, 1, 0, 0, 0, 0, 0)), (46, (.invokevirtual 49, 3, 138, 4, 1, 0, 0)), (49, (.ifCond .ne (16), 3, 0, 65, 0, 0, 0)), (52, (.aload_n 0, 1, 0, 0, 0, 0, 0)), (53, (.getfield 27, 3, 8, 0, 0, 0, 0)), (56, (.iconst (-1), 1, 0, 0, 0, (-1), 0)), (57, (.if_icmp .ne (8), 3, 0, 65, 0, 0, 0)), (60, (.aload_n 0, 1, 0, 0, 0, 0, 0)), (61, (.iload_n 2, 1, 2, 0, 0, 0, 0)), (62, (.putfield 27, 3, 8, 0, 0, 0, 0)), (65, (.aload_n 1, 1, 1, 0, 0, 0, 0)), (66, (.getfield 39, 3, 5, 0, 0, 0, 0)), (69, (.iload_n 2, 1, 2, 0, 0, 0, 0)), (70, (.iaload, 1, 0, 0, 0, 0, 0)), (71, (.iconst 4, 1, 0, 0, 0, 4, 0)), (72, (.if_icmp .ne (26), 3, 0, 98, 0, 0, 0)), (75, (.aload_n 0, 1, 0, 0, 0, 0, 0)), (76, (.getfield 31, 3, 8, 1, 0, 0, 0)), (79, (.iconst (-1), 1, 0, 0, 0, (-1), 0)), (80, (.if_icmp .ne (18), 3, 0, 98, 0, 0, 0)), (83, (.aload_n 0, 1, 0, 0, 0, 0, 0)), (84, (.getfield 20, 3, 8, 6, 0, 0, 0)), (87, (.invokevirtual 53, 3, 110, 1, 1, 0, 0)), (90, (.ifCond .ne (8), 3, 0, 98, 0, 0, 0)), (93, (.aload_n 0, 1, 0, 0, 0, 0, 0)), (94, (.iload_n 2, 1, 2, 0, 0, 0, 0)), (95, (.putfield 31, 3, 8, 1, 0, 0, 0)), (98, (.iinc 2 (1), 3, 2, 0, 0, 1, 0)), (101, (.goto (-82), 3, 0, 19, 0, 0, 0)), (104, (.aload_n 0, 1, 0, 0, 0, 0, 0)), (105, (.aload_n 0, 1, 0, 0, 0, 0, 0)), (106, (.getfield 20, 3, 8, 6, 0, 0, 0)), (109, (.invokevirtual 57, 3, 113, 1, 1, 0, 0)), (112, (.putfield 60, 3, 8, 2, 0, 0, 0)), (115, (.return_, 1, 0, 0, 0, 0, 0))]
def cd_138 : List (Nat × Ent) := [(0, (.iload_n 1, 1, 1, 0, 0, 0, 0)), (1, (.tableswitch (96) (0) (3) #[31, 38, 45, 73], 31, 0, 0, 0, 0, 0)), (32, (.aload_n 0, 1, 0, 0, 0, 0, 0)), (33, (.iload_n 2, 1, 2, 0, 0, 0, 0)), (34, (.iload_n 3, 1, 3, 0, 0, 0, 0)), (35, (.invokevirtual 63, 3, 139, 3, 1, 0, 0)), (38, (.ireturn, 1, 0, 0, 1, 0, 0)), (39, (.aload_n 0, 1, 0, 0, 0, 0, 0)), (40, (.iload_n 2, 1, 2, 0, 0, 0, 0)), (41, (.iload_n 3, 1, 3, 0, 0, 0, 0)), (42, (.invokevirtual 67, 3, 140, 3, 1, 0, 0)), (45, (.ireturn, 1, 0, 0, 1, 0, 0)), (46, (.aload_n 0, 1, 0, 0, 0, 0, 0)), (47, (.getfield 20, 3, 8, 6, 0, 0, 0)), (50, (.iload_n 2, 1, 2, 0, 0, 0, 0)), (51, (.invokevirtual 70, 3, 128, 2, 1, 0, 0)), (54, (.ifCond .ne (5), 3, 0, 59, 0, 0, 0)), (57, (.iconst 0, 1, 0, 0, 0, 0, 0)), (58, (.ireturn, 1, 0, 0, 1, 0, 0)), (59, (.aload_n 0, 1, 0, 0, 0, 0, 0)), (60, (.getfield 20, 3, 8, 6, 0, 0, 0)), (63, (.getfield 74, 3, 6, 3, 0, 0, 0)), (66, (.iload_n 2, 1, 2, 0, 0, 0, 0)), (67, (.dup2, 1, 0, 0, 0, 0, 0)), (68, (.iaload, 1, 0, 0, 0, 0, 0)), (69, (.iconst 1, 1, 0, 0, 0, 1, 0)), (70, (.iadd, 1, 0, 0, 0, 0, 0)), (71, (.iastore, 1, 0, 0, 0, 0, 0)), (72, (.iconst 1, 1, 0, 0, 0, 1, 0)), (73, (.ireturn, 1, 0, 0, 1, 0, 0)), (74, (.aload_n 0, 1, 0, 0, 0, 0, 0)), (75, (.getfield 20, 3, 8, 6, 0, 0, 0)), (78, (.iload_n 2, 1, 2, 0, 0, 0, 0)), (79, (.invokevirtual 77, 3, 97, 2, 1, 0, 0)), (82, (.ifCond .ne (5), 3, 0, 87, 0, 0, 0)), (85, (.iconst 0, 1, 0, 0, 0, 0, 0)), (86, (.ireturn, 1, 0, 0, 1, 0, 0)), (87, (.aload_n 0, 1, 0, 0, 0, 0, 0)), (88, (.getfield 20, 3, 8, 6, 0, 0, 0)), (91, (.iload_n 2, 1, 2, 0, 0, 0, 0)), (92, (.invokevirtual 80, 3, 130, 2, 0, 0, 0)), (95, (.iconst 1, 1, 0, 0, 0, 1, 0)), (96, (.ireturn, 1, 0, 0, 1, 0, 0)), (97, (.aload_n 0, 1, 0, 0, 0, 0, 0)), (98, (.getfield 20, 3, 8, 6, 0, 0, 0)), (101, (.iconst 0, 1, 0, 0, 0, 0, 0)), (102, (.invokevirtual 84, 3, 133, 2, 1, 0, 0)), (105, (.pop, 1, 0, 0, 0, 0, 0)), (106, (.iconst 1, 1, 0, 0, 0, 1, 0)), (107, (.ireturn, 1, 0, 0, 1, 0, 0))]
def cd_139 : List (Nat × Ent) := [(0, (.aload_n 0, 1, 0, 0, 0, 0, 0)), (1, (.getfield 20, 3, 8, 6, 0, 0, 0)), (4, (.iload_n 1, 1, 1, 0, 0, 0, 0)), (5, (.iload_n 2, 1, 2, 0, 0, 0, 0)), (6, (.invokevirtual 88, 3, 118, 3, 1, 0, 0)), (9, (.ifCond .ne (5), 3, 0, 14, 0, 0, 0)), (12, (.iconst 0, 1, 0, 0, 0, 0, 0)), (13, (.ireturn, 1, 0, 0, 1, 0, 0)), (14, (.aload_n 0, 1, 0, 0, 0, 0, 0)), (15, (.getfield 20, 3, 8, 6, 0, 0, 0)), (18, (.iload_n 1, 1, 1, 0, 0, 0, 0)), (19, (.iload_n 2, 1, 2, 0, 0, 0, 0)), (20, (.invokevirtual 91, 3, 122, 3, 0, 0, 0)), (23, (.iconst 1, 1, 0, 0, 0, 1, 0)), (24, (.ireturn, 1, 0, 0, 1, 0, 0))]
def cd_140 : List (Nat × Ent) := [(0, (.aload_n 0, 1, 0, 0, 0, 0, 0)), (1, (.getfield 20, 3, 8, 6, 0, 0, 0)), (4, (.iload_n 1, 1, 1, 0, 0, 0, 0)), (5, (.iload_n 2, 1, 2, 0, 0, 0, 0)), (6, (.invokevirtual 95, 3, 124, 3, 1, 0, 0)), (9, (.ifCond .ne (5), 3, 0, 14, 0, 0, 0)), (12, (.iconst 0, 1, 0, 0, 0, 0, 0)), (13, (.ireturn, 1, 0, 0, 1, 0, 0)), (14, (.aload_n 0, 1, 0, 0, 0, 0, 0)), (15, (.getfield 20, 3, 8, 6, 0, 0, 0)), (18, (.iload_n 1, 1, 1, 0, 0, 0, 0)), (19, (.iload_n 2, 1, 2, 0, 0, 0, 0)), (20, (.invokevirtual 98, 3, 125, 3, 0, 0, 0)), (23, (.iconst 1, 1, 0, 0, 0, 1, 0)), (24, (.ireturn, 1, 0, 0, 1, 0, 0))]
def cd_141 : List (Nat × Ent) := [(0, (.iload_n 1, 1, 1, 0, 0, 0, 0)), (1, (.ifCond .lt (30), 3, 0, 31, 0, 0, 0)), (4, (.iload_n 1, 1, 1, 0, 0, 0, 0)), (5, (.sipush (9999), 3, 0, 0, 0, 9999, 0)), (8, (.if_icmp .gt (23), 3, 0, 31, 0, 0, 0)), (11, (.iload_n 2, 1, 2, 0, 0, 0, 0)), (12, (.iconst 1, 1, 0, 0, 0, 1, 0)), (13, (.if_icmp .lt (18), 3, 0, 31, 0, 0, 0)), (16, (.iload_n 2, 1, 2, 0, 0, 0, 0)), (17, (.bipush (60), 2, 0, 0, 0, 60, 0)), (19, (.if_icmp .gt (12), 3, 0, 31, 0, 0, 0)), (22, (.iload_n 3, 1, 3, 0, 0, 0, 0)), (23, (.ifCond .lt (8), 3, 0, 31, 0, 0, 0)), (26, (.iload_n 3, 1, 3, 0, 0, 0, 0)), (27, (.iconst 2, 1, 0, 0, 0, 2, 0)), (28, (.if_icmp .le (5), 3, 0, 33, 0, 0, 0)), (31, (.iconst (-1), 1, 0, 0, 0, (-1), 0)), (32, (.ireturn, 1, 0, 0, 0, 0, 0)), (33, (.aload_n 0, 1, 0, 0, 0, 0, 0)), (34, (.getfield 80, 3, 11, 13, 0, 0, 0)), (37, (.aload_n 0, 1, 0, 0, 0, 0, 0)), (38, (.getfield 50, 3, 11, 6, 0, 0, 0)), (41, (.iload_n 1, 1, 1, 0, 0, 0, 0)), (42, (.iload_n 2, 1, 2, 0, 0, 0, 0)), (43, (.invokevirtual 256, 3, 142, 4, 0, 0, 0)), (46, (.iload_n 3, 1, 3, 0, 0, 0, 0)), (47, (.ifCond .ne (11), 3, 0, 58, 0, 0, 0)), (50, (.aload_n 0, 1, 0, 0, 0, 0, 0)), (51, (.getfield 80, 3, 11, 13, 0, 0, 0)), (54, (.getfield 254, 3, 8, 2, 0, 0, 0)), (57, (.ireturn, 1, 0, 0, 0, 0, 0)), (58, (.iload_n 3, 1, 3, 0, 0, 0, 0)), (59, (.iconst 1, 1, 0, 0, 0, 1, 0)), (60, (.if_icmp .ne (13), 3, 0, 73, 0, 0, 0)), (63, (.aload_n 0, 1, 0, 0, 0, 0, 0)), (64, (.getfield 80, 3, 11, 13, 0, 0, 0)), (67, (.getfield 260, 3, 8, 3, 0, 0, 0)), (70, (.goto (10), 3, 0, 80, 0, 0, 0)), (73, (.aload_n 0, 1, 0, 0, 0, 0, 0)), (74, (.getfield 80, 3, 11, 13, 0, 0, 0)), (77, (.getfield 263, 3, 8, 4, 0, 0, 0)), (80, (.ireturn, 1, 0, 0, 0, 0, 0))]
def cd_142 : List (Nat × Ent) := [(0, (.aload_n 0, 1, 0, 0, 0, 0, 0)), (1, (.getfield 20, 3, 8, 6, 0, 0, 0)), (4, (.aload_n 1, 1, 1, 0, 0, 0, 0)), (5, (.invokevirtual 101, 3, 121, 2, 0, 0, 0)), (8, (.aload_n 0, 1, 0, 0, 0, 0, 0)), (9, (.iload_n 2, 1, 2, 0, 0, 0, 0)), (10, (.i2l, 1, 0, 0, 0, 0, 0)), (11, (.putfield 105, 3, 8, 7, 0, 0, 0)), (14, (.aload_n 0, 1, 0, 0, 0, 0, 0)), (15, (.iconst 0, 1, 0, 0, 0, 0, 0)), (16, (.putfield 60, 3, 8, 2, 0, 0, 0)), (19, (.aload_n 0, 1, 0, 0, 0, 0, 0)), (20, (.iconst 0, 1, 0, 0, 0, 0, 0)), (21, (.putfield 109, 3, 8, 3, 0, 0, 0)), (24, (.iconst 0, 1, 0, 0, 0, 0, 0)), (25, (.istore 4, 2, 4, 0, 0, 0, 0)), (27, (.iload 4, 2, 4, 0, 0, 0, 0)), (29, (.iload_n 3, 1, 3, 0, 0, 0, 0)), (30, (.if_icmp .ge (66), 3, 0, 96, 0, 0, 0)), (33, (.aload_n 0, 1, 0, 0, 0, 0, 0)), (34, (.invokevirtual 112, 3, 143, 1, 0, 0, 0)), (37, (.aload_n 0, 1, 0, 0, 0, 0, 0)), (38, (.dup, 1, 0, 0, 0, 0, 0)), (39, (.getfield 109, 3, 8, 3, 0, 0, 0)), (42, (.aload_n 0, 1, 0, 0, 0, 0, 0)), (43, (.getfield 20, 3, 8, 6, 0, 0, 0)), (46, (.aload_n 0, 1, 0, 0, 0, 0, 0)), (47, (.bipush (10), 2, 0, 0, 0, 10, 0)), (49, (.invokevirtual 115, 3, 144, 2, 1, 0, 0)), (52, (.aload_n 0, 1, 0, 0, 0, 0, 0)), (53, (.getfield 9, 3, 8, 5, 0, 0, 0)), (56, (.getfield 118, 3, 9, 15, 0, 0, 0)), (59, (.if_icmp .ge (7), 3, 0, 66, 0, 0, 0)), (62, (.iconst 3, 1, 0, 0, 0, 3, 0)), (63, (.goto (4), 3, 0, 67, 0, 0, 0)), (66, (.iconst 0, 1, 0, 0, 0, 0, 0)), (67, (.invokevirtual 84, 3, 133, 2, 1, 0, 0)), (70, (.iadd, 1, 0, 0, 0, 0, 0)), (71, (.putfield 109, 3, 8, 3, 0, 0, 0)), (74, (.aload_n 0, 1, 0, 0, 0, 0, 0)), (75, (.dup, 1, 0, 0, 0, 0, 0)), (76, (.getfield 60, 3, 8, 2, 0, 0, 0)), (79, (.aload_n 0, 1, 0, 0, 0, 0, 0)), (80, (.getfield 20, 3, 8, 6, 0, 0, 0)), (83, (.invokevirtual 57, 3, 113, 1, 1, 0, 0)), (86, (.iadd, 1, 0, 0, 0, 0, 0)), (87, (.putfield 60, 3, 8, 2, 0, 0, 0)), (90, (.iinc 4 (1), 3, 4, 0, 0, 1, 0)), (93, (.goto (-66), 3, 0, 27, 0, 0, 0)), (96, (.aload_n 0, 1, 0, 0, 0, 0, 0)), (97, (.aload_n 0, 1, 0, 0, 0, 0, 0)), (98, (.getfield 20, 3, 8, 6, 0, 0, 0)), (101, (.getfield 123, 3, 6, 9, 0, 0, 0)), (104, (.invokestatic 126, 3, 145, 1, 1, 0, 0)), (107, (.putfield 131, 3, 8, 4, 0, 0, 0)), (110, (.return_, 1, 0, 0, 0, 0, 0))]
def cd_143 : List (Nat × Ent) := [(0, (.aload_n 0, 1, 0, 0, 0, 0, 0)), (1, (.getfield 9, 3, 8, 5, 0, 0, 0)), (4, (.getfield 132, 3, 9, 2, 0, 0, 0)), (7, (.getfield 136, 3, 4, 0, 0, 0, 0)), (10, (.ifCond .le (51), 3, 0, 61, 0, 0, 0)), (13, (.aload_n 0, 1, 0, 0, 0, 0, 0)), (14, (.getfield 9, 3, 8, 5, 0, 0, 0)), (17, (.getfield 139, 3, 9, 0, 0, 0, 0)), (20, (.getfield 136, 3, 4, 0, 0, 0, 0)), (23, (.ifCond .le (38), 3, 0, 61, 0, 0, 0)), (26, (.aload_n 0, 1, 0, 0, 0, 0, 0)), (27, (.aload_n 0, 1, 0, 0, 0, 0, 0)), (28, (.getfield 9, 3, 8, 5, 0, 0, 0)), (31, (.getfield 132, 3, 9, 2, 0, 0, 0)), (34, (.getfield 136, 3, 4, 0, 0, 0, 0)), (37, (.invokevirtual 115, 3, 144, 2, 1, 0, 0)), (40, (.istore_n 1, 1, 1, 0, 0, 0, 0)), (41, (.aload_n 0, 1, 0, 0, 0, 0, 0)), (42, (.iload_n 1, 1, 1, 0, 0, 0, 0)), (43, (.aload_n 0, 1, 0, 0, 0, 0, 0)), (44, (.aload_n 0, 1, 0, 0, 0, 0, 0)), (45, (.getfield 9, 3, 8, 5, 0, 0, 0)), (48, (.getfield 139, 3, 9, 0, 0, 0, 0)), (51, (.getfield 136, 3, 4, 0, 0, 0, 0)), (54, (.invokevirtual 115, 3, 144, 2, 1, 0, 0)), (57, (.invokevirtual 63, 3, 139, 3, 1, 0, 0)), (60, (.pop, 1, 0, 0, 0, 0, 0)), (61, (.aload_n 0, 1, 0, 0, 0, 0, 0)), (62, (.getfield 9, 3, 8, 5, 0, 0, 0)), (65, (.getfield 132, 3, 9, 2, 0, 0, 0)), (68, (.getfield 136, 3, 4, 0, 0, 0, 0)), (71, (.ifCond .le (45), 3, 0, 116, 0, 0, 0)), (74, (.iconst 0, 1, 0, 0, 0, 0, 0)), (75, (.istore_n 1, 1, 1, 0, 0, 0, 0)), (76, (.iload_n 1, 1, 1, 0, 0, 0, 0)), (77, (.aload_n 0, 1, 0, 0, 0, 0, 0)), (78, (.getfield 9, 3, 8, 5, 0, 0, 0)), (81, (.getfield 142, 3, 9, 1, 0, 0, 0)), (84, (.getfield 136, 3, 4, 0, 0, 0, 0)), (87, (.if_icmp .ge (29), 3, 0, 116, 0, 0, 0)), (90, (.aload_n 0, 1, 0, 0, 0, 0, 0)), (91, (.iload_n 1, 1, 1, 0, 0, 0, 0)), (92, (.aload_n 0, 1, 0, 0, 0, 0, 0)), (93, (.aload_n 0, 1, 0, 0, 0, 0, 0)), (94, (.getfield 9, 3, 8, 5, 0, 0, 0)), (97, (.getfield 132, 3, 9, 2, 0, 0, 0)), (100, (.getfield 136, 3, 4, 0, 0, 0, 0)), (103, (.invokevirtual 115, 3, 144, 2, 1, 0, 0)), (106, (.invokevirtual 67, 3, 140, 3, 1, 0, 0)), (109, (.pop, 1, 0, 0, 0, 0, 0)), (110, (.iinc 1 (1), 3, 1, 0, 0, 1, 0)), (113, (.goto (-37), 3, 0, 76, 0, 0, 0)), (116, (.return_, 1, 0, 0, 0, 0, 0))]
def cd_144 : List (Nat × Ent) := [(0, (.aload_n 0, 1, 0, 0, 0, 0, 0)), (1, (.aload_n 0, 1, 0, 0, 0, 0, 0)), (2, (.getfield 105, 3, 8, 7, 0, 0, 0)), (5, (.ldc2_w 145, 3, 0, 0, 0, 0, 1103515245)), (8, (.lmul, 1, 0, 0, 0, 0, 0)), (9, (.ldc2_w 147, 3, 0, 0, 0, 0, 12345)), (12, (.ladd, 1, 0, 0, 0, 0, 0)), (13, (.ldc2_w 149, 3, 0, 0, 0, 0, 2147483648)), (16, (.lrem, 1, 0, 0, 0, 0, 0)), (17, (.putfield 105, 3, 8, 7, 0, 0, 0)), (20, (.iload_n 1, 1, 1, 0, 0, 0, 0)), (21, (.iconst 1, 1, 0, 0, 0, 1, 0)), (22, (.if_icmp .ge (7), 3, 0, 29, 0, 0, 0)), (25, (.iconst 0, 1, 0, 0, 0, 0, 0)), (26, (.goto (15), 3, 0, 41, 0, 0, 0)), (29, (.aload_n 0, 1, 0, 0, 0, 0, 0)), (30, (.getfield 105, 3, 8, 7, 0, 0, 0)), (33, (.ldc2_w 151, 3, 0, 0, 0, 0, 65536)), (36, (.ldiv, 1, 0, 0, 0, 0, 0)), (37, (.iload_n 1, 1, 1, 0, 0, 0, 0)), (38, (.i2l, 1, 0, 0, 0, 0, 0)), (39, (.lrem, 1, 0, 0, 0, 0, 0)), (40, (.l2i, 1, 0, 0, 0, 0, 0)), (41, (.ireturn, 1, 0, 0, 0, 0, 0))]
def cd_145 : List (Nat × Ent) := [(0, (.iload_n 0, 1, 0, 0, 0, 0, 0)), (1, (.iload_n 0, 1, 0, 0, 0, 0, 0)), (2, (.iconst 1, 1, 0, 0, 0, 1, 0)), (3, (.iushr, 1, 0, 0, 0, 0, 0)), (4, (.ldc_w 265, 3, 0, 0, 0, 1431655765, 0)), (7, (.iand, 1, 0, 0, 0, 0, 0)), (8, (.isub, 1, 0, 0, 0, 0, 0)), (9, (.istore_n 0, 1, 0, 0, 0, 0, 0)), (10, (.iload_n 0, 1, 0, 0, 0, 0, 0)), (11, (.ldc_w 266, 3, 0, 0, 0, 858993459, 0)), (14, (.iand, 1, 0, 0, 0, 0, 0)), (15, (.iload_n 0, 1, 0, 0, 0, 0, 0)), (16, (.iconst 2, 1, 0, 0, 0, 2, 0)), (17, (.iushr, 1, 0, 0, 0, 0, 0)), (18, (.ldc_w 266, 3, 0, 0, 0, 858993459, 0)), (21, (.iand, 1, 0, 0, 0, 0, 0)), (22, (.iadd, 1, 0, 0, 0, 0, 0)), (23, (.istore_n 0, 1, 0, 0, 0, 0, 0)), (24, (.iload_n 0, 1, 0, 0, 0, 0, 0)), (25, (.iload_n 0, 1, 0, 0, 0, 0, 0)), (26, (.iconst 4, 1, 0, 0, 0, 4, 0)), (27, (.iushr, 1, 0, 0, 0, 0, 0)), (28, (.iadd, 1, 0, 0, 0, 0, 0)), (29, (.ldc_w 267, 3, 0, 0, 0, 252645135, 0)), (32, (.iand, 1, 0, 0, 0, 0, 0)), (33, (.istore_n 0, 1, 0, 0, 0, 0, 0)), (34, (.iload_n 0, 1, 0, 0, 0, 0, 0)), (35, (.iload_n 0, 1, 0, 0, 0, 0, 0)), (36, (.bipush (8), 2, 0, 0, 0, 8, 0)), (38, (.iushr, 1, 0, 0, 0, 0, 0)), (39, (.iadd, 1, 0, 0, 0, 0, 0)), (40, (.istore_n 0, 1, 0, 0, 0, 0, 0)), (41, (.iload_n 0, 1, 0, 0, 0, 0, 0)), (42, (.iload_n 0, 1, 0, 0, 0, 0, 0)), (43, (.bipush (16), 2, 0, 0, 0, 16, 0)), (45, (.iushr, 1, 0, 0, 0, 0, 0)), (46, (.iadd, 1, 0, 0, 0, 0, 0)), (47, (.istore_n 0, 1, 0, 0, 0, 0, 0)), (48, (.iload_n 0, 1, 0, 0, 0, 0, 0)), (49, (.bipush (63), 2, 0, 0, 0, 63, 0)), (51, (.iand, 1, 0, 0, 0, 0, 0)), (52, (.ireturn, 1, 0, 0, 0, 0, 0))]
def cd_146 : List (Nat × Ent) := [(0, (.aload_n 0, 1, 0, 0, 0, 0, 0)), (1, (.iload_n 1, 1, 1, 0, 0, 0, 0)), (2, (.invokevirtual 116, 3, 94, 2, 1, 0, 0)), (5, (.ifCond .eq (14), 3, 0, 19, 0, 0, 0)), (8, (.aload_n 0, 1, 0, 0, 0, 0, 0)), (9, (.getfield 50, 3, 11, 6, 0, 0, 0)), (12, (.iload_n 1, 1, 1, 0, 0, 0, 0)), (13, (.invokevirtual 150, 3, 97, 2, 1, 0, 0)), (16, (.ifCond .ne (5), 3, 0, 21, 0, 0, 0)), (19, (.iconst (-1), 1, 0, 0, 0, (-1), 0)), (20, (.ireturn, 1, 0, 0, 0, 0, 0)), (21, (.aload_n 0, 1, 0, 0, 0, 0, 0)), (22, (.getfield 50, 3, 11, 6, 0, 0, 0)), (25, (.iload_n 1, 1, 1, 0, 0, 0, 0)), (26, (.aload_n 0, 1, 0, 0, 0, 0, 0)), (27, (.getfield 50, 3, 11, 6, 0, 0, 0)), (30, (.getfield 137, 3, 6, 3, 0, 0, 0)), (33, (.iload_n 1, 1, 1, 0, 0, 0, 0)), (34, (.iaload, 1, 0, 0, 0, 0, 0)), (35, (.bipush (40), 2, 0, 0, 0, 40, 0)), (37, (.invokevirtual 264, 3, 147, 4, 1, 0, 0)), (40, (.istore_n 2, 1, 2, 0, 0, 0, 0)), (41, (.iload_n 2, 1, 2, 0, 0, 0, 0)), (42, (.bipush (40), 2, 0, 0, 0, 40, 0)), (44, (.if_icmp .le (7), 3, 0, 51, 0, 0, 0)), (47, (.iconst (-1), 1, 0, 0, 0, (-1), 0)), (48, (.goto (4), 3, 0, 52, 0, 0, 0)), (51, (.iload_n 2, 1, 2, 0, 0, 0, 0)), (52, (.ireturn, 1, 0, 0, 0, 0, 0))]
def cd_147 : List (Nat × Ent) := [(0, (.aload_n 0, 1, 0, 0, 0, 0, 0)), (1, (.getfield 30, 3, 6, 10, 0, 0, 0)), (4, (.iload_n 1, 1, 1, 0, 0, 0, 0)), (5, (.aload_n 0, 1, 0, 0, 0, 0, 0)), (6, (.getfield 21, 3, 6, 4, 0, 0, 0)), (9, (.iload_n 1, 1, 1, 0, 0, 0, 0)), (10, (.iaload, 1, 0, 0, 0, 0, 0)), (11, (.aload_n 0, 1, 0, 0, 0, 0, 0)), (12, (.getfield 9, 3, 6, 1, 0, 0, 0)), (15, (.iload_n 1, 1, 1, 0, 0, 0, 0)), (16, (.iaload, 1, 0, 0, 0, 0, 0)), (17, (.iload_n 2, 1, 2, 0, 0, 0, 0)), (18, (.aload_n 0, 1, 0, 0, 0, 0, 0)), (19, (.getfield 37, 3, 6, 0, 0, 0, 0)), (22, (.iload_n 3, 1, 3, 0, 0, 0, 0)), (23, (.invokevirtual 125, 3, 148, 7, 1, 0, 0)), (26, (.ireturn, 1, 0, 0, 0, 0, 0))]
def cd_148 : List (Nat × Ent) := [(0, (.iload_n 3, 1, 3, 0, 0, 0, 0)), (1, (.istore 7, 2, 7, 0, 0, 0, 0)), (3, (.iconst 0, 1, 0, 0, 0, 0, 0)), (4, (.istore 8, 2, 8, 0, 0, 0, 0)), (6, (.iload 8, 2, 8, 0, 0, 0, 0)), (8, (.iload 6, 2, 6, 0, 0, 0, 0)), (10, (.if_icmp .ge (43), 3, 0, 53, 0, 0, 0)), (13, (.iload 7, 2, 7, 0, 0, 0, 0)), (15, (.aload_n 0, 1, 0, 0, 0, 0, 0)), (16, (.iload_n 1, 1, 1, 0, 0, 0, 0)), (17, (.iload_n 2, 1, 2, 0, 0, 0, 0)), (18, (.iload 7, 2, 7, 0, 0, 0, 0)), (20, (.iload 4, 2, 4, 0, 0, 0, 0)), (22, (.aload_n 0, 1, 0, 0, 0, 0, 0)), (23, (.iload 5, 2, 5, 0, 0, 0, 0)), (25, (.iload 8, 2, 8, 0, 0, 0, 0)), (27, (.iadd, 1, 0, 0, 0, 0, 0)), (28, (.invokevirtual 123, 3, 101, 2, 1, 0, 0)), (31, (.invokevirtual 127, 3, 103, 6, 1, 0, 0)), (34, (.isub, 1, 0, 0, 0, 0, 0)), (35, (.istore 7, 2, 7, 0, 0, 0, 0)), (37, (.iload 7, 2, 7, 0, 0, 0, 0)), (39, (.ifCond .gt (8), 3, 0, 47, 0, 0, 0)), (42, (.iload 8, 2, 8, 0, 0, 0, 0)), (44, (.iconst 1, 1, 0, 0, 0, 1, 0)), (45, (.iadd, 1, 0, 0, 0, 0, 0)), (46, (.ireturn, 1, 0, 0, 0, 0, 0)), (47, (.iinc 8 (1), 3, 8, 0, 0, 1, 0)), (50, (.goto (-44), 3, 0, 6, 0, 0, 0)), (53, (.iload 6, 2, 6, 0, 0, 0, 0)), (55, (.iconst 1, 1, 0, 0, 0, 1, 0)), (56, (.iadd, 1, 0, 0, 0, 0, 0)), (57, (.ireturn, 1, 0, 0, 0, 0, 0))]
def cd_149 : List (Nat × Ent) := [(0, (.aload_n 0, 1, 0, 0, 0, 0, 0)), (1, (.getfield 19, 3, 11, 1, 0, 0, 0)), (4, (.aload_n 0, 1, 0, 0, 0, 0, 0)), (5, (.getfield 50, 3, 11, 6, 0, 0, 0)), (8, (.invokevirtual 172, 3, 110, 1, 1, 0, 0)), (11, (.invokevirtual 268, 3, 150, 2, 1, 0, 0)), (14, (.ireturn, 1, 0, 0, 0, 0, 0))]
def cd_150 : List (Nat × Ent) := [(0, (.iconst 0, 1, 0, 0, 0, 0, 0)), (1, (.istore_n 2, 1, 2, 0, 0, 0, 0)), (2, (.iconst 0, 1, 0, 0, 0, 0, 0)), (3, (.istore_n 3, 1, 3, 0, 0, 0, 0)), (4, (.iload_n 3, 1, 3, 0, 0, 0, 0)), (5, (.aload_n 0, 1, 0, 0, 0, 0, 0)), (6, (.getfield 21, 3, 9, 2, 0, 0, 0)), (9, (.getfield 131, 3, 4, 0, 0, 0, 0)), (12, (.if_icmp .ge (35), 3, 0, 47, 0, 0, 0)), (15, (.iload_n 2, 1, 2, 0, 0, 0, 0)), (16, (.iload_n 1, 1, 1, 0, 0, 0, 0)), (17, (.iload_n 3, 1, 3, 0, 0, 0, 0)), (18, (.invokestatic 134, 3, 64, 2, 1, 0, 0)), (21, (.ifCond .eq (17), 3, 0, 38, 0, 0, 0)), (24, (.aload_n 0, 1, 0, 0, 0, 0, 0)), (25, (.getfield 49, 3, 9, 11, 0, 0, 0)), (28, (.iload_n 3, 1, 3, 0, 0, 0, 0)), (29, (.iaload, 1, 0, 0, 0, 0, 0)), (30, (.iload_n 1, 1, 1, 0, 0, 0, 0)), (31, (.iand, 1, 0, 0, 0, 0, 0)), (32, (.invokestatic 138, 3, 145, 1, 1, 0, 0)), (35, (.goto (4), 3, 0, 39, 0, 0, 0)), (38, (.iconst 0, 1, 0, 0, 0, 0, 0)), (39, (.iadd, 1, 0, 0, 0, 0, 0)), (40, (.istore_n 2, 1, 2, 0, 0, 0, 0)), (41, (.iinc 3 (1), 3, 3, 0, 0, 1, 0)), (44, (.goto (-40), 3, 0, 4, 0, 0, 0)), (47, (.iload_n 2, 1, 2, 0, 0, 0, 0)), (48, (.iconst 2, 1, 0, 0, 0, 2, 0)), (49, (.idiv, 1, 0, 0, 0, 0, 0)), (50, (.ireturn, 1, 0, 0, 0, 0, 0))]
def cd_151 : List (Nat × Ent) := [(0, (.iload_n 1, 1, 1, 0, 0, 0, 0)), (1, (.ifCond .lt (8), 3, 0, 9, 0, 0, 0)), (4, (.iload_n 1, 1, 1, 0, 0, 0, 0)), (5, (.iconst 1, 1, 0, 0, 0, 1, 0)), (6, (.if_icmp .le (5), 3, 0, 11, 0, 0, 0)), (9, (.iconst (-1), 1, 0, 0, 0, (-1), 0)), (10, (.ireturn, 1, 0, 0, 0, 0, 0)), (11, (.aload_n 0, 1, 0, 0, 0, 0, 0)), (12, (.getfield 66, 3, 11, 11, 0, 0, 0)), (15, (.invokevirtual 271, 3, 152, 1, 1, 0, 0)), (18, (.istore_n 2, 1, 2, 0, 0, 0, 0)), (19, (.iload_n 1, 1, 1, 0, 0, 0, 0)), (20, (.ifCond .ne (14), 3, 0, 34, 0, 0, 0)), (23, (.aload_n 0, 1, 0, 0, 0, 0, 0)), (24, (.getfield 19, 3, 11, 1, 0, 0, 0)), (27, (.iload_n 2, 1, 2, 0, 0, 0, 0)), (28, (.invokevirtual 274, 3, 114, 2, 1, 0, 0)), (31, (.goto (4), 3, 0, 35, 0, 0, 0)), (34, (.iload_n 2, 1, 2, 0, 0, 0, 0)), (35, (.ireturn, 1, 0, 0, 0, 0, 0))]
def cd_152 : List (Nat × Ent) := [(0, (.aload_n 0, 1, 0, 0, 0, 0, 0)), (1, (.getfield 52, 3, 3, 3, 0, 0, 0)), (4, (.invokevirtual 56, 3, 110, 1, 1, 0, 0)), (7, (.istore_n 1, 1, 1, 0, 0, 0, 0)), (8, (.iload_n 1, 1, 1, 0, 0, 0, 0)), (9, (.istore_n 2, 1, 2, 0, 0, 0, 0)), (10, (.aload_n 0, 1, 0, 0, 0, 0, 0)), (11, (.getfield 48, 3, 3, 2, 0, 0, 0)), (14, (.iload_n 1, 1, 1, 0, 0, 0, 0)), (15, (.invokevirtual 62, 3, 114, 2, 1, 0, 0)), (18, (.iconst 1, 1, 0, 0, 0, 1, 0)), (19, (.iadd, 1, 0, 0, 0, 0, 0)), (20, (.istore_n 3, 1, 3, 0, 0, 0, 0)), (21, (.iconst 0, 1, 0, 0, 0, 0, 0)), (22, (.istore 4, 2, 4, 0, 0, 0, 0)), (24, (.iload 4, 2, 4, 0, 0, 0, 0)), (26, (.bipush (64), 2, 0, 0, 0, 64, 0)), (28, (.if_icmp .ge (60), 3, 0, 88, 0, 0, 0)), (31, (.iload 4, 2, 4, 0, 0, 0, 0)), (33, (.iload_n 1, 1, 1, 0, 0, 0, 0)), (34, (.iconst (-1), 1, 0, 0, 0, (-1), 0)), (35, (.ixor, 1, 0, 0, 0, 0, 0)), (36, (.iand, 1, 0, 0, 0, 0, 0)), (37, (.ifCond .ne (45), 3, 0, 82, 0, 0, 0)), (40, (.aload_n 0, 1, 0, 0, 0, 0, 0)), (41, (.getfield 48, 3, 3, 2, 0, 0, 0)), (44, (.iload_n 1, 1, 1, 0, 0, 0, 0)), (45, (.iload 4, 2, 4, 0, 0, 0, 0)), (47, (.iconst (-1), 1, 0, 0, 0, (-1), 0)), (48, (.ixor, 1, 0, 0, 0, 0, 0)), (49, (.iand, 1, 0, 0, 0, 0, 0)), (50, (.invokevirtual 68, 3, 150, 2, 1, 0, 0)), (53, (.ifCond .ne (29), 3, 0, 82, 0, 0, 0)), (56, (.aload_n 0, 1, 0, 0, 0, 0, 0)), (57, (.getfield 48, 3, 3, 2, 0, 0, 0)), (60, (.iload 4, 2, 4, 0, 0, 0, 0)), (62, (.invokevirtual 62, 3, 114, 2, 1, 0, 0)), (65, (.iload_n 3, 1, 3, 0, 0, 0, 0)), (66, (.if_icmp .ge (16), 3, 0, 82, 0, 0, 0)), (69, (.iload 4, 2, 4, 0, 0, 0, 0)), (71, (.istore_n 2, 1, 2, 0, 0, 0, 0)), (72, (.aload_n 0, 1, 0, 0, 0, 0, 0)), (73, (.getfield 48, 3, 3, 2, 0, 0, 0)), (76, (.iload 4, 2, 4, 0, 0, 0, 0)), (78, (.invokevirtual 62, 3, 114, 2, 1, 0, 0)), (81, (.istore_n 3, 1, 3, 0, 0, 0, 0)), (82, (.iinc 4 (1), 3, 4, 0, 0, 1, 0)), (85, (.goto (-61), 3, 0, 24, 0, 0, 0)), (88, (.iload_n 2, 1, 2, 0, 0, 0, 0)), (89, (.ireturn, 1, 0, 0, 0, 0, 0))]
def cd_153 : List (Nat × Ent) := [(0, (.iload_n 1, 1, 1, 0, 0, 0, 0)), (1, (.iconst 1, 1, 0, 0, 0, 1, 0)), (2, (.if_icmp .lt (27), 3, 0, 29, 0, 0, 0)), (5, (.iload_n 1, 1, 1, 0, 0, 0, 0)), (6, (.bipush (6), 2, 0, 0, 0, 6, 0)), (8, (.if_icmp .gt (21), 3, 0, 29, 0, 0, 0)), (11, (.iload_n 2, 1, 2, 0, 0, 0, 0)), (12, (.ifCond .lt (17), 3, 0, 29, 0, 0, 0)), (15, (.iload_n 2, 1, 2, 0, 0, 0, 0)), (16, (.aload_n 0, 1, 0, 0, 0, 0, 0)), (17, (.getfield 19, 3, 11, 1, 0, 0, 0)), (20, (.getfield 191, 3, 9, 1, 0, 0, 0)), (23, (.getfield 179, 3, 4, 0, 0, 0, 0)), (26, (.if_icmp .le (6), 3, 0, 32, 0, 0, 0)), (29, (.bipush (-2), 2, 0, 0, 0, (-2), 0)), (31, (.ireturn, 1, 0, 0, 0, 0, 0)), (32, (.aload_n 0, 1, 0, 0, 0, 0, 0)), (33, (.getfield 66, 3, 11, 11, 0, 0, 0)), (36, (.iload_n 1, 1, 1, 0, 0, 0, 0)), (37, (.invokevirtual 277, 3, 154, 2, 1, 0, 0)), (40, (.istore_n 3, 1, 3, 0, 0, 0, 0)), (41, (.iload_n 2, 1, 2, 0, 0, 0, 0)), (42, (.ifCond .ne (7), 3, 0, 49, 0, 0, 0)), (45, (.iload_n 3, 1, 3, 0, 0, 0, 0)), (46, (.goto (14), 3, 0, 60, 0, 0, 0)), (49, (.aload_n 0, 1, 0, 0, 0, 0, 0)), (50, (.getfield 66, 3, 11, 11, 0, 0, 0)), (53, (.getfield 280, 3, 3, 0, 0, 0, 0)), (56, (.iload_n 2, 1, 2, 0, 0, 0, 0)), (57, (.iconst 1, 1, 0, 0, 0, 1, 0)), (58, (.isub, 1, 0, 0, 0, 0, 0)), (59, (.iaload, 1, 0, 0, 0, 0, 0)), (60, (.ireturn, 1, 0, 0, 0, 0, 0))]
def cd_154 : List (Nat × Ent) := [(0, (.aload_n 0, 1, 0, 0, 0, 0, 0)), (1, (.invokevirtual 71, 3, 155, 1, 0, 0, 0)), (4, (.aload_n 0, 1, 0, 0, 0, 0, 0)), (5, (.invokevirtual 74, 3, 156, 1, 0, 0, 0)), (8, (.iconst 0, 1, 0, 0, 0, 0, 0)), (9, (.istore_n 2, 1, 2, 0, 0, 0, 0)), (10, (.iload_n 2, 1, 2, 0, 0, 0, 0)), (11, (.aload_n 0, 1, 0, 0, 0, 0, 0)), (12, (.getfield 77, 3, 3, 7, 0, 0, 0)), (15, (.if_icmp .ge (47), 3, 0, 62, 0, 0, 0)), (18, (.iconst 0, 1, 0, 0, 0, 0, 0)), (19, (.istore_n 3, 1, 3, 0, 0, 0, 0)), (20, (.iload_n 3, 1, 3, 0, 0, 0, 0)), (21, (.iconst 1, 1, 0, 0, 0, 1, 0)), (22, (.aload_n 0, 1, 0, 0, 0, 0, 0)), (23, (.getfield 81, 3, 3, 5, 0, 0, 0)), (26, (.ishl, 1, 0, 0, 0, 0, 0)), (27, (.if_icmp .ge (29), 3, 0, 56, 0, 0, 0)), (30, (.aload_n 0, 1, 0, 0, 0, 0, 0)), (31, (.getfield 26, 3, 3, 8, 0, 0, 0)), (34, (.iload_n 2, 1, 2, 0, 0, 0, 0)), (35, (.aaload, 1, 0, 0, 30, 0, 0)), (36, (.iload_n 3, 1, 3, 0, 0, 0, 0)), (37, (.aload_n 0, 1, 0, 0, 0, 0, 0)), (38, (.aload_n 0, 1, 0, 0, 0, 0, 0)), (39, (.getfield 21, 3, 3, 6, 0, 0, 0)), (42, (.iload_n 2, 1, 2, 0, 0, 0, 0)), (43, (.iaload, 1, 0, 0, 0, 0, 0)), (44, (.iload_n 3, 1, 3, 0, 0, 0, 0)), (45, (.iload_n 1, 1, 1, 0, 0, 0, 0)), (46, (.invokevirtual 84, 3, 157, 4, 1, 0, 0)), (49, (.iastore, 1, 0, 0, 0, 0, 0)), (50, (.iinc 3 (1), 3, 3, 0, 0, 1, 0)), (53, (.goto (-33), 3, 0, 20, 0, 0, 0)), (56, (.iinc 2 (1), 3, 2, 0, 0, 1, 0)), (59, (.goto (-49), 3, 0, 10, 0, 0, 0)), (62, (.aload_n 0, 1, 0, 0, 0, 0, 0)), (63, (.getfield 11, 3, 3, 0, 0, 0, 0)), (66, (.iconst (-1), 1, 0, 0, 0, (-1), 0)), (67, (.invokestatic 88, 3, 2, 2, 0, 0, 0)), (70, (.aload_n 0, 1, 0, 0, 0, 0, 0)), (71, (.getfield 29, 3, 3, 9, 0, 0, 0)), (74, (.iconst 0, 1, 0, 0, 0, 0, 0)), (75, (.invokestatic 88, 3, 2, 2, 0, 0, 0)), (78, (.iconst (-1), 1, 0, 0, 0, (-1), 0)), (79, (.istore_n 2, 1, 2, 0, 0, 0, 0)), (80, (.aload_n 0, 1, 0, 0, 0, 0, 0)), (81, (.invokevirtual 94, 3, 159, 1, 1, 0, 0)), (84, (.istore_n 3, 1, 3, 0, 0, 0, 0)), (85, (.iconst 0, 1, 0, 0, 0, 0, 0)), (86, (.istore 4, 2, 4, 0, 0, 0, 0)), (88, (.iload 4, 2, 4, 0, 0, 0, 0)), (90, (.iload_n 3, 1, 3, 0, 0, 0, 0)), (91, (.if_icmp .ge (32), 3, 0, 123, 0, 0, 0)), (94, (.aload_n 0, 1, 0, 0, 0, 0, 0)), (95, (.invokevirtual 97, 3, 160, 1, 1, 0, 0)), (98, (.istore 5, 2, 5, 0, 0, 0, 0)), (100, (.iload 5, 2, 5, 0, 0, 0, 0)), (102, (.iload_n 2, 1, 2, 0, 0, 0, 0)), (103, (.if_icmp .le (10), 3, 0, 113, 0, 0, 0)), (106, (.iload 5, 2, 5, 0, 0, 0, 0)), (108, (.istore_n 2, 1, 2, 0, 0, 0, 0)), (109, (.aload_n 0, 1, 0, 0, 0, 0, 0)), (110, (.invokevirtual 100, 3, 161, 1, 0, 0, 0)), (113, (.aload_n 0, 1, 0, 0, 0, 0, 0)), (114, (.invokevirtual 103, 3, 162, 1, 0, 0, 0)), (117, (.iinc 4 (1), 3, 4, 0, 0, 1, 0)), (120, (.goto (-32), 3, 0, 88, 0, 0, 0)), (123, (.iload_n 2, 1, 2, 0, 0, 0, 0)), (124, (.ireturn, 1, 0, 0, 0, 0, 0))]
def cd_155 : List (Nat × Ent) := [(0, (.aload_n 0, 1, 0, 0, 0, 0, 0)), (1, (.iconst 0, 1, 0, 0, 0, 0, 0)), (2, (.putfield 81, 3, 3, 5, 0, 0, 0)), (5, (.iconst 0, 1, 0, 0, 0, 0, 0)), (6, (.istore_n 1, 1, 1, 0, 0, 0, 0)), (7, (.iload_n 1, 1, 1, 0, 0, 0, 0)), (8, (.aload_n 0, 1, 0, 0, 0, 0, 0)), (9, (.getfield 48, 3, 3, 2, 0, 0, 0)), (12, (.getfield 106, 3, 9, 1, 0, 0, 0)), (15, (.getfield 110, 3, 4, 0, 0, 0, 0)), (18, (.if_icmp .ge (51), 3, 0, 69, 0, 0, 0)), (21, (.aload_n 0, 1, 0, 0, 0, 0, 0)), (22, (.getfield 81, 3, 3, 5, 0, 0, 0)), (25, (.iconst 4, 1, 0, 0, 0, 4, 0)), (26, (.if_icmp .ge (43), 3, 0, 69, 0, 0, 0)), (29, (.aload_n 0, 1, 0, 0, 0, 0, 0)), (30, (.getfield 52, 3, 3, 3, 0, 0, 0)), (33, (.getfield 115, 3, 6, 9, 0, 0, 0)), (36, (.iload_n 1, 1, 1, 0, 0, 0, 0)), (37, (.invokestatic 118, 3, 64, 2, 1, 0, 0)), (40, (.ifCond .ne (23), 3, 0, 63, 0, 0, 0)), (43, (.aload_n 0, 1, 0, 0, 0, 0, 0)), (44, (.getfield 18, 3, 3, 4, 0, 0, 0)), (47, (.aload_n 0, 1, 0, 0, 0, 0, 0)), (48, (.getfield 81, 3, 3, 5, 0, 0, 0)), (51, (.iload_n 1, 1, 1, 0, 0, 0, 0)), (52, (.iastore, 1, 0, 0, 0, 0, 0)), (53, (.aload_n 0, 1, 0, 0, 0, 0, 0)), (54, (.dup, 1, 0, 0, 0, 0, 0)), (55, (.getfield 81, 3, 3, 5, 0, 0, 0)), (58, (.iconst 1, 1, 0, 0, 0, 1, 0)), (59, (.iadd, 1, 0, 0, 0, 0, 0)), (60, (.putfield 81, 3, 3, 5, 0, 0, 0)), (63, (.iinc 1 (1), 3, 1, 0, 0, 1, 0)), (66, (.goto (-59), 3, 0, 7, 0, 0, 0)), (69, (.return_, 1, 0, 0, 0, 0, 0))]
def cd_156 : List (Nat × Ent) := [(0, (.aload_n 0, 1, 0, 0, 0, 0, 0)), (1, (.iconst 0, 1, 0, 0, 0, 0, 0)), (2, (.putfield 77, 3, 3, 7, 0, 0, 0)), (5, (.iconst 0, 1, 0, 0, 0, 0, 0)), (6, (.istore_n 1, 1, 1, 0, 0, 0, 0)), (7, (.iload_n 1, 1, 1, 0, 0, 0, 0)), (8, (.aload_n 0, 1, 0, 0, 0, 0, 0)), (9, (.getfield 48, 3, 3, 2, 0, 0, 0)), (12, (.getfield 122, 3, 9, 2, 0, 0, 0)), (15, (.getfield 110, 3, 4, 0, 0, 0, 0)), (18, (.if_icmp .ge (40), 3, 0, 58, 0, 0, 0)), (21, (.aload_n 0, 1, 0, 0, 0, 0, 0)), (22, (.getfield 52, 3, 3, 3, 0, 0, 0)), (25, (.iload_n 1, 1, 1, 0, 0, 0, 0)), (26, (.invokevirtual 125, 3, 97, 2, 1, 0, 0)), (29, (.ifCond .eq (23), 3, 0, 52, 0, 0, 0)), (32, (.aload_n 0, 1, 0, 0, 0, 0, 0)), (33, (.getfield 21, 3, 3, 6, 0, 0, 0)), (36, (.aload_n 0, 1, 0, 0, 0, 0, 0)), (37, (.getfield 77, 3, 3, 7, 0, 0, 0)), (40, (.iload_n 1, 1, 1, 0, 0, 0, 0)), (41, (.iastore, 1, 0, 0, 0, 0, 0)), (42, (.aload_n 0, 1, 0, 0, 0, 0, 0)), (43, (.dup, 1, 0, 0, 0, 0, 0)), (44, (.getfield 77, 3, 3, 7, 0, 0, 0)), (47, (.iconst 1, 1, 0, 0, 0, 1, 0)), (48, (.iadd, 1, 0, 0, 0, 0, 0)), (49, (.putfield 77, 3, 3, 7, 0, 0, 0)), (52, (.iinc 1 (1), 3, 1, 0, 0, 1, 0)), (55, (.goto (-48), 3, 0, 7, 0, 0, 0)), (58, (.return_, 1, 0, 0, 0, 0, 0))]
def cd_157 : List (Nat × Ent) := [(0, (.aload_n 0, 1, 0, 0, 0, 0, 0)), (1, (.getfield 52, 3, 3, 3, 0, 0, 0)), (4, (.getfield 129, 3, 6, 1, 0, 0, 0)), (7, (.iload_n 1, 1, 1, 0, 0, 0, 0)), (8, (.iaload, 1, 0, 0, 0, 0, 0)), (9, (.istore 4, 2, 4, 0, 0, 0, 0)), (11, (.aload_n 0, 1, 0, 0, 0, 0, 0)), (12, (.getfield 52, 3, 3, 3, 0, 0, 0)), (15, (.getfield 132, 3, 6, 2, 0, 0, 0)), (18, (.iload_n 1, 1, 1, 0, 0, 0, 0)), (19, (.iaload, 1, 0, 0, 0, 0, 0)), (20, (.istore 5, 2, 5, 0, 0, 0, 0)), (22, (.aload_n 0, 1, 0, 0, 0, 0, 0)), (23, (.getfield 48, 3, 3, 2, 0, 0, 0)), (26, (.iload_n 1, 1, 1, 0, 0, 0, 0)), (27, (.invokevirtual 135, 3, 95, 2, 1, 0, 0)), (30, (.istore 6, 2, 6, 0, 0, 0, 0)), (32, (.iconst 0, 1, 0, 0, 0, 0, 0)), (33, (.istore 7, 2, 7, 0, 0, 0, 0)), (35, (.iload 7, 2, 7, 0, 0, 0, 0)), (37, (.iload_n 3, 1, 3, 0, 0, 0, 0)), (38, (.if_icmp .ge (136), 3, 0, 174, 0, 0, 0)), (41, (.iconst 0, 1, 0, 0, 0, 0, 0)), (42, (.istore 8, 2, 8, 0, 0, 0, 0)), (44, (.iload 8, 2, 8, 0, 0, 0, 0)), (46, (.aload_n 0, 1, 0, 0, 0, 0, 0)), (47, (.getfield 81, 3, 3, 5, 0, 0, 0)), (50, (.if_icmp .ge (61), 3, 0, 111, 0, 0, 0)), (53, (.iload_n 2, 1, 2, 0, 0, 0, 0)), (54, (.iload 8, 2, 8, 0, 0, 0, 0)), (56, (.invokestatic 118, 3, 64, 2, 1, 0, 0)), (59, (.ifCond .eq (46), 3, 0, 105, 0, 0, 0)), (62, (.iload 5, 2, 5, 0, 0, 0, 0)), (64, (.iload 6, 2, 6, 0, 0, 0, 0)), (66, (.if_icmp .ge (39), 3, 0, 105, 0, 0, 0)), (69, (.aload_n 0, 1, 0, 0, 0, 0, 0)), (70, (.aload_n 0, 1, 0, 0, 0, 0, 0)), (71, (.getfield 18, 3, 3, 4, 0, 0, 0)), (74, (.iload 8, 2, 8, 0, 0, 0, 0)), (76, (.iaload, 1, 0, 0, 0, 0, 0)), (77, (.iload 7, 2, 7, 0, 0, 0, 0)), (79, (.invokevirtual 138, 3, 158, 3, 1, 0, 0)), (82, (.ifCond .eq (23), 3, 0, 105, 0, 0, 0)), (85, (.aload_n 0, 1, 0, 0, 0, 0, 0)), (86, (.getfield 48, 3, 3, 2, 0, 0, 0)), (89, (.aload_n 0, 1, 0, 0, 0, 0, 0)), (90, (.getfield 18, 3, 3, 4, 0, 0, 0)), (93, (.iload 8, 2, 8, 0, 0, 0, 0)), (95, (.iaload, 1, 0, 0, 0, 0, 0)), (96, (.iload 4, 2, 4, 0, 0, 0, 0)), (98, (.iload 5, 2, 5, 0, 0, 0, 0)), (100, (.invokevirtual 141, 3, 126, 4, 1, 0, 0)), (103, (.istore 5, 2, 5, 0, 0, 0, 0)), (105, (.iinc 8 (1), 3, 8, 0, 0, 1, 0)), (108, (.goto (-64), 3, 0, 44, 0, 0, 0)), (111, (.iload 4, 2, 4, 0, 0, 0, 0)), (113, (.aload_n 0, 1, 0, 0, 0, 0, 0)), (114, (.getfield 48, 3, 3, 2, 0, 0, 0)), (117, (.iload_n 1, 1, 1, 0, 0, 0, 0)), (118, (.aload_n 0, 1, 0, 0, 0, 0, 0)), (119, (.getfield 52, 3, 3, 3, 0, 0, 0)), (122, (.getfield 144, 3, 6, 4, 0, 0, 0)), (125, (.iload_n 1, 1, 1, 0, 0, 0, 0)), (126, (.iaload, 1, 0, 0, 0, 0, 0)), (127, (.iload 4, 2, 4, 0, 0, 0, 0)), (129, (.aload_n 0, 1, 0, 0, 0, 0, 0)), (130, (.getfield 52, 3, 3, 3, 0, 0, 0)), (133, (.getfield 147, 3, 6, 3, 0, 0, 0)), (136, (.iload_n 1, 1, 1, 0, 0, 0, 0)), (137, (.iaload, 1, 0, 0, 0, 0, 0)), (138, (.aload_n 0, 1, 0, 0, 0, 0, 0)), (139, (.getfield 48, 3, 3, 2, 0, 0, 0)), (142, (.aload_n 0, 1, 0, 0, 0, 0, 0)), (143, (.getfield 52, 3, 3, 3, 0, 0, 0)), (146, (.getfield 150, 3, 6, 0, 0, 0, 0)), (149, (.iload 7, 2, 7, 0, 0, 0, 0)), (151, (.iadd, 1, 0, 0, 0, 0, 0)), (152, (.invokevirtual 153, 3, 101, 2, 1, 0, 0)), (155, (.invokevirtual 156, 3, 103, 6, 1, 0, 0)), (158, (.isub, 1, 0, 0, 0, 0, 0)), (159, (.istore 4, 2, 4, 0, 0, 0, 0)), (161, (.iload 4, 2, 4, 0, 0, 0, 0)), (163, (.ifCond .gt (5), 3, 0, 168, 0, 0, 0)), (166, (.iconst 0, 1, 0, 0, 0, 0, 0)), (167, (.ireturn, 1, 0, 0, 0, 0, 0)), (168, (.iinc 7 (1), 3, 7, 0, 0, 1, 0)), (171, (.goto (-136), 3, 0, 35, 0, 0, 0)), (174, (.iload 5, 2, 5, 0, 0, 0, 0)), (176, (.iload 6, 2, 6, 0, 0, 0, 0)), (178, (.if_icmp .lt (15), 3, 0, 193, 0, 0, 0)), (181, (.aload_n 0, 1, 0, 0, 0, 0, 0)), (182, (.getfield 48, 3, 3, 2, 0, 0, 0)), (185, (.getfield 160, 3, 9, 9, 0, 0, 0)), (188, (.iload_n 1, 1, 1, 0, 0, 0, 0)), (189, (.iaload, 1, 0, 0, 0, 0, 0)), (190, (.goto (4), 3, 0, 194, 0, 0, 0)), (193, (.iconst 0, 1, 0, 0, 0, 0, 0)), (194, (.ireturn, 1, 0, 0, 0, 0, 0))]
def cd_158 : List (Nat × Ent) := [(0, (.aload_n 0, 1, 0, 0, 0, 0, 0)), (1, (.getfield 52, 3, 3, 3, 0, 0, 0)), (4, (.getfield 163, 3, 6, 5, 0, 0, 0)), (7, (.iload_n 1, 1, 1, 0, 0, 0, 0)), (8, (.iaload, 1, 0, 0, 0, 0, 0)), (9, (.istore_n 3, 1, 3, 0, 0, 0, 0)), (10, (.iload_n 3, 1, 3, 0, 0, 0, 0)), (11, (.iconst (-1), 1, 0, 0, 0, (-1), 0)), (12, (.if_icmp .ne (5), 3, 0, 17, 0, 0, 0)), (15, (.iconst 1, 1, 0, 0, 0, 1, 0)), (16, (.ireturn, 1, 0, 0, 1, 0, 0)), (17, (.iload_n 2, 1, 2, 0, 0, 0, 0)), (18, (.ifCond .ne (5), 3, 0, 23, 0, 0, 0)), (21, (.iconst 0, 1, 0, 0, 0, 0, 0)), (22, (.ireturn, 1, 0, 0, 1, 0, 0)), (23, (.aload_n 0, 1, 0, 0, 0, 0, 0)), (24, (.getfield 48, 3, 3, 2, 0, 0, 0)), (27, (.getfield 166, 3, 9, 10, 0, 0, 0)), (30, (.iload_n 3, 1, 3, 0, 0, 0, 0)), (31, (.iaload, 1, 0, 0, 0, 0, 0)), (32, (.iload_n 1, 1, 1, 0, 0, 0, 0)), (33, (.if_icmp .ne (35), 3, 0, 68, 0, 0, 0)), (36, (.aload_n 0, 1, 0, 0, 0, 0, 0)), (37, (.getfield 52, 3, 3, 3, 0, 0, 0)), (40, (.iload_n 3, 1, 3, 0, 0, 0, 0)), (41, (.invokevirtual 125, 3, 97, 2, 1, 0, 0)), (44, (.ifCond .eq (24), 3, 0, 68, 0, 0, 0)), (47, (.aload_n 0, 1, 0, 0, 0, 0, 0)), (48, (.getfield 52, 3, 3, 3, 0, 0, 0)), (51, (.iload_n 3, 1, 3, 0, 0, 0, 0)), (52, (.iconst 0, 1, 0, 0, 0, 0, 0)), (53, (.invokevirtual 169, 3, 100, 3, 1, 0, 0)), (56, (.aload_n 0, 1, 0, 0, 0, 0, 0)), (57, (.getfield 52, 3, 3, 3, 0, 0, 0)), (60, (.getfield 129, 3, 6, 1, 0, 0, 0)), (63, (.iload_n 3, 1, 3, 0, 0, 0, 0)), (64, (.iaload, 1, 0, 0, 0, 0, 0)), (65, (.if_icmp .ge (7), 3, 0, 72, 0, 0, 0)), (68, (.iconst 1, 1, 0, 0, 0, 1, 0)), (69, (.goto (4), 3, 0, 73, 0, 0, 0)), (72, (.iconst 0, 1, 0, 0, 0, 0, 0)), (73, (.ireturn, 1, 0, 0, 1, 0, 0))]
def cd_159 : List (Nat × Ent) := [(0, (.iconst 1, 1, 0, 0, 0, 1, 0)), (1, (.istore_n 1, 1, 1, 0, 0, 0, 0)), (2, (.iconst 0, 1, 0, 0, 0, 0, 0)), (3, (.istore_n 2, 1, 2, 0, 0, 0, 0)), (4, (.iload_n 2, 1, 2, 0, 0, 0, 0)), (5, (.aload_n 0, 1, 0, 0, 0, 0, 0)), (6, (.getfield 81, 3, 3, 5, 0, 0, 0)), (9, (.if_icmp .ge (18), 3, 0, 27, 0, 0, 0)), (12, (.iload_n 1, 1, 1, 0, 0, 0, 0)), (13, (.aload_n 0, 1, 0, 0, 0, 0, 0)), (14, (.getfield 77, 3, 3, 7, 0, 0, 0)), (17, (.iconst 1, 1, 0, 0, 0, 1, 0)), (18, (.iadd, 1, 0, 0, 0, 0, 0)), (19, (.imul, 1, 0, 0, 0, 0, 0)), (20, (.istore_n 1, 1, 1, 0, 0, 0, 0)), (21, (.iinc 2 (1), 3, 2, 0, 0, 1, 0)), (24, (.goto (-20), 3, 0, 4, 0, 0, 0)), (27, (.iload_n 1, 1, 1, 0, 0, 0, 0)), (28, (.ireturn, 1, 0, 0, 0, 0, 0))]
def cd_160 : List (Nat × Ent) := [(0, (.aload_n 0, 1, 0, 0, 0, 0, 0)), (1, (.getfield 32, 3, 3, 10, 0, 0, 0)), (4, (.iconst 0, 1, 0, 0, 0, 0, 0)), (5, (.invokestatic 88, 3, 2, 2, 0, 0, 0)), (8, (.iconst 0, 1, 0, 0, 0, 0, 0)), (9, (.istore_n 1, 1, 1, 0, 0, 0, 0)), (10, (.iload_n 1, 1, 1, 0, 0, 0, 0)), (11, (.aload_n 0, 1, 0, 0, 0, 0, 0)), (12, (.getfield 81, 3, 3, 5, 0, 0, 0)), (15, (.if_icmp .ge (26), 3, 0, 41, 0, 0, 0)), (18, (.aload_n 0, 1, 0, 0, 0, 0, 0)), (19, (.getfield 32, 3, 3, 10, 0, 0, 0)), (22, (.aload_n 0, 1, 0, 0, 0, 0, 0)), (23, (.getfield 29, 3, 3, 9, 0, 0, 0)), (26, (.iload_n 1, 1, 1, 0, 0, 0, 0)), (27, (.iaload, 1, 0, 0, 0, 0, 0)), (28, (.dup2, 1, 0, 0, 0, 0, 0)), (29, (.iaload, 1, 0, 0, 0, 0, 0)), (30, (.iconst 1, 1, 0, 0, 0, 1, 0)), (31, (.iload_n 1, 1, 1, 0, 0, 0, 0)), (32, (.ishl, 1, 0, 0, 0, 0, 0)), (33, (.ior, 1, 0, 0, 0, 0, 0)), (34, (.iastore, 1, 0, 0, 0, 0, 0)), (35, (.iinc 1 (1), 3, 1, 0, 0, 1, 0)), (38, (.goto (-28), 3, 0, 10, 0, 0, 0)), (41, (.iconst 0, 1, 0, 0, 0, 0, 0)), (42, (.istore_n 1, 1, 1, 0, 0, 0, 0)), (43, (.iconst 0, 1, 0, 0, 0, 0, 0)), (44, (.istore_n 2, 1, 2, 0, 0, 0, 0)), (45, (.iload_n 2, 1, 2, 0, 0, 0, 0)), (46, (.aload_n 0, 1, 0, 0, 0, 0, 0)), (47, (.getfield 77, 3, 3, 7, 0, 0, 0)), (50, (.if_icmp .ge (25), 3, 0, 75, 0, 0, 0)), (53, (.iload_n 1, 1, 1, 0, 0, 0, 0)), (54, (.aload_n 0, 1, 0, 0, 0, 0, 0)), (55, (.getfield 26, 3, 3, 8, 0, 0, 0)), (58, (.iload_n 2, 1, 2, 0, 0, 0, 0)), (59, (.aaload, 1, 0, 0, 30, 0, 0)), (60, (.aload_n 0, 1, 0, 0, 0, 0, 0)), (61, (.getfield 32, 3, 3, 10, 0, 0, 0)), (64, (.iload_n 2, 1, 2, 0, 0, 0, 0)), (65, (.iaload, 1, 0, 0, 0, 0, 0)), (66, (.iaload, 1, 0, 0, 0, 0, 0)), (67, (.iadd, 1, 0, 0, 0, 0, 0)), (68, (.istore_n 1, 1, 1, 0, 0, 0, 0)), (69, (.iinc 2 (1), 3, 2, 0, 0, 1, 0)), (72, (.goto (-27), 3, 0, 45, 0, 0, 0)), (75, (.iload_n 1, 1, 1, 0, 0, 0, 0)), (76, (.ireturn, 1, 0, 0, 0, 0, 0))]
def cd_161 : List (Nat × Ent) := [(0, (.iconst 0, 1, 0, 0, 0, 0, 0)), (1, (.istore_n 1, 1, 1, 0, 0, 0, 0)), (2, (.iload_n 1, 1, 1, 0, 0, 0, 0)), (3, (.aload_n 0, 1, 0, 0, 0, 0, 0)), (4, (.getfield 81, 3, 3, 5, 0, 0, 0)), (7, (.if_icmp .ge (48), 3, 0, 55, 0, 0, 0)), (10, (.aload_n 0, 1, 0, 0, 0, 0, 0)), (11, (.getfield 11, 3, 3, 0, 0, 0, 0)), (14, (.aload_n 0, 1, 0, 0, 0, 0, 0)), (15, (.getfield 18, 3, 3, 4, 0, 0, 0)), (18, (.iload_n 1, 1, 1, 0, 0, 0, 0)), (19, (.iaload, 1, 0, 0, 0, 0, 0)), (20, (.aload_n 0, 1, 0, 0, 0, 0, 0)), (21, (.getfield 29, 3, 3, 9, 0, 0, 0)), (24, (.iload_n 1, 1, 1, 0, 0, 0, 0)), (25, (.iaload, 1, 0, 0, 0, 0, 0)), (26, (.aload_n 0, 1, 0, 0, 0, 0, 0)), (27, (.getfield 77, 3, 3, 7, 0, 0, 0)), (30, (.if_icmp .ge (17), 3, 0, 47, 0, 0, 0)), (33, (.aload_n 0, 1, 0, 0, 0, 0, 0)), (34, (.getfield 21, 3, 3, 6, 0, 0, 0)), (37, (.aload_n 0, 1, 0, 0, 0, 0, 0)), (38, (.getfield 29, 3, 3, 9, 0, 0, 0)), (41, (.iload_n 1, 1, 1, 0, 0, 0, 0)), (42, (.iaload, 1, 0, 0, 0, 0, 0)), (43, (.iaload, 1, 0, 0, 0, 0, 0)), (44, (.goto (4), 3, 0, 48, 0, 0, 0)), (47, (.iconst (-1), 1, 0, 0, 0, (-1), 0)), (48, (.iastore, 1, 0, 0, 0, 0, 0)), (49, (.iinc 1 (1), 3, 1, 0, 0, 1, 0)), (52, (.goto (-50), 3, 0, 2, 0, 0, 0)), (55, (.return_, 1, 0, 0, 0, 0, 0))]
def cd_162 : List (Nat × Ent) := [(0, (.aload_n 0, 1, 0, 0, 0, 0, 0)), (1, (.getfield 81, 3, 3, 5, 0, 0, 0)), (4, (.iconst 1, 1, 0, 0, 0, 1, 0)), (5, (.isub, 1, 0, 0, 0, 0, 0)), (6, (.istore_n 1, 1, 1, 0, 0, 0, 0)), (7, (.iload_n 1, 1, 1, 0, 0, 0, 0)), (8, (.ifCond .lt (40), 3, 0, 48, 0, 0, 0)), (11, (.aload_n 0, 1, 0, 0, 0, 0, 0)), (12, (.getfield 29, 3, 3, 9, 0, 0, 0)), (15, (.iload_n 1, 1, 1, 0, 0, 0, 0)), (16, (.iaload, 1, 0, 0, 0, 0, 0)), (17, (.aload_n 0, 1, 0, 0, 0, 0, 0)), (18, (.getfield 77, 3, 3, 7, 0, 0, 0)), (21, (.if_icmp .ge (14), 3, 0, 35, 0, 0, 0)), (24, (.aload_n 0, 1, 0, 0, 0, 0, 0)), (25, (.getfield 29, 3, 3, 9, 0, 0, 0)), (28, (.iload_n 1, 1, 1, 0, 0, 0, 0)), (29, (.dup2, 1, 0, 0, 0, 0, 0)), (30, (.iaload, 1, 0, 0, 0, 0, 0)), (31, (.iconst 1, 1, 0, 0, 0, 1, 0)), (32, (.iadd, 1, 0, 0, 0, 0, 0)), (33, (.iastore, 1, 0, 0, 0, 0, 0)), (34, (.return_, 1, 0, 0, 0, 0, 0)), (35, (.aload_n 0, 1, 0, 0, 0, 0, 0)), (36, (.getfield 29, 3, 3, 9, 0, 0, 0)), (39, (.iload_n 1, 1, 1, 0, 0, 0, 0)), (40, (.iconst 0, 1, 0, 0, 0, 0, 0)), (41, (.iastore, 1, 0, 0, 0, 0, 0)), (42, (.iinc 1 (-1), 3, 1, 0, 0, (-1), 0)), (45, (.goto (-38), 3, 0, 7, 0, 0, 0)), (48, (.return_, 1, 0, 0, 0, 0, 0))]
def cd_163 : List (Nat × Ent) := [(0, (.iload_n 1, 1, 1, 0, 0, 0, 0)), (1, (.iconst (-1), 1, 0, 0, 0, (-1), 0)), (2, (.if_icmp .eq (14), 3, 0, 16, 0, 0, 0)), (5, (.aload_n 0, 1, 0, 0, 0, 0, 0)), (6, (.iload_n 1, 1, 1, 0, 0, 0, 0)), (7, (.invokevirtual 116, 3, 94, 2, 1, 0, 0)), (10, (.ifCond .ne (6), 3, 0, 16, 0, 0, 0)), (13, (.bipush (-2), 2, 0, 0, 0, (-2), 0)), (15, (.ireturn, 1, 0, 0, 0, 0, 0)), (16, (.aload_n 0, 1, 0, 0, 0, 0, 0)), (17, (.getfield 66, 3, 11, 11, 0, 0, 0)), (20, (.invokevirtual 283, 3, 164, 1, 1, 0, 0)), (23, (.istore_n 2, 1, 2, 0, 0, 0, 0)), (24, (.iload_n 1, 1, 1, 0, 0, 0, 0)), (25, (.iconst (-1), 1, 0, 0, 0, (-1), 0)), (26, (.if_icmp .ne (7), 3, 0, 33, 0, 0, 0)), (29, (.iload_n 2, 1, 2, 0, 0, 0, 0)), (30, (.goto (12), 3, 0, 42, 0, 0, 0)), (33, (.aload_n 0, 1, 0, 0, 0, 0, 0)), (34, (.getfield 66, 3, 11, 11, 0, 0, 0)), (37, (.getfield 286, 3, 3, 1, 0, 0, 0)), (40, (.iload_n 1, 1, 1, 0, 0, 0, 0)), (41, (.iaload, 1, 0, 0, 0, 0, 0)), (42, (.ireturn, 1, 0, 0, 0, 0, 0))]
def cd_164 : List (Nat × Ent) := [(0, (.aload_n 0, 1, 0, 0, 0, 0, 0)), (1, (.invokevirtual 173, 3, 165, 1, 0, 0, 0)), (4, (.aload_n 0, 1, 0, 0, 0, 0, 0)), (5, (.invokevirtual 176, 3, 166, 1, 0, 0, 0)), (8, (.iconst 0, 1, 0, 0, 0, 0, 0)), (9, (.istore_n 1, 1, 1, 0, 0, 0, 0)), (10, (.iconst 0, 1, 0, 0, 0, 0, 0)), (11, (.istore_n 2, 1, 2, 0, 0, 0, 0)), (12, (.iload_n 2, 1, 2, 0, 0, 0, 0)), (13, (.aload_n 0, 1, 0, 0, 0, 0, 0)), (14, (.getfield 48, 3, 3, 2, 0, 0, 0)), (17, (.getfield 122, 3, 9, 2, 0, 0, 0)), (20, (.getfield 110, 3, 4, 0, 0, 0, 0)), (23, (.if_icmp .ge (46), 3, 0, 69, 0, 0, 0)), (26, (.aload_n 0, 1, 0, 0, 0, 0, 0)), (27, (.getfield 15, 3, 3, 1, 0, 0, 0)), (30, (.iload_n 2, 1, 2, 0, 0, 0, 0)), (31, (.aload_n 0, 1, 0, 0, 0, 0, 0)), (32, (.iload_n 2, 1, 2, 0, 0, 0, 0)), (33, (.iload_n 1, 1, 1, 0, 0, 0, 0)), (34, (.invokevirtual 179, 3, 167, 3, 1, 0, 0)), (37, (.iastore, 1, 0, 0, 0, 0, 0)), (38, (.iload_n 1, 1, 1, 0, 0, 0, 0)), (39, (.aload_n 0, 1, 0, 0, 0, 0, 0)), (40, (.getfield 15, 3, 3, 1, 0, 0, 0)), (43, (.iload_n 2, 1, 2, 0, 0, 0, 0)), (44, (.iaload, 1, 0, 0, 0, 0, 0)), (45, (.iconst (-1), 1, 0, 0, 0, (-1), 0)), (46, (.if_icmp .ne (7), 3, 0, 53, 0, 0, 0)), (49, (.iconst 0, 1, 0, 0, 0, 0, 0)), (50, (.goto (11), 3, 0, 61, 0, 0, 0)), (53, (.iconst 1, 1, 0, 0, 0, 1, 0)), (54, (.aload_n 0, 1, 0, 0, 0, 0, 0)), (55, (.getfield 15, 3, 3, 1, 0, 0, 0)), (58, (.iload_n 2, 1, 2, 0, 0, 0, 0)), (59, (.iaload, 1, 0, 0, 0, 0, 0)), (60, (.ishl, 1, 0, 0, 0, 0, 0)), (61, (.ior, 1, 0, 0, 0, 0, 0)), (62, (.istore_n 1, 1, 1, 0, 0, 0, 0)), (63, (.iinc 2 (1), 3, 2, 0, 0, 1, 0)), (66, (.goto (-54), 3, 0, 12, 0, 0, 0)), (69, (.aload_n 0, 1, 0, 0, 0, 0, 0)), (70, (.getfield 38, 3, 3, 12, 0, 0, 0)), (73, (.iconst 0, 1, 0, 0, 0, 0, 0)), (74, (.aaload, 1, 0, 0, 32, 0, 0)), (75, (.iconst 0, 1, 0, 0, 0, 0, 0)), (76, (.iaload, 1, 0, 0, 0, 0, 0)), (77, (.sipush (1000), 3, 0, 0, 0, 1000, 0)), (80, (.irem, 1, 0, 0, 0, 0, 0)), (81, (.ireturn, 1, 0, 0, 0, 0, 0))]
def cd_165 : List (Nat × Ent) := [(0, (.iconst 0, 1, 0, 0, 0, 0, 0)), (1, (.istore_n 1, 1, 1, 0, 0, 0, 0)), (2, (.iload_n 1, 1, 1, 0, 0, 0, 0)), (3, (.aload_n 0, 1, 0, 0, 0, 0, 0)), (4, (.getfield 48, 3, 3, 2, 0, 0, 0)), (7, (.getfield 122, 3, 9, 2, 0, 0, 0)), (10, (.getfield 110, 3, 4, 0, 0, 0, 0)), (13, (.if_icmp .ge (87), 3, 0, 100, 0, 0, 0)), (16, (.iconst 0, 1, 0, 0, 0, 0, 0)), (17, (.istore_n 2, 1, 2, 0, 0, 0, 0)), (18, (.iload_n 2, 1, 2, 0, 0, 0, 0)), (19, (.aload_n 0, 1, 0, 0, 0, 0, 0)), (20, (.getfield 48, 3, 3, 2, 0, 0, 0)), (23, (.getfield 182, 3, 9, 0, 0, 0, 0)), (26, (.getfield 110, 3, 4, 0, 0, 0, 0)), (29, (.if_icmp .ge (65), 3, 0, 94, 0, 0, 0)), (32, (.aload_n 0, 1, 0, 0, 0, 0, 0)), (33, (.getfield 35, 3, 3, 11, 0, 0, 0)), (36, (.iload_n 1, 1, 1, 0, 0, 0, 0)), (37, (.aaload, 1, 0, 0, 31, 0, 0)), (38, (.iload_n 2, 1, 2, 0, 0, 0, 0)), (39, (.aload_n 0, 1, 0, 0, 0, 0, 0)), (40, (.getfield 52, 3, 3, 3, 0, 0, 0)), (43, (.iload_n 1, 1, 1, 0, 0, 0, 0)), (44, (.iload_n 2, 1, 2, 0, 0, 0, 0)), (45, (.invokevirtual 185, 3, 118, 3, 1, 0, 0)), (48, (.ifCond .ne (7), 3, 0, 55, 0, 0, 0)), (51, (.iconst 0, 1, 0, 0, 0, 0, 0)), (52, (.goto (35), 3, 0, 87, 0, 0, 0)), (55, (.sipush (1000), 3, 0, 0, 0, 1000, 0)), (58, (.aload_n 0, 1, 0, 0, 0, 0, 0)), (59, (.getfield 48, 3, 3, 2, 0, 0, 0)), (62, (.iload_n 1, 1, 1, 0, 0, 0, 0)), (63, (.iload_n 2, 1, 2, 0, 0, 0, 0)), (64, (.aload_n 0, 1, 0, 0, 0, 0, 0)), (65, (.getfield 48, 3, 3, 2, 0, 0, 0)), (68, (.getfield 188, 3, 9, 7, 0, 0, 0)), (71, (.iload_n 1, 1, 1, 0, 0, 0, 0)), (72, (.iaload, 1, 0, 0, 0, 0, 0)), (73, (.iconst 0, 1, 0, 0, 0, 0, 0)), (74, (.aload_n 0, 1, 0, 0, 0, 0, 0)), (75, (.getfield 52, 3, 3, 3, 0, 0, 0)), (78, (.getfield 150, 3, 6, 0, 0, 0, 0)), (81, (.bipush (40), 2, 0, 0, 0, 40, 0)), (83, (.invokevirtual 189, 3, 148, 7, 1, 0, 0)), (86, (.iadd, 1, 0, 0, 0, 0, 0)), (87, (.iastore, 1, 0, 0, 0, 0, 0)), (88, (.iinc 2 (1), 3, 2, 0, 0, 1, 0)), (91, (.goto (-73), 3, 0, 18, 0, 0, 0)), (94, (.iinc 1 (1), 3, 1, 0, 0, 1, 0)), (97, (.goto (-95), 3, 0, 2, 0, 0, 0)), (100, (.return_, 1, 0, 0, 0, 0, 0))]
def cd_166 : List (Nat × Ent) := [(0, (.iconst 1, 1, 0, 0, 0, 1, 0)), (1, (.aload_n 0, 1, 0, 0, 0, 0, 0)), (2, (.getfield 48, 3, 3, 2, 0, 0, 0)), (5, (.getfield 182, 3, 9, 0, 0, 0, 0)), (8, (.getfield 110, 3, 4, 0, 0, 0, 0)), (11, (.ishl, 1, 0, 0, 0, 0, 0)), (12, (.istore_n 1, 1, 1, 0, 0, 0, 0)), (13, (.aload_n 0, 1, 0, 0, 0, 0, 0)), (14, (.getfield 38, 3, 3, 12, 0, 0, 0)), (17, (.aload_n 0, 1, 0, 0, 0, 0, 0)), (18, (.getfield 48, 3, 3, 2, 0, 0, 0)), (21, (.getfield 122, 3, 9, 2, 0, 0, 0)), (24, (.getfield 110, 3, 4, 0, 0, 0, 0)), (27, (.aaload, 1, 0, 0, 32, 0, 0)), (28, (.iconst 0, 1, 0, 0, 0, 0, 0)), (29, (.invokestatic 88, 3, 2, 2, 0, 0, 0)), (32, (.aload_n 0, 1, 0, 0, 0, 0, 0)), (33, (.getfield 48, 3, 3, 2, 0, 0, 0)), (36, (.getfield 122, 3, 9, 2, 0, 0, 0)), (39, (.getfield 110, 3, 4, 0, 0, 0, 0)), (42, (.iconst 1, 1, 0, 0, 0, 1, 0)), (43, (.isub, 1, 0, 0, 0, 0, 0)), (44, (.istore_n 2, 1, 2, 0, 0, 0, 0)), (45, (.iload_n 2, 1, 2, 0, 0, 0, 0)), (46, (.ifCond .lt (121), 3, 0, 167, 0, 0, 0)), (49, (.iconst 0, 1, 0, 0, 0, 0, 0)), (50, (.istore_n 3, 1, 3, 0, 0, 0, 0)), (51, (.iload_n 3, 1, 3, 0, 0, 0, 0)), (52, (.iload_n 1, 1, 1, 0, 0, 0, 0)), (53, (.if_icmp .ge (108), 3, 0, 161, 0, 0, 0)), (56, (.aload_n 0, 1, 0, 0, 0, 0, 0)), (57, (.getfield 38, 3, 3, 12, 0, 0, 0)), (60, (.iload_n 2, 1, 2, 0, 0, 0, 0)), (61, (.iconst 1, 1, 0, 0, 0, 1, 0)), (62, (.iadd, 1, 0, 0, 0, 0, 0)), (63, (.aaload, 1, 0, 0, 32, 0, 0)), (64, (.iload_n 3, 1, 3, 0, 0, 0, 0)), (65, (.iaload, 1, 0, 0, 0, 0, 0)), (66, (.istore 4, 2, 4, 0, 0, 0, 0)), (68, (.iconst 0, 1, 0, 0, 0, 0, 0)), (69, (.istore 5, 2, 5, 0, 0, 0, 0)), (71, (.iload 5, 2, 5, 0, 0, 0, 0)), (73, (.aload_n 0, 1, 0, 0, 0, 0, 0)), (74, (.getfield 48, 3, 3, 2, 0, 0, 0)), (77, (.getfield 182, 3, 9, 0, 0, 0, 0)), (80, (.getfield 110, 3, 4, 0, 0, 0, 0)), (83, (.if_icmp .ge (62), 3, 0, 145, 0, 0, 0)), (86, (.aload_n 0, 1, 0, 0, 0, 0, 0)), (87, (.getfield 35, 3, 3, 11, 0, 0, 0)), (90, (.iload_n 2, 1, 2, 0, 0, 0, 0)), (91, (.aaload, 1, 0, 0, 31, 0, 0)), (92, (.iload 5, 2, 5, 0, 0, 0, 0)), (94, (.iaload, 1, 0, 0, 0, 0, 0)), (95, (.ifCond .le (44), 3, 0, 139, 0, 0, 0)), (98, (.iload_n 3, 1, 3, 0, 0, 0, 0)), (99, (.iload 5, 2, 5, 0, 0, 0, 0)), (101, (.invokestatic 118, 3, 64, 2, 1, 0, 0)), (104, (.ifCond .ne (35), 3, 0, 139, 0, 0, 0)), (107, (.iload 4, 2, 4, 0, 0, 0, 0)), (109, (.aload_n 0, 1, 0, 0, 0, 0, 0)), (110, (.getfield 35, 3, 3, 11, 0, 0, 0)), (113, (.iload_n 2, 1, 2, 0, 0, 0, 0)), (114, (.aaload, 1, 0, 0, 31, 0, 0)), (115, (.iload 5, 2, 5, 0, 0, 0, 0)), (117, (.iaload, 1, 0, 0, 0, 0, 0)), (118, (.aload_n 0, 1, 0, 0, 0, 0, 0)), (119, (.getfield 38, 3, 3, 12, 0, 0, 0)), (122, (.iload_n 2, 1, 2, 0, 0, 0, 0)), (123, (.iconst 1, 1, 0, 0, 0, 1, 0)), (124, (.iadd, 1, 0, 0, 0, 0, 0)), (125, (.aaload, 1, 0, 0, 32, 0, 0)), (126, (.iload_n 3, 1, 3, 0, 0, 0, 0)), (127, (.iconst 1, 1, 0, 0, 0, 1, 0)), (128, (.iload 5, 2, 5, 0, 0, 0, 0)), (130, (.ishl, 1, 0, 0, 0, 0, 0)), (131, (.ior, 1, 0, 0, 0, 0, 0)), (132, (.iaload, 1, 0, 0, 0, 0, 0)), (133, (.iadd, 1, 0, 0, 0, 0, 0)), (134, (.invokestatic 193, 3, 21, 2, 1, 0, 0)), (137, (.istore 4, 2, 4, 0, 0, 0, 0)), (139, (.iinc 5 (1), 3, 5, 0, 0, 1, 0)), (142, (.goto (-71), 3, 0, 71, 0, 0, 0)), (145, (.aload_n 0, 1, 0, 0, 0, 0, 0)), (146, (.getfield 38, 3, 3, 12, 0, 0, 0)), (149, (.iload_n 2, 1, 2, 0, 0, 0, 0)), (150, (.aaload, 1, 0, 0, 32, 0, 0)), (151, (.iload_n 3, 1, 3, 0, 0, 0, 0)), (152, (.iload 4, 2, 4, 0, 0, 0, 0)), (154, (.iastore, 1, 0, 0, 0, 0, 0)), (155, (.iinc 3 (1), 3, 3, 0, 0, 1, 0)), (158, (.goto (-107), 3, 0, 51, 0, 0, 0)), (161, (.iinc 2 (-1), 3, 2, 0, 0, (-1), 0)), (164, (.goto (-119), 3, 0, 45, 0, 0, 0)), (167, (.return_, 1, 0, 0, 0, 0, 0))]
def cd_167 : List (Nat × Ent) := [(0, (.iconst 0, 1, 0, 0, 0, 0, 0)), (1, (.istore_n 3, 1, 3, 0, 0, 0, 0)), (2, (.iload_n 3, 1, 3, 0, 0, 0, 0)), (3, (.aload_n 0, 1, 0, 0, 0, 0, 0)), (4, (.getfield 48, 3, 3, 2, 0, 0, 0)), (7, (.getfield 182, 3, 9, 0, 0, 0, 0)), (10, (.getfield 110, 3, 4, 0, 0, 0, 0)), (13, (.if_icmp .ge (64), 3, 0, 77, 0, 0, 0)), (16, (.aload_n 0, 1, 0, 0, 0, 0, 0)), (17, (.getfield 35, 3, 3, 11, 0, 0, 0)), (20, (.iload_n 1, 1, 1, 0, 0, 0, 0)), (21, (.aaload, 1, 0, 0, 31, 0, 0)), (22, (.iload_n 3, 1, 3, 0, 0, 0, 0)), (23, (.iaload, 1, 0, 0, 0, 0, 0)), (24, (.ifCond .le (47), 3, 0, 71, 0, 0, 0)), (27, (.iload_n 2, 1, 2, 0, 0, 0, 0)), (28, (.iload_n 3, 1, 3, 0, 0, 0, 0)), (29, (.invokestatic 118, 3, 64, 2, 1, 0, 0)), (32, (.ifCond .ne (39), 3, 0, 71, 0, 0, 0)), (35, (.aload_n 0, 1, 0, 0, 0, 0, 0)), (36, (.getfield 35, 3, 3, 11, 0, 0, 0)), (39, (.iload_n 1, 1, 1, 0, 0, 0, 0)), (40, (.aaload, 1, 0, 0, 31, 0, 0)), (41, (.iload_n 3, 1, 3, 0, 0, 0, 0)), (42, (.iaload, 1, 0, 0, 0, 0, 0)), (43, (.aload_n 0, 1, 0, 0, 0, 0, 0)), (44, (.getfield 38, 3, 3, 12, 0, 0, 0)), (47, (.iload_n 1, 1, 1, 0, 0, 0, 0)), (48, (.iconst 1, 1, 0, 0, 0, 1, 0)), (49, (.iadd, 1, 0, 0, 0, 0, 0)), (50, (.aaload, 1, 0, 0, 32, 0, 0)), (51, (.iload_n 2, 1, 2, 0, 0, 0, 0)), (52, (.iconst 1, 1, 0, 0, 0, 1, 0)), (53, (.iload_n 3, 1, 3, 0, 0, 0, 0)), (54, (.ishl, 1, 0, 0, 0, 0, 0)), (55, (.ior, 1, 0, 0, 0, 0, 0)), (56, (.iaload, 1, 0, 0, 0, 0, 0)), (57, (.iadd, 1, 0, 0, 0, 0, 0)), (58, (.aload_n 0, 1, 0, 0, 0, 0, 0)), (59, (.getfield 38, 3, 3, 12, 0, 0, 0)), (62, (.iload_n 1, 1, 1, 0, 0, 0, 0)), (63, (.aaload, 1, 0, 0, 32, 0, 0)), (64, (.iload_n 2, 1, 2, 0, 0, 0, 0)), (65, (.iaload, 1, 0, 0, 0, 0, 0)), (66, (.if_icmp .ne (5), 3, 0, 71, 0, 0, 0)), (69, (.iload_n 3, 1, 3, 0, 0, 0, 0)), (70, (.ireturn, 1, 0, 0, 0, 0, 0)), (71, (.iinc 3 (1), 3, 3, 0, 0, 1, 0)), (74, (.goto (-72), 3, 0, 2, 0, 0, 0)), (77, (.iconst (-1), 1, 0, 0, 0, (-1), 0)), (78, (.ireturn, 1, 0, 0, 0, 0, 0))]
def cd_168 : List (Nat × Ent) := [(0, (.aload_n 0, 1, 0, 0, 0, 0, 0)), (1, (.iload_n 1, 1, 1, 0, 0, 0, 0)), (2, (.invokevirtual 116, 3, 94, 2, 1, 0, 0)), (5, (.ifCond .eq (22), 3, 0, 27, 0, 0, 0)), (8, (.aload_n 0, 1, 0, 0, 0, 0, 0)), (9, (.iload_n 2, 1, 2, 0, 0, 0, 0)), (10, (.invokevirtual 213, 3, 117, 2, 1, 0, 0)), (13, (.ifCond .eq (14), 3, 0, 27, 0, 0, 0)), (16, (.iload_n 3, 1, 3, 0, 0, 0, 0)), (17, (.iconst 1, 1, 0, 0, 0, 1, 0)), (18, (.if_icmp .lt (9), 3, 0, 27, 0, 0, 0)), (21, (.iload_n 3, 1, 3, 0, 0, 0, 0)), (22, (.bipush (30), 2, 0, 0, 0, 30, 0)), (24, (.if_icmp .le (5), 3, 0, 29, 0, 0, 0)), (27, (.iconst (-1), 1, 0, 0, 0, (-1), 0)), (28, (.ireturn, 1, 0, 0, 0, 0, 0)), (29, (.iconst 1, 1, 0, 0, 0, 1, 0)), (30, (.istore 4, 2, 4, 0, 0, 0, 0)), (32, (.iload 4, 2, 4, 0, 0, 0, 0)), (34, (.bipush (40), 2, 0, 0, 0, 40, 0)), (36, (.if_icmp .gt (36), 3, 0, 72, 0, 0, 0)), (39, (.aload_n 0, 1, 0, 0, 0, 0, 0)), (40, (.getfield 19, 3, 11, 1, 0, 0, 0)), (43, (.iload_n 1, 1, 1, 0, 0, 0, 0)), (44, (.iload_n 2, 1, 2, 0, 0, 0, 0)), (45, (.iload 4, 2, 4, 0, 0, 0, 0)), (47, (.iconst 0, 1, 0, 0, 0, 0, 0)), (48, (.aload_n 0, 1, 0, 0, 0, 0, 0)), (49, (.getfield 50, 3, 11, 6, 0, 0, 0)), (52, (.getfield 197, 3, 6, 0, 0, 0, 0)), (55, (.iload_n 3, 1, 3, 0, 0, 0, 0)), (56, (.invokevirtual 289, 3, 148, 7, 1, 0, 0)), (59, (.iload_n 3, 1, 3, 0, 0, 0, 0)), (60, (.if_icmp .le (6), 3, 0, 66, 0, 0, 0)), (63, (.iload 4, 2, 4, 0, 0, 0, 0)), (65, (.ireturn, 1, 0, 0, 0, 0, 0)), (66, (.iinc 4 (1), 3, 4, 0, 0, 1, 0)), (69, (.goto (-37), 3, 0, 32, 0, 0, 0)), (72, (.iconst (-1), 1, 0, 0, 0, (-1), 0)), (73, (.ireturn, 1, 0, 0, 0, 0, 0))]
def cd_169 : List (Nat × Ent) := [(0, (.aload_n 0, 1, 0, 0, 0, 0, 0)), (1, (.iload_n 1, 1, 1, 0, 0, 0, 0)), (2, (.invokevirtual 116, 3, 94, 2, 1, 0, 0)), (5, (.ifCond .eq (25), 3, 0, 30, 0, 0, 0)), (8, (.aload_n 0, 1, 0, 0, 0, 0, 0)), (9, (.getfield 50, 3, 11, 6, 0, 0, 0)), (12, (.iload_n 1, 1, 1, 0, 0, 0, 0)), (13, (.invokevirtual 150, 3, 97, 2, 1, 0, 0)), (16, (.ifCond .eq (14), 3, 0, 30, 0, 0, 0)), (19, (.iload_n 2, 1, 2, 0, 0, 0, 0)), (20, (.iconst 1, 1, 0, 0, 0, 1, 0)), (21, (.if_icmp .lt (9), 3, 0, 30, 0, 0, 0)), (24, (.iload_n 2, 1, 2, 0, 0, 0, 0)), (25, (.bipush (8), 2, 0, 0, 0, 8, 0)), (27, (.if_icmp .le (5), 3, 0, 32, 0, 0, 0)), (30, (.iconst (-1), 1, 0, 0, 0, (-1), 0)), (31, (.ireturn, 1, 0, 0, 0, 0, 0)), (32, (.aload_n 0, 1, 0, 0, 0, 0, 0)), (33, (.getfield 66, 3, 11, 11, 0, 0, 0)), (36, (.iload_n 1, 1, 1, 0, 0, 0, 0)), (37, (.iload_n 2, 1, 2, 0, 0, 0, 0)), (38, (.invokevirtual 292, 3, 170, 3, 1, 0, 0)), (41, (.ireturn, 1, 0, 0, 0, 0, 0))]
def cd_170 : List (Nat × Ent) := [(0, (.aload_n 0, 1, 0, 0, 0, 0, 0)), (1, (.getfield 41, 3, 3, 13, 0, 0, 0)), (4, (.lconst 0, 1, 0, 0, 0, 0, 0)), (5, (.invokestatic 198, 3, 171, 2, 0, 0, 0)), (8, (.aload_n 0, 1, 0, 0, 0, 0, 0)), (9, (.getfield 41, 3, 3, 13, 0, 0, 0)), (12, (.aload_n 0, 1, 0, 0, 0, 0, 0)), (13, (.getfield 52, 3, 3, 3, 0, 0, 0)), (16, (.getfield 129, 3, 6, 1, 0, 0, 0)), (19, (.iload_n 1, 1, 1, 0, 0, 0, 0)), (20, (.iaload, 1, 0, 0, 0, 0, 0)), (21, (.lconst 1, 1, 0, 0, 0, 0, 1)), (22, (.lastore, 1, 0, 0, 0, 0, 0)), (23, (.lconst 1, 1, 0, 0, 0, 0, 1)), (24, (.lstore_n 3, 1, 3, 0, 0, 0, 0)), (25, (.iconst 0, 1, 0, 0, 0, 0, 0)), (26, (.istore 5, 2, 5, 0, 0, 0, 0)), (28, (.iload 5, 2, 5, 0, 0, 0, 0)), (30, (.iload_n 2, 1, 2, 0, 0, 0, 0)), (31, (.if_icmp .ge (93), 3, 0, 124, 0, 0, 0)), (34, (.aload_n 0, 1, 0, 0, 0, 0, 0)), (35, (.getfield 48, 3, 3, 2, 0, 0, 0)), (38, (.aload_n 0, 1, 0, 0, 0, 0, 0)), (39, (.getfield 52, 3, 3, 3, 0, 0, 0)), (42, (.getfield 150, 3, 6, 0, 0, 0, 0)), (45, (.iload 5, 2, 5, 0, 0, 0, 0)), (47, (.iadd, 1, 0, 0, 0, 0, 0)), (48, (.invokevirtual 153, 3, 101, 2, 1, 0, 0)), (51, (.istore 6, 2, 6, 0, 0, 0, 0)), (53, (.aload_n 0, 1, 0, 0, 0, 0, 0)), (54, (.getfield 45, 3, 3, 14, 0, 0, 0)), (57, (.lconst 0, 1, 0, 0, 0, 0, 0)), (58, (.invokestatic 198, 3, 171, 2, 0, 0, 0)), (61, (.aload_n 0, 1, 0, 0, 0, 0, 0)), (62, (.iload_n 1, 1, 1, 0, 0, 0, 0)), (63, (.iload 6, 2, 6, 0, 0, 0, 0)), (65, (.bipush (10), 2, 0, 0, 0, 10, 0)), (67, (.aload_n 0, 1, 0, 0, 0, 0, 0)), (68, (.getfield 48, 3, 3, 2, 0, 0, 0)), (71, (.getfield 201, 3, 9, 15, 0, 0, 0)), (74, (.isub, 1, 0, 0, 0, 0, 0)), (75, (.invokevirtual 204, 3, 172, 4, 0, 0, 0)), (78, (.aload_n 0, 1, 0, 0, 0, 0, 0)), (79, (.iload_n 1, 1, 1, 0, 0, 0, 0)), (80, (.iload 6, 2, 6, 0, 0, 0, 0)), (82, (.iconst 3, 1, 0, 0, 0, 3, 0)), (83, (.iadd, 1, 0, 0, 0, 0, 0)), (84, (.aload_n 0, 1, 0, 0, 0, 0, 0)), (85, (.getfield 48, 3, 3, 2, 0, 0, 0)), (88, (.getfield 201, 3, 9, 15, 0, 0, 0)), (91, (.invokevirtual 204, 3, 172, 4, 0, 0, 0)), (94, (.aload_n 0, 1, 0, 0, 0, 0, 0)), (95, (.getfield 45, 3, 3, 14, 0, 0, 0)), (98, (.iconst 0, 1, 0, 0, 0, 0, 0)), (99, (.aload_n 0, 1, 0, 0, 0, 0, 0)), (100, (.getfield 41, 3, 3, 13, 0, 0, 0)), (103, (.iconst 0, 1, 0, 0, 0, 0, 0)), (104, (.aload_n 0, 1, 0, 0, 0, 0, 0)), (105, (.getfield 41, 3, 3, 13, 0, 0, 0)), (108, (.arraylength, 1, 0, 0, 0, 0, 0)), (109, (.invokestatic 210, 3, 0, 0, 9, 0, 0)), (112, (.lload_n 3, 1, 3, 0, 0, 0, 0)), (113, (.ldc2_w 216, 3, 0, 0, 0, 0, 10)), (116, (.lmul, 1, 0, 0, 0, 0, 0)), (117, (.lstore_n 3, 1, 3, 0, 0, 0, 0)), (118, (.iinc 5 (1), 3, 5, 0, 0, 1, 0)), (121, (.goto (-93), 3, 0, 28, 0, 0, 0)), (124, (.lconst 0, 1, 0, 0, 0, 0, 0)), (125, (.lstore 5, 2, 5, 0, 0, 0, 0)), (127, (.iconst 1, 1, 0, 0, 0, 1, 0)), (128, (.istore 7, 2, 7, 0, 0, 0, 0)), (130, (.iload 7, 2, 7, 0, 0, 0, 0)), (132, (.aload_n 0, 1, 0, 0, 0, 0, 0)), (133, (.getfield 41, 3, 3, 13, 0, 0, 0)), (136, (.arraylength, 1, 0, 0, 0, 0, 0)), (137, (.if_icmp .ge (21), 3, 0, 158, 0, 0, 0)), (140, (.lload 5, 2, 5, 0, 0, 0, 0)), (142, (.aload_n 0, 1, 0, 0, 0, 0, 0)), (143, (.getfield 41, 3, 3, 13, 0, 0, 0)), (146, (.iload 7, 2, 7, 0, 0, 0, 0)), (148, (.laload, 1, 0, 0, 0, 0, 0)), (149, (.ladd, 1, 0, 0, 0, 0, 0)), (150, (.lstore 5, 2, 5, 0, 0, 0, 0)), (152, (.iinc 7 (1), 3, 7, 0, 0, 1, 0)), (155, (.goto (-25), 3, 0, 130, 0, 0, 0)), (158, (.lload_n 3, 1, 3, 0, 0, 0, 0)), (159, (.lconst 1, 1, 0, 0, 0, 0, 1)), (160, (.lcmp, 1, 0, 0, 0, 0, 0)), (161, (.ifCond .ge (7), 3, 0, 168, 0, 0, 0)), (164, (.iconst 0, 1, 0, 0, 0, 0, 0)), (165, (.goto (12), 3, 0, 177, 0, 0, 0)), (168, (.lload 5, 2, 5, 0, 0, 0, 0)), (170, (.ldc2_w 218, 3, 0, 0, 0, 0, 1000000)), (173, (.lmul, 1, 0, 0, 0, 0, 0)), (174, (.lload_n 3, 1, 3, 0, 0, 0, 0)), (175, (.ldiv, 1, 0, 0, 0, 0, 0)), (176, (.l2i, 1, 0, 0, 0, 0, 0)), (177, (.ireturn, 1, 0, 0, 0, 0, 0))]
def cd_171 : List (Nat × Ent) := [(0, (.iconst 0, 1, 0, 0, 0, 0, 0)), (1, (.istore_n 3, 1, 3, 0, 0, 0, 0)), (2, (.aload_n 0, 1, 0, 0, 0, 0, 0)), (3, (.arraylength, 1, 0, 0, 0, 0, 0)), (4, (.istore 4, 2, 4, 0, 0, 0, 0)), (6, (.iload_n 3, 1, 3, 0, 0, 0, 0)), (7, (.iload 4, 2, 4, 0, 0, 0, 0)), (9, (.if_icmp .ge (13), 3, 0, 22, 0, 0, 0)), (12, (.aload_n 0, 1, 0, 0, 0, 0, 0)), (13, (.iload_n 3, 1, 3, 0, 0, 0, 0)), (14, (.lload_n 1, 1, 1, 0, 0, 0, 0)), (15, (.lastore, 1, 0, 0, 0, 0, 0)), (16, (.iinc 3 (1), 3, 3, 0, 0, 1, 0)), (19, (.goto (-13), 3, 0, 6, 0, 0, 0)), (22, (.return_, 1, 0, 0, 0, 0, 0))]
def cd_172 : List (Nat × Ent) := [(0, (.iconst 1, 1, 0, 0, 0, 1, 0)), (1, (.istore 4, 2, 4, 0, 0, 0, 0)), (3, (.iload 4, 2, 4, 0, 0, 0, 0)), (5, (.aload_n 0, 1, 0, 0, 0, 0, 0)), (6, (.getfield 41, 3, 3, 13, 0, 0, 0)), (9, (.arraylength, 1, 0, 0, 0, 0, 0)), (10, (.if_icmp .ge (83), 3, 0, 93, 0, 0, 0)), (13, (.aload_n 0, 1, 0, 0, 0, 0, 0)), (14, (.getfield 41, 3, 3, 13, 0, 0, 0)), (17, (.iload 4, 2, 4, 0, 0, 0, 0)), (19, (.laload, 1, 0, 0, 0, 0, 0)), (20, (.lconst 0, 1, 0, 0, 0, 0, 0)), (21, (.lcmp, 1, 0, 0, 0, 0, 0)), (22, (.ifCond .le (65), 3, 0, 87, 0, 0, 0)), (25, (.iload_n 3, 1, 3, 0, 0, 0, 0)), (26, (.ifCond .le (61), 3, 0, 87, 0, 0, 0)), (29, (.iload 4, 2, 4, 0, 0, 0, 0)), (31, (.aload_n 0, 1, 0, 0, 0, 0, 0)), (32, (.getfield 48, 3, 3, 2, 0, 0, 0)), (35, (.iload_n 1, 1, 1, 0, 0, 0, 0)), (36, (.aload_n 0, 1, 0, 0, 0, 0, 0)), (37, (.getfield 52, 3, 3, 3, 0, 0, 0)), (40, (.getfield 144, 3, 6, 4, 0, 0, 0)), (43, (.iload_n 1, 1, 1, 0, 0, 0, 0)), (44, (.iaload, 1, 0, 0, 0, 0, 0)), (45, (.iload 4, 2, 4, 0, 0, 0, 0)), (47, (.aload_n 0, 1, 0, 0, 0, 0, 0)), (48, (.getfield 52, 3, 3, 3, 0, 0, 0)), (51, (.getfield 147, 3, 6, 3, 0, 0, 0)), (54, (.iload_n 1, 1, 1, 0, 0, 0, 0)), (55, (.iaload, 1, 0, 0, 0, 0, 0)), (56, (.iload_n 2, 1, 2, 0, 0, 0, 0)), (57, (.invokevirtual 156, 3, 103, 6, 1, 0, 0)), (60, (.isub, 1, 0, 0, 0, 0, 0)), (61, (.istore 5, 2, 5, 0, 0, 0, 0)), (63, (.aload_n 0, 1, 0, 0, 0, 0, 0)), (64, (.getfield 45, 3, 3, 14, 0, 0, 0)), (67, (.iconst 0, 1, 0, 0, 0, 0, 0)), (68, (.iload 5, 2, 5, 0, 0, 0, 0)), (70, (.invokestatic 193, 3, 21, 2, 1, 0, 0)), (73, (.dup2, 1, 0, 0, 0, 0, 0)), (74, (.laload, 1, 0, 0, 0, 0, 0)), (75, (.aload_n 0, 1, 0, 0, 0, 0, 0)), (76, (.getfield 41, 3, 3, 13, 0, 0, 0)), (79, (.iload 4, 2, 4, 0, 0, 0, 0)), (81, (.laload, 1, 0, 0, 0, 0, 0)), (82, (.iload_n 3, 1, 3, 0, 0, 0, 0)), (83, (.i2l, 1, 0, 0, 0, 0, 0)), (84, (.lmul, 1, 0, 0, 0, 0, 0)), (85, (.ladd, 1, 0, 0, 0, 0, 0)), (86, (.lastore, 1, 0, 0, 0, 0, 0)), (87, (.iinc 4 (1), 3, 4, 0, 0, 1, 0)), (90, (.goto (-87), 3, 0, 3, 0, 0, 0)), (93, (.return_, 1, 0, 0, 0, 0, 0))]
def cd_173 : List (Nat × Ent) := [(0, (.iload_n 1, 1, 1, 0, 0, 0, 0)), (1, (.iconst 1, 1, 0, 0, 0, 1, 0)), (2, (.if_icmp .lt (9), 3, 0, 11, 0, 0, 0)), (5, (.iload_n 1, 1, 1, 0, 0, 0, 0)), (6, (.bipush (30), 2, 0, 0, 0, 30, 0)), (8, (.if_icmp .le (5), 3, 0, 13, 0, 0, 0)), (11, (.iconst (-1), 1, 0, 0, 0, (-1), 0)), (12, (.ireturn, 1, 0, 0, 0, 0, 0)), (13, (.aload_n 0, 1, 0, 0, 0, 0, 0)), (14, (.getfield 66, 3, 11, 11, 0, 0, 0)), (17, (.iload_n 1, 1, 1, 0, 0, 0, 0)), (18, (.invokevirtual 295, 3, 174, 2, 1, 0, 0)), (21, (.ireturn, 1, 0, 0, 0, 0, 0))]
def cd_174 : List (Nat × Ent) := [(0, (.iconst 0, 1, 0, 0, 0, 0, 0)), (1, (.istore_n 2, 1, 2, 0, 0, 0, 0)), (2, (.iconst (-1), 1, 0, 0, 0, (-1), 0)), (3, (.istore_n 3, 1, 3, 0, 0, 0, 0)), (4, (.iconst 0, 1, 0, 0, 0, 0, 0)), (5, (.istore 4, 2, 4, 0, 0, 0, 0)), (7, (.iload 4, 2, 4, 0, 0, 0, 0)), (9, (.aload_n 0, 1, 0, 0, 0, 0, 0)), (10, (.getfield 48, 3, 3, 2, 0, 0, 0)), (13, (.getfield 122, 3, 9, 2, 0, 0, 0)), (16, (.getfield 110, 3, 4, 0, 0, 0, 0)), (19, (.if_icmp .ge (72), 3, 0, 91, 0, 0, 0)), (22, (.aload_n 0, 1, 0, 0, 0, 0, 0)), (23, (.getfield 52, 3, 3, 3, 0, 0, 0)), (26, (.iload 4, 2, 4, 0, 0, 0, 0)), (28, (.invokevirtual 220, 3, 128, 2, 1, 0, 0)), (31, (.ifCond .eq (54), 3, 0, 85, 0, 0, 0)), (34, (.aload_n 0, 1, 0, 0, 0, 0, 0)), (35, (.iload 4, 2, 4, 0, 0, 0, 0)), (37, (.aload_n 0, 1, 0, 0, 0, 0, 0)), (38, (.getfield 52, 3, 3, 3, 0, 0, 0)), (41, (.getfield 147, 3, 6, 3, 0, 0, 0)), (44, (.iload 4, 2, 4, 0, 0, 0, 0)), (46, (.iaload, 1, 0, 0, 0, 0, 0)), (47, (.iconst 1, 1, 0, 0, 0, 1, 0)), (48, (.iadd, 1, 0, 0, 0, 0, 0)), (49, (.iload_n 1, 1, 1, 0, 0, 0, 0)), (50, (.invokevirtual 223, 3, 175, 4, 1, 0, 0)), (53, (.aload_n 0, 1, 0, 0, 0, 0, 0)), (54, (.iload 4, 2, 4, 0, 0, 0, 0)), (56, (.aload_n 0, 1, 0, 0, 0, 0, 0)), (57, (.getfield 52, 3, 3, 3, 0, 0, 0)), (60, (.getfield 147, 3, 6, 3, 0, 0, 0)), (63, (.iload 4, 2, 4, 0, 0, 0, 0)), (65, (.iaload, 1, 0, 0, 0, 0, 0)), (66, (.iload_n 1, 1, 1, 0, 0, 0, 0)), (67, (.invokevirtual 223, 3, 175, 4, 1, 0, 0)), (70, (.isub, 1, 0, 0, 0, 0, 0)), (71, (.istore 5, 2, 5, 0, 0, 0, 0)), (73, (.iload 5, 2, 5, 0, 0, 0, 0)), (75, (.iload_n 2, 1, 2, 0, 0, 0, 0)), (76, (.if_icmp .le (9), 3, 0, 85, 0, 0, 0)), (79, (.iload 5, 2, 5, 0, 0, 0, 0)), (81, (.istore_n 2, 1, 2, 0, 0, 0, 0)), (82, (.iload 4, 2, 4, 0, 0, 0, 0)), (84, (.istore_n 3, 1, 3, 0, 0, 0, 0)), (85, (.iinc 4 (1), 3, 4, 0, 0, 1, 0)), (88, (.goto (-81), 3, 0, 7, 0, 0, 0)), (91, (.iload_n 3, 1, 3, 0, 0, 0, 0)), (92, (.ireturn, 1, 0, 0, 0, 0, 0))]
def cd_175 : List (Nat × Ent) := [(0, (.aload_n 0, 1, 0, 0, 0, 0, 0)), (1, (.getfield 52, 3, 3, 3, 0, 0, 0)), (4, (.iload_n 1, 1, 1, 0, 0, 0, 0)), (5, (.invokevirtual 226, 3, 96, 2, 1, 0, 0)), (8, (.ifCond .eq (29), 3, 0, 37, 0, 0, 0)), (11, (.aload_n 0, 1, 0, 0, 0, 0, 0)), (12, (.getfield 52, 3, 3, 3, 0, 0, 0)), (15, (.iload_n 1, 1, 1, 0, 0, 0, 0)), (16, (.iload_n 2, 1, 2, 0, 0, 0, 0)), (17, (.iload_n 3, 1, 3, 0, 0, 0, 0)), (18, (.invokevirtual 229, 3, 147, 4, 1, 0, 0)), (21, (.iload_n 3, 1, 3, 0, 0, 0, 0)), (22, (.if_icmp .le (15), 3, 0, 37, 0, 0, 0)), (25, (.aload_n 0, 1, 0, 0, 0, 0, 0)), (26, (.getfield 48, 3, 3, 2, 0, 0, 0)), (29, (.getfield 160, 3, 9, 9, 0, 0, 0)), (32, (.iload_n 1, 1, 1, 0, 0, 0, 0)), (33, (.iaload, 1, 0, 0, 0, 0, 0)), (34, (.goto (4), 3, 0, 38, 0, 0, 0)), (37, (.iconst 0, 1, 0, 0, 0, 0, 0)), (38, (.ireturn, 1, 0, 0, 0, 0, 0))]
def cd_176 : List (Nat × Ent) := [(0, (.aload_n 0, 1, 0, 0, 0, 0, 0)), (1, (.iload_n 1, 1, 1, 0, 0, 0, 0)), (2, (.invokevirtual 116, 3, 94, 2, 1, 0, 0)), (5, (.ifCond .eq (24), 3, 0, 29, 0, 0, 0)), (8, (.aload_n 0, 1, 0, 0, 0, 0, 0)), (9, (.getfield 50, 3, 11, 6, 0, 0, 0)), (12, (.iload_n 1, 1, 1, 0, 0, 0, 0)), (13, (.invokevirtual 150, 3, 97, 2, 1, 0, 0)), (16, (.ifCond .eq (13), 3, 0, 29, 0, 0, 0)), (19, (.iload_n 2, 1, 2, 0, 0, 0, 0)), (20, (.ifCond .lt (9), 3, 0, 29, 0, 0, 0)), (23, (.iload_n 2, 1, 2, 0, 0, 0, 0)), (24, (.bipush (20), 2, 0, 0, 0, 20, 0)), (26, (.if_icmp .le (5), 3, 0, 31, 0, 0, 0)), (29, (.iconst 0, 1, 0, 0, 0, 0, 0)), (30, (.ireturn, 1, 0, 0, 1, 0, 0)), (31, (.aload_n 0, 1, 0, 0, 0, 0, 0)), (32, (.getfield 50, 3, 11, 6, 0, 0, 0)), (35, (.getfield 298, 3, 6, 6, 0, 0, 0)), (38, (.iload_n 1, 1, 1, 0, 0, 0, 0)), (39, (.iload_n 2, 1, 2, 0, 0, 0, 0)), (40, (.iastore, 1, 0, 0, 0, 0, 0)), (41, (.iconst 1, 1, 0, 0, 0, 1, 0)), (42, (.ireturn, 1, 0, 0, 1, 0, 0))]
def cd_177 : List (Nat × Ent) := [(0, (.iload_n 1, 1, 1, 0, 0, 0, 0)), (1, (.ifCond .lt (8), 3, 0, 9, 0, 0, 0)), (4, (.iload_n 1, 1, 1, 0, 0, 0, 0)), (5, (.iconst 2, 1, 0, 0, 0, 2, 0)), (6, (.if_icmp .le (5), 3, 0, 11, 0, 0, 0)), (9, (.iconst (-1), 1, 0, 0, 0, (-1), 0)), (10, (.ireturn, 1, 0, 0, 0, 0, 0)), (11, (.aload_n 0, 1, 0, 0, 0, 0, 0)), (12, (.getfield 73, 3, 11, 12, 0, 0, 0)), (15, (.invokevirtual 301, 3, 178, 1, 0, 0, 0)), (18, (.iload_n 1, 1, 1, 0, 0, 0, 0)), (19, (.ifCond .ne (11), 3, 0, 30, 0, 0, 0)), (22, (.aload_n 0, 1, 0, 0, 0, 0, 0)), (23, (.getfield 73, 3, 11, 12, 0, 0, 0)), (26, (.getfield 304, 3, 0, 0, 0, 0, 0)), (29, (.ireturn, 1, 0, 0, 0, 0, 0)), (30, (.aload_n 0, 1, 0, 0, 0, 0, 0)), (31, (.getfield 73, 3, 11, 12, 0, 0, 0)), (34, (.getfield 304, 3, 0, 0, 0, 0, 0)), (37, (.ifCond .ne (5), 3, 0, 42, 0, 0, 0)), (40, (.iconst (-1), 1, 0, 0, 0, (-1), 0)), (41, (.ireturn, 1, 0, 0, 0, 0, 0)), (42, (.iload_n 1, 1, 1, 0, 0, 0, 0)), (43, (.iconst 1, 1, 0, 0, 0, 1, 0)), (44, (.if_icmp .ne (13), 3, 0, 57, 0, 0, 0)), (47, (.aload_n 0, 1, 0, 0, 0, 0, 0)), (48, (.getfield 73, 3, 11, 12, 0, 0, 0)), (51, (.invokevirtual 305, 3, 182, 1, 1, 0, 0)), (54, (.goto (10), 3, 0, 64, 0, 0, 0)), (57, (.aload_n 0, 1, 0, 0, 0, 0, 0)), (58, (.getfield 73, 3, 11, 12, 0, 0, 0)), (61, (.invokevirtual 308, 3, 183, 1, 1, 0, 0)), (64, (.ireturn, 1, 0, 0, 0, 0, 0))]
def cd_178 : List (Nat × Ent) := [(0, (.aload_n 0, 1, 0, 0, 0, 0, 0)), (1, (.invokevirtual 32, 3, 179, 1, 0, 0, 0)), (4, (.iconst 0, 1, 0, 0, 0, 0, 0)), (5, (.istore_n 1, 1, 1, 0, 0, 0, 0)), (6, (.iconst 0, 1, 0, 0, 0, 0, 0)), (7, (.istore_n 2, 1, 2, 0, 0, 0, 0)), (8, (.iload_n 2, 1, 2, 0, 0, 0, 0)), (9, (.aload_n 0, 1, 0, 0, 0, 0, 0)), (10, (.getfield 24, 3, 0, 1, 0, 0, 0)), (13, (.getfield 35, 3, 9, 1, 0, 0, 0)), (16, (.getfield 41, 3, 4, 0, 0, 0, 0)), (19, (.if_icmp .ge (32), 3, 0, 51, 0, 0, 0)), (22, (.iload_n 1, 1, 1, 0, 0, 0, 0)), (23, (.aload_n 0, 1, 0, 0, 0, 0, 0)), (24, (.getfield 28, 3, 0, 2, 0, 0, 0)), (27, (.getfield 47, 3, 6, 5, 0, 0, 0)), (30, (.iload_n 2, 1, 2, 0, 0, 0, 0)), (31, (.iaload, 1, 0, 0, 0, 0, 0)), (32, (.iconst (-1), 1, 0, 0, 0, (-1), 0)), (33, (.if_icmp .ne (7), 3, 0, 40, 0, 0, 0)), (36, (.iconst 0, 1, 0, 0, 0, 0, 0)), (37, (.goto (6), 3, 0, 43, 0, 0, 0)), (40, (.iconst 1, 1, 0, 0, 0, 1, 0)), (41, (.iload_n 2, 1, 2, 0, 0, 0, 0)), (42, (.ishl, 1, 0, 0, 0, 0, 0)), (43, (.ior, 1, 0, 0, 0, 0, 0)), (44, (.istore_n 1, 1, 1, 0, 0, 0, 0)), (45, (.iinc 2 (1), 3, 2, 0, 0, 1, 0)), (48, (.goto (-40), 3, 0, 8, 0, 0, 0)), (51, (.aload_n 0, 1, 0, 0, 0, 0, 0)), (52, (.iconst 0, 1, 0, 0, 0, 0, 0)), (53, (.putfield 52, 3, 0, 0, 0, 0, 0)), (56, (.iconst 0, 1, 0, 0, 0, 0, 0)), (57, (.istore_n 2, 1, 2, 0, 0, 0, 0)), (58, (.iload_n 2, 1, 2, 0, 0, 0, 0)), (59, (.bipush (64), 2, 0, 0, 0, 64, 0)), (61, (.if_icmp .ge (45), 3, 0, 106, 0, 0, 0)), (64, (.iload_n 2, 1, 2, 0, 0, 0, 0)), (65, (.iload_n 1, 1, 1, 0, 0, 0, 0)), (66, (.iconst (-1), 1, 0, 0, 0, (-1), 0)), (67, (.ixor, 1, 0, 0, 0, 0, 0)), (68, (.iand, 1, 0, 0, 0, 0, 0)), (69, (.ifCond .ne (31), 3, 0, 100, 0, 0, 0)), (72, (.aload_n 0, 1, 0, 0, 0, 0, 0)), (73, (.iload_n 2, 1, 2, 0, 0, 0, 0)), (74, (.invokevirtual 53, 3, 180, 2, 1, 0, 0)), (77, (.ifCond .eq (23), 3, 0, 100, 0, 0, 0)), (80, (.aload_n 0, 1, 0, 0, 0, 0, 0)), (81, (.getfield 9, 3, 0, 3, 0, 0, 0)), (84, (.aload_n 0, 1, 0, 0, 0, 0, 0)), (85, (.getfield 52, 3, 0, 0, 0, 0, 0)), (88, (.iload_n 2, 1, 2, 0, 0, 0, 0)), (89, (.iastore, 1, 0, 0, 0, 0, 0)), (90, (.aload_n 0, 1, 0, 0, 0, 0, 0)), (91, (.dup, 1, 0, 0, 0, 0, 0)), (92, (.getfield 52, 3, 0, 0, 0, 0, 0)), (95, (.iconst 1, 1, 0, 0, 0, 1, 0)), (96, (.iadd, 1, 0, 0, 0, 0, 0)), (97, (.putfield 52, 3, 0, 0, 0, 0, 0)), (100, (.iinc 2 (1), 3, 2, 0, 0, 1, 0)), (103, (.goto (-45), 3, 0, 58, 0, 0, 0)), (106, (.return_, 1, 0, 0, 0, 0, 0))]
def cd_179 : List (Nat × Ent) := [(0, (.iconst 0, 1, 0, 0, 0, 0, 0)), (1, (.istore_n 1, 1, 1, 0, 0, 0, 0)), (2, (.iload_n 1, 1, 1, 0, 0, 0, 0)), (3, (.aload_n 0, 1, 0, 0, 0, 0, 0)), (4, (.getfield 24, 3, 0, 1, 0, 0, 0)), (7, (.getfield 57, 3, 9, 2, 0, 0, 0)), (10, (.getfield 41, 3, 4, 0, 0, 0, 0)), (13, (.if_icmp .ge (111), 3, 0, 124, 0, 0, 0)), (16, (.aload_n 0, 1, 0, 0, 0, 0, 0)), (17, (.getfield 15, 3, 0, 4, 0, 0, 0)), (20, (.iload_n 1, 1, 1, 0, 0, 0, 0)), (21, (.aload_n 0, 1, 0, 0, 0, 0, 0)), (22, (.getfield 28, 3, 0, 2, 0, 0, 0)), (25, (.iload_n 1, 1, 1, 0, 0, 0, 0)), (26, (.invokevirtual 60, 3, 97, 2, 1, 0, 0)), (29, (.ifCond .eq (29), 3, 0, 58, 0, 0, 0)), (32, (.iconst 0, 1, 0, 0, 0, 0, 0)), (33, (.aload_n 0, 1, 0, 0, 0, 0, 0)), (34, (.getfield 28, 3, 0, 2, 0, 0, 0)), (37, (.getfield 63, 3, 6, 1, 0, 0, 0)), (40, (.iload_n 1, 1, 1, 0, 0, 0, 0)), (41, (.iaload, 1, 0, 0, 0, 0, 0)), (42, (.aload_n 0, 1, 0, 0, 0, 0, 0)), (43, (.getfield 28, 3, 0, 2, 0, 0, 0)), (46, (.iload_n 1, 1, 1, 0, 0, 0, 0)), (47, (.iconst 0, 1, 0, 0, 0, 0, 0)), (48, (.invokevirtual 66, 3, 100, 3, 1, 0, 0)), (51, (.isub, 1, 0, 0, 0, 0, 0)), (52, (.invokestatic 70, 3, 21, 2, 1, 0, 0)), (55, (.goto (4), 3, 0, 59, 0, 0, 0)), (58, (.iconst 0, 1, 0, 0, 0, 0, 0)), (59, (.iastore, 1, 0, 0, 0, 0, 0)), (60, (.aload_n 0, 1, 0, 0, 0, 0, 0)), (61, (.getfield 18, 3, 0, 5, 0, 0, 0)), (64, (.iload_n 1, 1, 1, 0, 0, 0, 0)), (65, (.iconst 0, 1, 0, 0, 0, 0, 0)), (66, (.iastore, 1, 0, 0, 0, 0, 0)), (67, (.iconst 0, 1, 0, 0, 0, 0, 0)), (68, (.istore_n 2, 1, 2, 0, 0, 0, 0)), (69, (.iload_n 2, 1, 2, 0, 0, 0, 0)), (70, (.aload_n 0, 1, 0, 0, 0, 0, 0)), (71, (.getfield 24, 3, 0, 1, 0, 0, 0)), (74, (.getfield 35, 3, 9, 1, 0, 0, 0)), (77, (.getfield 41, 3, 4, 0, 0, 0, 0)), (80, (.if_icmp .ge (38), 3, 0, 118, 0, 0, 0)), (83, (.aload_n 0, 1, 0, 0, 0, 0, 0)), (84, (.getfield 18, 3, 0, 5, 0, 0, 0)), (87, (.iload_n 1, 1, 1, 0, 0, 0, 0)), (88, (.dup2, 1, 0, 0, 0, 0, 0)), (89, (.iaload, 1, 0, 0, 0, 0, 0)), (90, (.aload_n 0, 1, 0, 0, 0, 0, 0)), (91, (.getfield 28, 3, 0, 2, 0, 0, 0)), (94, (.getfield 47, 3, 6, 5, 0, 0, 0)), (97, (.iload_n 2, 1, 2, 0, 0, 0, 0)), (98, (.iaload, 1, 0, 0, 0, 0, 0)), (99, (.iload_n 1, 1, 1, 0, 0, 0, 0)), (100, (.if_icmp .ne (9), 3, 0, 109, 0, 0, 0)), (103, (.iconst 1, 1, 0, 0, 0, 1, 0)), (104, (.iload_n 2, 1, 2, 0, 0, 0, 0)), (105, (.ishl, 1, 0, 0, 0, 0, 0)), (106, (.goto (4), 3, 0, 110, 0, 0, 0)), (109, (.iconst 0, 1, 0, 0, 0, 0, 0)), (110, (.ior, 1, 0, 0, 0, 0, 0)), (111, (.iastore, 1, 0, 0, 0, 0, 0)), (112, (.iinc 2 (1), 3, 2, 0, 0, 1, 0)), (115, (.goto (-46), 3, 0, 69, 0, 0, 0)), (118, (.iinc 1 (1), 3, 1, 0, 0, 1, 0)), (121, (.goto (-119), 3, 0, 2, 0, 0, 0)), (124, (.return_, 1, 0, 0, 0, 0, 0))]
def cd_180 : List (Nat × Ent) := [(0, (.iconst 0, 1, 0, 0, 0, 0, 0)), (1, (.istore_n 2, 1, 2, 0, 0, 0, 0)), (2, (.iload_n 2, 1, 2, 0, 0, 0, 0)), (3, (.aload_n 0, 1, 0, 0, 0, 0, 0)), (4, (.getfield 24, 3, 0, 1, 0, 0, 0)), (7, (.getfield 57, 3, 9, 2, 0, 0, 0)), (10, (.getfield 41, 3, 4, 0, 0, 0, 0)), (13, (.if_icmp .ge (42), 3, 0, 55, 0, 0, 0)), (16, (.aload_n 0, 1, 0, 0, 0, 0, 0)), (17, (.getfield 28, 3, 0, 2, 0, 0, 0)), (20, (.getfield 81, 3, 6, 6, 0, 0, 0)), (23, (.iload_n 2, 1, 2, 0, 0, 0, 0)), (24, (.iaload, 1, 0, 0, 0, 0, 0)), (25, (.iconst (-1), 1, 0, 0, 0, (-1), 0)), (26, (.if_icmp .eq (23), 3, 0, 49, 0, 0, 0)), (29, (.aload_n 0, 1, 0, 0, 0, 0, 0)), (30, (.getfield 28, 3, 0, 2, 0, 0, 0)), (33, (.getfield 81, 3, 6, 6, 0, 0, 0)), (36, (.iload_n 2, 1, 2, 0, 0, 0, 0)), (37, (.iaload, 1, 0, 0, 0, 0, 0)), (38, (.aload_n 0, 1, 0, 0, 0, 0, 0)), (39, (.iload_n 2, 1, 2, 0, 0, 0, 0)), (40, (.iload_n 1, 1, 1, 0, 0, 0, 0)), (41, (.invokevirtual 84, 3, 181, 3, 1, 0, 0)), (44, (.if_icmp .eq (5), 3, 0, 49, 0, 0, 0)), (47, (.iconst 0, 1, 0, 0, 0, 0, 0)), (48, (.ireturn, 1, 0, 0, 1, 0, 0)), (49, (.iinc 2 (1), 3, 2, 0, 0, 1, 0)), (52, (.goto (-50), 3, 0, 2, 0, 0, 0)), (55, (.iconst 1, 1, 0, 0, 0, 1, 0)), (56, (.ireturn, 1, 0, 0, 1, 0, 0))]
def cd_181 : List (Nat × Ent) := [(0, (.iconst 0, 1, 0, 0, 0, 0, 0)), (1, (.aload_n 0, 1, 0, 0, 0, 0, 0)), (2, (.getfield 15, 3, 0, 4, 0, 0, 0)), (5, (.iload_n 1, 1, 1, 0, 0, 0, 0)), (6, (.iaload, 1, 0, 0, 0, 0, 0)), (7, (.aload_n 0, 1, 0, 0, 0, 0, 0)), (8, (.getfield 18, 3, 0, 5, 0, 0, 0)), (11, (.iload_n 1, 1, 1, 0, 0, 0, 0)), (12, (.iaload, 1, 0, 0, 0, 0, 0)), (13, (.iload_n 2, 1, 2, 0, 0, 0, 0)), (14, (.iand, 1, 0, 0, 0, 0, 0)), (15, (.invokestatic 75, 3, 145, 1, 1, 0, 0)), (18, (.isub, 1, 0, 0, 0, 0, 0)), (19, (.invokestatic 70, 3, 21, 2, 1, 0, 0)), (22, (.ireturn, 1, 0, 0, 0, 0, 0))]
def cd_182 : List (Nat × Ent) := [(0, (.bipush (63), 2, 0, 0, 0, 63, 0)), (2, (.istore_n 1, 1, 1, 0, 0, 0, 0)), (3, (.iconst 0, 1, 0, 0, 0, 0, 0)), (4, (.istore_n 2, 1, 2, 0, 0, 0, 0)), (5, (.iload_n 2, 1, 2, 0, 0, 0, 0)), (6, (.aload_n 0, 1, 0, 0, 0, 0, 0)), (7, (.getfield 52, 3, 0, 0, 0, 0, 0)), (10, (.if_icmp .ge (18), 3, 0, 28, 0, 0, 0)), (13, (.iload_n 1, 1, 1, 0, 0, 0, 0)), (14, (.aload_n 0, 1, 0, 0, 0, 0, 0)), (15, (.getfield 9, 3, 0, 3, 0, 0, 0)), (18, (.iload_n 2, 1, 2, 0, 0, 0, 0)), (19, (.iaload, 1, 0, 0, 0, 0, 0)), (20, (.iand, 1, 0, 0, 0, 0, 0)), (21, (.istore_n 1, 1, 1, 0, 0, 0, 0)), (22, (.iinc 2 (1), 3, 2, 0, 0, 1, 0)), (25, (.goto (-20), 3, 0, 5, 0, 0, 0)), (28, (.iload_n 1, 1, 1, 0, 0, 0, 0)), (29, (.ireturn, 1, 0, 0, 0, 0, 0))]
def cd_183 : List (Nat × Ent) := [(0, (.iconst 0, 1, 0, 0, 0, 0, 0)), (1, (.istore_n 1, 1, 1, 0, 0, 0, 0)), (2, (.iconst 0, 1, 0, 0, 0, 0, 0)), (3, (.istore_n 2, 1, 2, 0, 0, 0, 0)), (4, (.iload_n 2, 1, 2, 0, 0, 0, 0)), (5, (.aload_n 0, 1, 0, 0, 0, 0, 0)), (6, (.getfield 52, 3, 0, 0, 0, 0, 0)), (9, (.if_icmp .ge (18), 3, 0, 27, 0, 0, 0)), (12, (.iload_n 1, 1, 1, 0, 0, 0, 0)), (13, (.aload_n 0, 1, 0, 0, 0, 0, 0)), (14, (.getfield 9, 3, 0, 3, 0, 0, 0)), (17, (.iload_n 2, 1, 2, 0, 0, 0, 0)), (18, (.iaload, 1, 0, 0, 0, 0, 0)), (19, (.ior, 1, 0, 0, 0, 0, 0)), (20, (.istore_n 1, 1, 1, 0, 0, 0, 0)), (21, (.iinc 2 (1), 3, 2, 0, 0, 1, 0)), (24, (.goto (-20), 3, 0, 4, 0, 0, 0)), (27, (.iload_n 1, 1, 1, 0, 0, 0, 0)), (28, (.ireturn, 1, 0, 0, 0, 0, 0))]
def cd_184 : List (Nat × Ent) := [(0, (.aload_n 0, 1, 0, 0, 0, 0, 0)), (1, (.getfield 73, 3, 11, 12, 0, 0, 0)), (4, (.invokevirtual 311, 3, 185, 1, 1, 0, 0)), (7, (.ireturn, 1, 0, 0, 0, 0, 0))]
def cd_185 : List (Nat × Ent) := [(0, (.aload_n 0, 1, 0, 0, 0, 0, 0)), (1, (.invokevirtual 87, 3, 178, 1, 0, 0, 0)), (4, (.aload_n 0, 1, 0, 0, 0, 0, 0)), (5, (.getfield 52, 3, 0, 0, 0, 0, 0)), (8, (.istore_n 1, 1, 1, 0, 0, 0, 0)), (9, (.iconst (-1), 1, 0, 0, 0, (-1), 0)), (10, (.istore_n 2, 1, 2, 0, 0, 0, 0)), (11, (.iconst 0, 1, 0, 0, 0, 0, 0)), (12, (.istore_n 3, 1, 3, 0, 0, 0, 0)), (13, (.iload_n 3, 1, 3, 0, 0, 0, 0)), (14, (.aload_n 0, 1, 0, 0, 0, 0, 0)), (15, (.getfield 24, 3, 0, 1, 0, 0, 0)), (18, (.getfield 57, 3, 9, 2, 0, 0, 0)), (21, (.getfield 41, 3, 4, 0, 0, 0, 0)), (24, (.if_icmp .ge (51), 3, 0, 75, 0, 0, 0)), (27, (.aload_n 0, 1, 0, 0, 0, 0, 0)), (28, (.getfield 28, 3, 0, 2, 0, 0, 0)), (31, (.iload_n 3, 1, 3, 0, 0, 0, 0)), (32, (.invokevirtual 60, 3, 97, 2, 1, 0, 0)), (35, (.ifCond .eq (34), 3, 0, 69, 0, 0, 0)), (38, (.aload_n 0, 1, 0, 0, 0, 0, 0)), (39, (.getfield 28, 3, 0, 2, 0, 0, 0)), (42, (.getfield 81, 3, 6, 6, 0, 0, 0)), (45, (.iload_n 3, 1, 3, 0, 0, 0, 0)), (46, (.iaload, 1, 0, 0, 0, 0, 0)), (47, (.iconst (-1), 1, 0, 0, 0, (-1), 0)), (48, (.if_icmp .ne (21), 3, 0, 69, 0, 0, 0)), (51, (.aload_n 0, 1, 0, 0, 0, 0, 0)), (52, (.iload_n 3, 1, 3, 0, 0, 0, 0)), (53, (.invokevirtual 90, 3, 186, 2, 1, 0, 0)), (56, (.istore 4, 2, 4, 0, 0, 0, 0)), (58, (.iload 4, 2, 4, 0, 0, 0, 0)), (60, (.iload_n 1, 1, 1, 0, 0, 0, 0)), (61, (.if_icmp .ge (8), 3, 0, 69, 0, 0, 0)), (64, (.iload 4, 2, 4, 0, 0, 0, 0)), (66, (.istore_n 1, 1, 1, 0, 0, 0, 0)), (67, (.iload_n 3, 1, 3, 0, 0, 0, 0)), (68, (.istore_n 2, 1, 2, 0, 0, 0, 0)), (69, (.iinc 3 (1), 3, 3, 0, 0, 1, 0)), (72, (.goto (-59), 3, 0, 13, 0, 0, 0)), (75, (.iload_n 2, 1, 2, 0, 0, 0, 0)), (76, (.ireturn, 1, 0, 0, 0, 0, 0))]
def cd_186 : List (Nat × Ent) := [(0, (.aload_n 0, 1, 0, 0, 0, 0, 0)), (1, (.getfield 21, 3, 0, 6, 0, 0, 0)), (4, (.iconst 0, 1, 0, 0, 0, 0, 0)), (5, (.invokestatic 93, 3, 2, 2, 0, 0, 0)), (8, (.iconst 0, 1, 0, 0, 0, 0, 0)), (9, (.istore_n 2, 1, 2, 0, 0, 0, 0)), (10, (.iconst 0, 1, 0, 0, 0, 0, 0)), (11, (.istore_n 3, 1, 3, 0, 0, 0, 0)), (12, (.iload_n 3, 1, 3, 0, 0, 0, 0)), (13, (.aload_n 0, 1, 0, 0, 0, 0, 0)), (14, (.getfield 52, 3, 0, 0, 0, 0, 0)), (17, (.if_icmp .ge (45), 3, 0, 62, 0, 0, 0)), (20, (.aload_n 0, 1, 0, 0, 0, 0, 0)), (21, (.iload_n 1, 1, 1, 0, 0, 0, 0)), (22, (.aload_n 0, 1, 0, 0, 0, 0, 0)), (23, (.getfield 9, 3, 0, 3, 0, 0, 0)), (26, (.iload_n 3, 1, 3, 0, 0, 0, 0)), (27, (.iaload, 1, 0, 0, 0, 0, 0)), (28, (.invokevirtual 84, 3, 181, 3, 1, 0, 0)), (31, (.istore 4, 2, 4, 0, 0, 0, 0)), (33, (.aload_n 0, 1, 0, 0, 0, 0, 0)), (34, (.getfield 21, 3, 0, 6, 0, 0, 0)), (37, (.iload 4, 2, 4, 0, 0, 0, 0)), (39, (.dup2, 1, 0, 0, 0, 0, 0)), (40, (.iaload, 1, 0, 0, 0, 0, 0)), (41, (.iconst 1, 1, 0, 0, 0, 1, 0)), (42, (.iadd, 1, 0, 0, 0, 0, 0)), (43, (.iastore, 1, 0, 0, 0, 0, 0)), (44, (.iload_n 2, 1, 2, 0, 0, 0, 0)), (45, (.aload_n 0, 1, 0, 0, 0, 0, 0)), (46, (.getfield 21, 3, 0, 6, 0, 0, 0)), (49, (.iload 4, 2, 4, 0, 0, 0, 0)), (51, (.iaload, 1, 0, 0, 0, 0, 0)), (52, (.invokestatic 70, 3, 21, 2, 1, 0, 0)), (55, (.istore_n 2, 1, 2, 0, 0, 0, 0)), (56, (.iinc 3 (1), 3, 3, 0, 0, 1, 0)), (59, (.goto (-47), 3, 0, 12, 0, 0, 0)), (62, (.iload_n 2, 1, 2, 0, 0, 0, 0)), (63, (.ireturn, 1, 0, 0, 0, 0, 0))]
def cd_187 : List (Nat × Ent) := [(0, (.iload_n 1, 1, 1, 0, 0, 0, 0)), (1, (.invokestatic 314, 3, 188, 1, 1, 0, 0)), (4, (.ifCond .eq (23), 3, 0, 27, 0, 0, 0)), (7, (.iload_n 2, 1, 2, 0, 0, 0, 0)), (8, (.invokestatic 314, 3, 188, 1, 1, 0, 0)), (11, (.ifCond .eq (16), 3, 0, 27, 0, 0, 0)), (14, (.iload_n 3, 1, 3, 0, 0, 0, 0)), (15, (.invokestatic 314, 3, 188, 1, 1, 0, 0)), (18, (.ifCond .eq (9), 3, 0, 27, 0, 0, 0)), (21, (.iload 4, 2, 4, 0, 0, 0, 0)), (23, (.iconst (-1), 1, 0, 0, 0, (-1), 0)), (24, (.if_icmp .ge (11), 3, 0, 35, 0, 0, 0)), (30, (.dup, 1, 0, 0, 0, 0, 0)), (35, (.iconst 0, 1, 0, 0, 0, 0, 0)), (36, (.istore 5, 2, 5, 0, 0, 0, 0)), (38, (.iconst 0, 1, 0, 0, 0, 0, 0)), (39, (.istore 6, 2, 6, 0, 0, 0, 0)), (41, (.iload 6, 2, 6, 0, 0, 0, 0)), (43, (.iconst 4, 1, 0, 0, 0, 4, 0)), (44, (.if_icmp .ge (33), 3, 0, 77, 0, 0, 0)), (47, (.iload 6, 2, 6, 0, 0, 0, 0)), (49, (.iload_n 1, 1, 1, 0, 0, 0, 0)), (50, (.iload_n 2, 1, 2, 0, 0, 0, 0)), (51, (.iload_n 3, 1, 3, 0, 0, 0, 0)), (52, (.invokestatic 320, 3, 189, 4, 1, 0, 0)), (55, (.ifCond .eq (16), 3, 0, 71, 0, 0, 0)), (58, (.iload 5, 2, 5, 0, 0, 0, 0)), (60, (.iload 4, 2, 4, 0, 0, 0, 0)), (62, (.if_icmp .ne (6), 3, 0, 68, 0, 0, 0)), (65, (.iload 6, 2, 6, 0, 0, 0, 0)), (67, (.ireturn, 1, 0, 0, 0, 0, 0)), (68, (.iinc 5 (1), 3, 5, 0, 0, 1, 0)), (71, (.iinc 6 (1), 3, 6, 0, 0, 1, 0)), (74, (.goto (-33), 3, 0, 41, 0, 0, 0)), (77, (.iload 4, 2, 4, 0, 0, 0, 0)), (79, (.iconst (-1), 1, 0, 0, 0, (-1), 0)), (80, (.if_icmp .ne (6), 3, 0, 86, 0, 0, 0)), (83, (.iload 5, 2, 5, 0, 0, 0, 0)), (85, (.ireturn, 1, 0, 0, 0, 0, 0)), (89, (.dup, 1, 0, 0, 0, 0, 0))]
def cd_188 : List (Nat × Ent) := [(0, (.iload_n 0, 1, 0, 0, 0, 0, 0)), (1, (.ifCond .lt (13), 3, 0, 14, 0, 0, 0)), (4, (.iload_n 0, 1, 0, 0, 0, 0, 0)), (5, (.bipush (9), 2, 0, 0, 0, 9, 0)), (7, (.if_icmp .gt (7), 3, 0, 14, 0, 0, 0)), (10, (.iconst 1, 1, 0, 0, 0, 1, 0)), (11, (.goto (4), 3, 0, 15, 0, 0, 0)), (14, (.iconst 0, 1, 0, 0, 0, 0, 0)), (15, (.ireturn, 1, 0, 0, 1, 0, 0))]
def cd_189 : List (Nat × Ent) := [(0, (.iload_n 0, 1, 0, 0, 0, 0, 0)), (1, (.iconst 2, 1, 0, 0, 0, 2, 0)), (2, (.idiv, 1, 0, 0, 0, 0, 0)), (3, (.istore 4, 2, 4, 0, 0, 0, 0)), (5, (.iload_n 0, 1, 0, 0, 0, 0, 0)), (6, (.iconst 2, 1, 0, 0, 0, 2, 0)), (7, (.irem, 1, 0, 0, 0, 0, 0)), (8, (.istore 5, 2, 5, 0, 0, 0, 0)), (10, (.iload 4, 2, 4, 0, 0, 0, 0)), (12, (.iload 5, 2, 5, 0, 0, 0, 0)), (14, (.iload_n 1, 1, 1, 0, 0, 0, 0)), (15, (.iload_n 2, 1, 2, 0, 0, 0, 0)), (16, (.iload_n 3, 1, 3, 0, 0, 0, 0)), (17, (.invokestatic 324, 3, 190, 5, 1, 0, 0)), (20, (.iconst 1, 1, 0, 0, 0, 1, 0)), (21, (.iload 4, 2, 4, 0, 0, 0, 0)), (23, (.isub, 1, 0, 0, 0, 0, 0)), (24, (.iload 5, 2, 5, 0, 0, 0, 0)), (26, (.iload_n 1, 1, 1, 0, 0, 0, 0)), (27, (.iload_n 2, 1, 2, 0, 0, 0, 0)), (28, (.iload_n 3, 1, 3, 0, 0, 0, 0)), (29, (.invokestatic 324, 3, 190, 5, 1, 0, 0)), (32, (.if_icmp .lt (32), 3, 0, 64, 0, 0, 0)), (35, (.iload 5, 2, 5, 0, 0, 0, 0)), (37, (.iload 4, 2, 4, 0, 0, 0, 0)), (39, (.iload_n 1, 1, 1, 0, 0, 0, 0)), (40, (.iload_n 2, 1, 2, 0, 0, 0, 0)), (41, (.iload_n 3, 1, 3, 0, 0, 0, 0)), (42, (.invokestatic 324, 3, 190, 5, 1, 0, 0)), (45, (.iconst 1, 1, 0, 0, 0, 1, 0)), (46, (.iload 5, 2, 5, 0, 0, 0, 0)), (48, (.isub, 1, 0, 0, 0, 0, 0)), (49, (.iload 4, 2, 4, 0, 0, 0, 0)), (51, (.iload_n 1, 1, 1, 0, 0, 0, 0)), (52, (.iload_n 2, 1, 2, 0, 0, 0, 0)), (53, (.iload_n 3, 1, 3, 0, 0, 0, 0)), (54, (.invokestatic 324, 3, 190, 5, 1, 0, 0)), (57, (.if_icmp .lt (7), 3, 0, 64, 0, 0, 0)), (60, (.iconst 1, 1, 0, 0, 0, 1, 0)), (61, (.goto (4), 3, 0, 65, 0, 0, 0)), (64, (.iconst 0, 1, 0, 0, 0, 0, 0)), (65, (.ireturn, 1, 0, 0, 1, 0, 0))]
def cd_190 : List (Nat × Ent) := [(0, (.iload_n 0, 1, 0, 0, 0, 0, 0)), (1, (.ifCond .ne (13), 3, 0, 14, 0, 0, 0)), (4, (.iload_n 1, 1, 1, 0, 0, 0, 0)), (5, (.ifCond .ne (7), 3, 0, 12, 0, 0, 0)), (8, (.iload_n 2, 1, 2, 0, 0, 0, 0)), (9, (.goto (4), 3, 0, 13, 0, 0, 0)), (12, (.iconst 0, 1, 0, 0, 0, 0, 0)), (13, (.ireturn, 1, 0, 0, 0, 0, 0)), (14, (.iload_n 1, 1, 1, 0, 0, 0, 0)), (15, (.ifCond .ne (7), 3, 0, 22, 0, 0, 0)), (18, (.iload_n 3, 1, 3, 0, 0, 0, 0)), (19, (.goto (6), 3, 0, 25, 0, 0, 0)), (22, (.iload 4, 2, 4, 0, 0, 0, 0)), (24, (.ineg, 1, 0, 0, 0, 0, 0)), (25, (.ireturn, 1, 0, 0, 0, 0, 0))]
def cd_191 : List (Nat × Ent) := [(0, (.aload_n 0, 1, 0, 0, 0, 0, 0)), (1, (.getfield 1, 3, 12, 0, 0, 0, 0)), (4, (.ireturn, 1, 0, 0, 0, 0, 0))]
def cd_192 : List (Nat × Ent) := [(0, (.aload_n 0, 1, 0, 0, 0, 0, 0)), (1, (.iconst 0, 1, 0, 0, 0, 0, 0)), (2, (.putfield 1, 3, 12, 0, 0, 0, 0)), (5, (.aload_n 0, 1, 0, 0, 0, 0, 0)), (6, (.lload_n 1, 1, 1, 0, 0, 0, 0)), (7, (.invokevirtual 7, 3, 193, 2, 0, 0, 0)), (10, (.aload_n 0, 1, 0, 0, 0, 0, 0)), (11, (.lload_n 3, 1, 3, 0, 0, 0, 0)), (12, (.invokevirtual 7, 3, 193, 2, 0, 0, 0)), (15, (.aload_n 0, 1, 0, 0, 0, 0, 0)), (16, (.lload 5, 2, 5, 0, 0, 0, 0)), (18, (.invokevirtual 7, 3, 193, 2, 0, 0, 0)), (21, (.aload_n 0, 1, 0, 0, 0, 0, 0)), (22, (.getfield 11, 3, 12, 2, 0, 0, 0)), (25, (.ireturn, 1, 0, 0, 0, 0, 0))]
def cd_193 : List (Nat × Ent) := [(0, (.bipush (56), 2, 0, 0, 0, 56, 0)), (2, (.istore_n 3, 1, 3, 0, 0, 0, 0)), (3, (.iload_n 3, 1, 3, 0, 0, 0, 0)), (4, (.ifCond .lt (71), 3, 0, 75, 0, 0, 0)), (7, (.lload_n 1, 1, 1, 0, 0, 0, 0)), (8, (.iload_n 3, 1, 3, 0, 0, 0, 0)), (9, (.lshr, 1, 0, 0, 0, 0, 0)), (10, (.l2i, 1, 0, 0, 0, 0, 0)), (11, (.sipush (255), 3, 0, 0, 0, 255, 0)), (14, (.iand, 1, 0, 0, 0, 0, 0)), (15, (.istore 4, 2, 4, 0, 0, 0, 0)), (17, (.iload 4, 2, 4, 0, 0, 0, 0)), (19, (.bipush (10), 2, 0, 0, 0, 10, 0)), (21, (.if_icmp .eq (17), 3, 0, 38, 0, 0, 0)), (24, (.iload 4, 2, 4, 0, 0, 0, 0)), (26, (.bipush (32), 2, 0, 0, 0, 32, 0)), (28, (.if_icmp .lt (41), 3, 0, 69, 0, 0, 0)), (31, (.iload 4, 2, 4, 0, 0, 0, 0)), (33, (.bipush (126), 2, 0, 0, 0, 126, 0)), (35, (.if_icmp .gt (34), 3, 0, 69, 0, 0, 0)), (38, (.aload_n 0, 1, 0, 0, 0, 0, 0)), (39, (.getfield 11, 3, 12, 2, 0, 0, 0)), (42, (.sipush (1000), 3, 0, 0, 0, 1000, 0)), (45, (.if_icmp .ge (24), 3, 0, 69, 0, 0, 0)), (48, (.aload_n 0, 1, 0, 0, 0, 0, 0)), (49, (.getfield 14, 3, 12, 1, 0, 0, 0)), (52, (.aload_n 0, 1, 0, 0, 0, 0, 0)), (53, (.getfield 11, 3, 12, 2, 0, 0, 0)), (56, (.iload 4, 2, 4, 0, 0, 0, 0)), (58, (.iastore, 1, 0, 0, 0, 0, 0)), (59, (.aload_n 0, 1, 0, 0, 0, 0, 0)), (60, (.dup, 1, 0, 0, 0, 0, 0)), (61, (.getfield 11, 3, 12, 2, 0, 0, 0)), (64, (.iconst 1, 1, 0, 0, 0, 1, 0)), (65, (.iadd, 1, 0, 0, 0, 0, 0)), (66, (.putfield 11, 3, 12, 2, 0, 0, 0)), (69, (.iinc 3 (-8), 3, 3, 0, 0, (-8), 0)), (72, (.goto (-69), 3, 0, 3, 0, 0, 0)), (75, (.return_, 1, 0, 0, 0, 0, 0))]
def cd_194 : List (Nat × Ent) := [(0, (.iconst 0, 1, 0, 0, 0, 0, 0)), (1, (.istore_n 2, 1, 2, 0, 0, 0, 0)), (2, (.iload_n 2, 1, 2, 0, 0, 0, 0)), (3, (.bipush (110), 2, 0, 0, 0, 110, 0)), (5, (.if_icmp .ge (18), 3, 0, 23, 0, 0, 0)), (8, (.aload_n 0, 1, 0, 0, 0, 0, 0)), (9, (.getfield 103, 3, 12, 10, 0, 0, 0)), (12, (.iload_n 1, 1, 1, 0, 0, 0, 0)), (13, (.iload_n 2, 1, 2, 0, 0, 0, 0)), (14, (.iadd, 1, 0, 0, 0, 0, 0)), (15, (.iconst 0, 1, 0, 0, 0, 0, 0)), (16, (.iastore, 1, 0, 0, 0, 0, 0)), (17, (.iinc 2 (1), 3, 2, 0, 0, 1, 0)), (20, (.goto (-18), 3, 0, 2, 0, 0, 0)), (23, (.aload_n 0, 1, 0, 0, 0, 0, 0)), (24, (.getfield 103, 3, 12, 10, 0, 0, 0)), (27, (.iload_n 1, 1, 1, 0, 0, 0, 0)), (28, (.iconst 4, 1, 0, 0, 0, 4, 0)), (29, (.iadd, 1, 0, 0, 0, 0, 0)), (30, (.iconst 1, 1, 0, 0, 0, 1, 0)), (31, (.iastore, 1, 0, 0, 0, 0, 0)), (32, (.aload_n 0, 1, 0, 0, 0, 0, 0)), (33, (.getfield 103, 3, 12, 10, 0, 0, 0)), (36, (.iload_n 1, 1, 1, 0, 0, 0, 0)), (37, (.bipush (92), 2, 0, 0, 0, 92, 0)), (39, (.iadd, 1, 0, 0, 0, 0, 0)), (40, (.iconst 3, 1, 0, 0, 0, 3, 0)), (41, (.iastore, 1, 0, 0, 0, 0, 0)), (42, (.aload_n 0, 1, 0, 0, 0, 0, 0)), (43, (.getfield 103, 3, 12, 10, 0, 0, 0)), (46, (.iload_n 1, 1, 1, 0, 0, 0, 0)), (47, (.bipush (6), 2, 0, 0, 0, 6, 0)), (49, (.iadd, 1, 0, 0, 0, 0, 0)), (50, (.iconst (-1), 1, 0, 0, 0, (-1), 0)), (51, (.iastore, 1, 0, 0, 0, 0, 0)), (52, (.aload_n 0, 1, 0, 0, 0, 0, 0)), (53, (.getfield 103, 3, 12, 10, 0, 0, 0)), (56, (.iload_n 1, 1, 1, 0, 0, 0, 0)), (57, (.bipush (6), 2, 0, 0, 0, 6, 0)), (59, (.iadd, 1, 0, 0, 0, 0, 0)), (60, (.iconst 1, 1, 0, 0, 0, 1, 0)), (61, (.iadd, 1, 0, 0, 0, 0, 0)), (62, (.iconst (-1), 1, 0, 0, 0, (-1), 0)), (63, (.iastore, 1, 0, 0, 0, 0, 0)), (64, (.return_, 1, 0, 0, 0, 0, 0))]
def cd_195 : List (Nat × Ent) := [(0, (.aload_n 0, 1, 0, 0, 0, 0, 0)), (1, (.iconst 0, 1, 0, 0, 0, 0, 0)), (2, (.invokevirtual 322, 3, 196, 2, 0, 0, 0)), (5, (.aload_n 0, 1, 0, 0, 0, 0, 0)), (6, (.getfield 124, 3, 12, 22, 0, 0, 0)), (9, (.iconst 0, 1, 0, 0, 0, 0, 0)), (10, (.iconst 0, 1, 0, 0, 0, 0, 0)), (11, (.iastore, 1, 0, 0, 0, 0, 0)), (12, (.aload_n 0, 1, 0, 0, 0, 0, 0)), (13, (.iconst 0, 1, 0, 0, 0, 0, 0)), (14, (.putfield 325, 3, 12, 26, 0, 0, 0)), (17, (.iconst 0, 1, 0, 0, 0, 0, 0)), (18, (.istore_n 1, 1, 1, 0, 0, 0, 0)), (19, (.iload_n 1, 1, 1, 0, 0, 0, 0)), (20, (.iconst 4, 1, 0, 0, 0, 4, 0)), (21, (.if_icmp .ge (16), 3, 0, 37, 0, 0, 0)), (24, (.aload_n 0, 1, 0, 0, 0, 0, 0)), (25, (.getfield 136, 3, 12, 27, 0, 0, 0)), (28, (.iload_n 1, 1, 1, 0, 0, 0, 0)), (29, (.iconst 0, 1, 0, 0, 0, 0, 0)), (30, (.bastore, 1, 0, 0, 0, 0, 0)), (31, (.iinc 1 (1), 3, 1, 0, 0, 1, 0)), (34, (.goto (-15), 3, 0, 19, 0, 0, 0)), (37, (.return_, 1, 0, 0, 0, 0, 0))]
def cd_196 : List (Nat × Ent) := [(0, (.iconst 0, 1, 0, 0, 0, 0, 0)), (1, (.istore_n 2, 1, 2, 0, 0, 0, 0)), (2, (.iload_n 2, 1, 2, 0, 0, 0, 0)), (3, (.bipush (49), 2, 0, 0, 0, 49, 0)), (5, (.if_icmp .ge (18), 3, 0, 23, 0, 0, 0)), (8, (.aload_n 0, 1, 0, 0, 0, 0, 0)), (9, (.getfield 133, 3, 12, 25, 0, 0, 0)), (12, (.iload_n 1, 1, 1, 0, 0, 0, 0)), (13, (.iload_n 2, 1, 2, 0, 0, 0, 0)), (14, (.iadd, 1, 0, 0, 0, 0, 0)), (15, (.iconst 0, 1, 0, 0, 0, 0, 0)), (16, (.iastore, 1, 0, 0, 0, 0, 0)), (17, (.iinc 2 (1), 3, 2, 0, 0, 1, 0)), (20, (.goto (-18), 3, 0, 2, 0, 0, 0)), (23, (.iconst 0, 1, 0, 0, 0, 0, 0)), (24, (.istore_n 2, 1, 2, 0, 0, 0, 0)), (25, (.iload_n 2, 1, 2, 0, 0, 0, 0)), (26, (.bipush (6), 2, 0, 0, 0, 6, 0)), (28, (.if_icmp .ge (62), 3, 0, 90, 0, 0, 0)), (31, (.aload_n 0, 1, 0, 0, 0, 0, 0)), (32, (.getfield 133, 3, 12, 25, 0, 0, 0)), (35, (.iload_n 1, 1, 1, 0, 0, 0, 0)), (36, (.bipush (7), 2, 0, 0, 0, 7, 0)), (38, (.iadd, 1, 0, 0, 0, 0, 0)), (39, (.iload_n 2, 1, 2, 0, 0, 0, 0)), (40, (.iadd, 1, 0, 0, 0, 0, 0)), (41, (.iload_n 2, 1, 2, 0, 0, 0, 0)), (42, (.aload_n 0, 1, 0, 0, 0, 0, 0)), (43, (.invokevirtual 315, 3, 197, 1, 1, 0, 0)), (46, (.if_icmp .ge (12), 3, 0, 58, 0, 0, 0)), (49, (.aload_n 0, 1, 0, 0, 0, 0, 0)), (50, (.iload_n 2, 1, 2, 0, 0, 0, 0)), (51, (.iconst 1, 1, 0, 0, 0, 1, 0)), (52, (.invokevirtual 319, 3, 198, 3, 1, 0, 0)), (55, (.goto (4), 3, 0, 59, 0, 0, 0)), (58, (.iconst 0, 1, 0, 0, 0, 0, 0)), (59, (.iastore, 1, 0, 0, 0, 0, 0)), (60, (.aload_n 0, 1, 0, 0, 0, 0, 0)), (61, (.getfield 133, 3, 12, 25, 0, 0, 0)), (64, (.iload_n 1, 1, 1, 0, 0, 0, 0)), (65, (.bipush (31), 2, 0, 0, 0, 31, 0)), (67, (.iadd, 1, 0, 0, 0, 0, 0)), (68, (.iload_n 2, 1, 2, 0, 0, 0, 0)), (69, (.iadd, 1, 0, 0, 0, 0, 0)), (70, (.iconst (-1), 1, 0, 0, 0, (-1), 0)), (71, (.iastore, 1, 0, 0, 0, 0, 0)), (72, (.aload_n 0, 1, 0, 0, 0, 0, 0)), (73, (.getfield 133, 3, 12, 25, 0, 0, 0)), (76, (.iload_n 1, 1, 1, 0, 0, 0, 0)), (77, (.bipush (43), 2, 0, 0, 0, 43, 0)), (79, (.iadd, 1, 0, 0, 0, 0, 0)), (80, (.iload_n 2, 1, 2, 0, 0, 0, 0)), (81, (.iadd, 1, 0, 0, 0, 0, 0)), (82, (.iconst (-1), 1, 0, 0, 0, (-1), 0)), (83, (.iastore, 1, 0, 0, 0, 0, 0)), (84, (.iinc 2 (1), 3, 2, 0, 0, 1, 0)), (87, (.goto (-62), 3, 0, 25, 0, 0, 0)), (90, (.return_, 1, 0, 0, 0, 0, 0))]
def cd_197 : List (Nat × Ent) := [(0, (.aload_n 0, 1, 0, 0, 0, 0, 0)), (1, (.getfield 103, 3, 12, 10, 0, 0, 0)), (4, (.iconst 2, 1, 0, 0, 0, 2, 0)), (5, (.iaload, 1, 0, 0, 0, 0, 0)), (6, (.ireturn, 1, 0, 0, 0, 0, 0))]
def cd_198 : List (Nat × Ent) := [(0, (.aload_n 0, 1, 0, 0, 0, 0, 0)), (1, (.getfield 103, 3, 12, 10, 0, 0, 0)), (4, (.bipush (26), 2, 0, 0, 0, 26, 0)), (6, (.iconst 5, 1, 0, 0, 0, 5, 0)), (7, (.iload_n 1, 1, 1, 0, 0, 0, 0)), (8, (.imul, 1, 0, 0, 0, 0, 0)), (9, (.iadd, 1, 0, 0, 0, 0, 0)), (10, (.iload_n 2, 1, 2, 0, 0, 0, 0)), (11, (.iadd, 1, 0, 0, 0, 0, 0)), (12, (.iaload, 1, 0, 0, 0, 0, 0)), (13, (.ireturn, 1, 0, 0, 0, 0, 0))]
def cd_199 : List (Nat × Ent) := [(0, (.aload_n 0, 1, 0, 0, 0, 0, 0)), (1, (.iconst 0, 1, 0, 0, 0, 0, 0)), (2, (.putfield 1, 3, 12, 0, 0, 0, 0)), (5, (.aload_n 0, 1, 0, 0, 0, 0, 0)), (6, (.invokevirtual 241, 3, 200, 1, 0, 0, 0)), (9, (.aload_n 0, 1, 0, 0, 0, 0, 0)), (10, (.iconst 0, 1, 0, 0, 0, 0, 0)), (11, (.putfield 244, 3, 12, 13, 0, 0, 0)), (14, (.aload_n 0, 1, 0, 0, 0, 0, 0)), (15, (.iconst 0, 1, 0, 0, 0, 0, 0)), (16, (.putfield 219, 3, 12, 19, 0, 0, 0)), (19, (.aload_n 0, 1, 0, 0, 0, 0, 0)), (20, (.iconst 0, 1, 0, 0, 0, 0, 0)), (21, (.putfield 247, 3, 12, 20, 0, 0, 0)), (24, (.aload_n 0, 1, 0, 0, 0, 0, 0)), (25, (.bipush (110), 2, 0, 0, 0, 110, 0)), (27, (.invokevirtual 161, 3, 194, 2, 0, 0, 0)), (30, (.aload_n 0, 1, 0, 0, 0, 0, 0)), (31, (.getfield 194, 3, 12, 8, 0, 0, 0)), (34, (.ifCond .ne (28), 3, 0, 62, 0, 0, 0)), (37, (.aload_n 0, 1, 0, 0, 0, 0, 0)), (38, (.getfield 24, 3, 12, 4, 0, 0, 0)), (41, (.aload_n 0, 1, 0, 0, 0, 0, 0)), (42, (.getfield 191, 3, 12, 7, 0, 0, 0)), (45, (.iaload, 1, 0, 0, 0, 0, 0)), (46, (.ifCond .eq (16), 3, 0, 62, 0, 0, 0)), (49, (.aload_n 0, 1, 0, 0, 0, 0, 0)), (50, (.invokevirtual 250, 3, 205, 1, 0, 0, 0)), (53, (.aload_n 0, 1, 0, 0, 0, 0, 0)), (54, (.bipush (59), 2, 0, 0, 0, 59, 0)), (56, (.invokevirtual 253, 3, 234, 2, 0, 0, 0)), (59, (.goto (-29), 3, 0, 30, 0, 0, 0)), (62, (.aload_n 0, 1, 0, 0, 0, 0, 0)), (63, (.getfield 194, 3, 12, 8, 0, 0, 0)), (66, (.ifCond .le (8), 3, 0, 74, 0, 0, 0)), (69, (.aload_n 0, 1, 0, 0, 0, 0, 0)), (70, (.getfield 194, 3, 12, 8, 0, 0, 0)), (73, (.ireturn, 1, 0, 0, 0, 0, 0)), (74, (.iconst 0, 1, 0, 0, 0, 0, 0)), (75, (.istore_n 1, 1, 1, 0, 0, 0, 0)), (76, (.iload_n 1, 1, 1, 0, 0, 0, 0)), (77, (.bipush (110), 2, 0, 0, 0, 110, 0)), (79, (.if_icmp .ge (24), 3, 0, 103, 0, 0, 0)), (82, (.aload_n 0, 1, 0, 0, 0, 0, 0)), (83, (.getfield 103, 3, 12, 10, 0, 0, 0)), (86, (.iload_n 1, 1, 1, 0, 0, 0, 0)), (87, (.aload_n 0, 1, 0, 0, 0, 0, 0)), (88, (.getfield 103, 3, 12, 10, 0, 0, 0)), (91, (.bipush (110), 2, 0, 0, 0, 110, 0)), (93, (.iload_n 1, 1, 1, 0, 0, 0, 0)), (94, (.iadd, 1, 0, 0, 0, 0, 0)), (95, (.iaload, 1, 0, 0, 0, 0, 0)), (96, (.iastore, 1, 0, 0, 0, 0, 0)), (97, (.iinc 1 (1), 3, 1, 0, 0, 1, 0)), (100, (.goto (-24), 3, 0, 76, 0, 0, 0)), (103, (.iconst 0, 1, 0, 0, 0, 0, 0)), (104, (.istore_n 1, 1, 1, 0, 0, 0, 0)), (105, (.iload_n 1, 1, 1, 0, 0, 0, 0)), (106, (.aload_n 0, 1, 0, 0, 0, 0, 0)), (107, (.getfield 244, 3, 12, 13, 0, 0, 0)), (110, (.if_icmp .ge (41), 3, 0, 151, 0, 0, 0)), (113, (.aload_n 0, 1, 0, 0, 0, 0, 0)), (114, (.getfield 106, 3, 12, 11, 0, 0, 0)), (117, (.iload_n 1, 1, 1, 0, 0, 0, 0)), (118, (.aload_n 0, 1, 0, 0, 0, 0, 0)), (119, (.getfield 106, 3, 12, 11, 0, 0, 0)), (122, (.sipush (1100), 3, 0, 0, 0, 1100, 0)), (125, (.iload_n 1, 1, 1, 0, 0, 0, 0)), (126, (.iadd, 1, 0, 0, 0, 0, 0)), (127, (.iaload, 1, 0, 0, 0, 0, 0)), (128, (.iastore, 1, 0, 0, 0, 0, 0)), (129, (.aload_n 0, 1, 0, 0, 0, 0, 0)), (130, (.getfield 109, 3, 12, 12, 0, 0, 0)), (133, (.iload_n 1, 1, 1, 0, 0, 0, 0)), (134, (.aload_n 0, 1, 0, 0, 0, 0, 0)), (135, (.getfield 109, 3, 12, 12, 0, 0, 0)), (138, (.sipush (1100), 3, 0, 0, 0, 1100, 0)), (141, (.iload_n 1, 1, 1, 0, 0, 0, 0)), (142, (.iadd, 1, 0, 0, 0, 0, 0)), (143, (.iaload, 1, 0, 0, 0, 0, 0)), (144, (.iastore, 1, 0, 0, 0, 0, 0)), (145, (.iinc 1 (1), 3, 1, 0, 0, 1, 0)), (148, (.goto (-43), 3, 0, 105, 0, 0, 0)), (151, (.iconst 0, 1, 0, 0, 0, 0, 0)), (152, (.istore_n 1, 1, 1, 0, 0, 0, 0)), (153, (.iload_n 1, 1, 1, 0, 0, 0, 0)), (154, (.aload_n 0, 1, 0, 0, 0, 0, 0)), (155, (.getfield 219, 3, 12, 19, 0, 0, 0)), (158, (.if_icmp .ge (33), 3, 0, 191, 0, 0, 0)), (161, (.aload_n 0, 1, 0, 0, 0, 0, 0)), (162, (.getfield 112, 3, 12, 14, 0, 0, 0)), (165, (.iload_n 1, 1, 1, 0, 0, 0, 0)), (166, (.aload_n 0, 1, 0, 0, 0, 0, 0)), (167, (.getfield 115, 3, 12, 15, 0, 0, 0)), (170, (.iload_n 1, 1, 1, 0, 0, 0, 0)), (171, (.laload, 1, 0, 0, 0, 0, 0)), (172, (.lastore, 1, 0, 0, 0, 0, 0)), (173, (.aload_n 0, 1, 0, 0, 0, 0, 0)), (174, (.getfield 118, 3, 12, 16, 0, 0, 0)), (177, (.iload_n 1, 1, 1, 0, 0, 0, 0)), (178, (.aload_n 0, 1, 0, 0, 0, 0, 0)), (179, (.getfield 121, 3, 12, 17, 0, 0, 0)), (182, (.iload_n 1, 1, 1, 0, 0, 0, 0)), (183, (.iaload, 1, 0, 0, 0, 0, 0)), (184, (.iastore, 1, 0, 0, 0, 0, 0)), (185, (.iinc 1 (1), 3, 1, 0, 0, 1, 0)), (188, (.goto (-35), 3, 0, 153, 0, 0, 0)), (191, (.aload_n 0, 1, 0, 0, 0, 0, 0)), (192, (.aload_n 0, 1, 0, 0, 0, 0, 0)), (193, (.getfield 219, 3, 12, 19, 0, 0, 0)), (196, (.putfield 222, 3, 12, 18, 0, 0, 0)), (199, (.aload_n 0, 1, 0, 0, 0, 0, 0)), (200, (.invokevirtual 165, 3, 195, 1, 0, 0, 0)), (203, (.iconst 0, 1, 0, 0, 0, 0, 0)), (204, (.ireturn, 1, 0, 0, 0, 0, 0))]
def cd_200 : List (Nat × Ent) := [(0, (.aload_n 0, 1, 0, 0, 0, 0, 0)), (1, (.aload_n 0, 1, 0, 0, 0, 0, 0)), (2, (.getfield 11, 3, 12, 2, 0, 0, 0)), (5, (.putfield 172, 3, 12, 3, 0, 0, 0)), (8, (.aload_n 0, 1, 0, 0, 0, 0, 0)), (9, (.iconst 0, 1, 0, 0, 0, 0, 0)), (10, (.putfield 11, 3, 12, 2, 0, 0, 0)), (13, (.iconst 0, 1, 0, 0, 0, 0, 0)), (14, (.istore_n 1, 1, 1, 0, 0, 0, 0)), (15, (.iconst 0, 1, 0, 0, 0, 0, 0)), (16, (.istore_n 2, 1, 2, 0, 0, 0, 0)), (17, (.iload_n 2, 1, 2, 0, 0, 0, 0)), (18, (.aload_n 0, 1, 0, 0, 0, 0, 0)), (19, (.getfield 172, 3, 12, 3, 0, 0, 0)), (22, (.if_icmp .ge (257), 3, 0, 279, 0, 0, 0)), (25, (.aload_n 0, 1, 0, 0, 0, 0, 0)), (26, (.getfield 14, 3, 12, 1, 0, 0, 0)), (29, (.iload_n 2, 1, 2, 0, 0, 0, 0)), (30, (.iaload, 1, 0, 0, 0, 0, 0)), (31, (.istore_n 3, 1, 3, 0, 0, 0, 0)), (32, (.iload_n 3, 1, 3, 0, 0, 0, 0)), (33, (.bipush (10), 2, 0, 0, 0, 10, 0)), (35, (.if_icmp .eq (9), 3, 0, 44, 0, 0, 0)), (38, (.iload_n 3, 1, 3, 0, 0, 0, 0)), (39, (.bipush (32), 2, 0, 0, 0, 32, 0)), (41, (.if_icmp .ne (9), 3, 0, 50, 0, 0, 0)), (44, (.iinc 2 (1), 3, 2, 0, 0, 1, 0)), (47, (.goto (-30), 3, 0, 17, 0, 0, 0)), (50, (.iload_n 2, 1, 2, 0, 0, 0, 0)), (51, (.istore 4, 2, 4, 0, 0, 0, 0)), (53, (.lconst 0, 1, 0, 0, 0, 0, 0)), (54, (.lstore 5, 2, 5, 0, 0, 0, 0)), (56, (.aload_n 0, 1, 0, 0, 0, 0, 0)), (57, (.getfield 27, 3, 12, 5, 0, 0, 0)), (60, (.iload_n 1, 1, 1, 0, 0, 0, 0)), (61, (.iload_n 2, 1, 2, 0, 0, 0, 0)), (62, (.iastore, 1, 0, 0, 0, 0, 0)), (63, (.iload_n 3, 1, 3, 0, 0, 0, 0)), (64, (.invokestatic 168, 3, 201, 1, 1, 0, 0)), (67, (.ifCond .eq (85), 3, 0, 152, 0, 0, 0)), (70, (.iload_n 2, 1, 2, 0, 0, 0, 0)), (71, (.aload_n 0, 1, 0, 0, 0, 0, 0)), (72, (.getfield 172, 3, 12, 3, 0, 0, 0)), (75, (.if_icmp .ge (54), 3, 0, 129, 0, 0, 0)), (78, (.aload_n 0, 1, 0, 0, 0, 0, 0)), (79, (.getfield 14, 3, 12, 1, 0, 0, 0)), (82, (.iload_n 2, 1, 2, 0, 0, 0, 0)), (83, (.iaload, 1, 0, 0, 0, 0, 0)), (84, (.invokestatic 168, 3, 201, 1, 1, 0, 0)), (87, (.ifCond .eq (42), 3, 0, 129, 0, 0, 0)), (90, (.iload_n 2, 1, 2, 0, 0, 0, 0)), (91, (.iload 4, 2, 4, 0, 0, 0, 0)), (93, (.isub, 1, 0, 0, 0, 0, 0)), (94, (.bipush (8), 2, 0, 0, 0, 8, 0)), (96, (.if_icmp .ge (23), 3, 0, 119, 0, 0, 0)), (99, (.ldc2_w 175, 3, 0, 0, 0, 0, 37)), (102, (.lload 5, 2, 5, 0, 0, 0, 0)), (104, (.lmul, 1, 0, 0, 0, 0, 0)), (105, (.aload_n 0, 1, 0, 0, 0, 0, 0)), (106, (.getfield 14, 3, 12, 1, 0, 0, 0)), (109, (.iload_n 2, 1, 2, 0, 0, 0, 0)), (110, (.iaload, 1, 0, 0, 0, 0, 0)), (111, (.invokestatic 177, 3, 202, 1, 1, 0, 0)), (114, (.i2l, 1, 0, 0, 0, 0, 0)), (115, (.ladd, 1, 0, 0, 0, 0, 0)), (116, (.goto (5), 3, 0, 121, 0, 0, 0)), (119, (.lload 5, 2, 5, 0, 0, 0, 0)), (121, (.lstore 5, 2, 5, 0, 0, 0, 0)), (123, (.iinc 2 (1), 3, 2, 0, 0, 1, 0)), (126, (.goto (-56), 3, 0, 70, 0, 0, 0)), (129, (.aload_n 0, 1, 0, 0, 0, 0, 0)), (130, (.getfield 24, 3, 12, 4, 0, 0, 0)), (133, (.iload_n 1, 1, 1, 0, 0, 0, 0)), (134, (.iload_n 2, 1, 2, 0, 0, 0, 0)), (135, (.iload 4, 2, 4, 0, 0, 0, 0)), (137, (.isub, 1, 0, 0, 0, 0, 0)), (138, (.bipush (8), 2, 0, 0, 0, 8, 0)), (140, (.if_icmp .le (7), 3, 0, 147, 0, 0, 0)), (143, (.iconst 4, 1, 0, 0, 0, 4, 0)), (144, (.goto (4), 3, 0, 148, 0, 0, 0)), (147, (.iconst 1, 1, 0, 0, 0, 1, 0)), (148, (.iastore, 1, 0, 0, 0, 0, 0)), (149, (.goto (116), 3, 0, 265, 0, 0, 0)), (152, (.iload_n 3, 1, 3, 0, 0, 0, 0)), (153, (.invokestatic 181, 3, 203, 1, 1, 0, 0)), (156, (.ifCond .eq (84), 3, 0, 240, 0, 0, 0)), (159, (.iload_n 2, 1, 2, 0, 0, 0, 0)), (160, (.aload_n 0, 1, 0, 0, 0, 0, 0)), (161, (.getfield 172, 3, 12, 3, 0, 0, 0)), (164, (.if_icmp .ge (54), 3, 0, 218, 0, 0, 0)), (167, (.aload_n 0, 1, 0, 0, 0, 0, 0)), (168, (.getfield 14, 3, 12, 1, 0, 0, 0)), (171, (.iload_n 2, 1, 2, 0, 0, 0, 0)), (172, (.iaload, 1, 0, 0, 0, 0, 0)), (173, (.invokestatic 181, 3, 203, 1, 1, 0, 0)), (176, (.ifCond .eq (42), 3, 0, 218, 0, 0, 0)), (179, (.iload_n 2, 1, 2, 0, 0, 0, 0)), (180, (.iload 4, 2, 4, 0, 0, 0, 0)), (182, (.isub, 1, 0, 0, 0, 0, 0)), (183, (.iconst 4, 1, 0, 0, 0, 4, 0)), (184, (.if_icmp .ge (24), 3, 0, 208, 0, 0, 0)), (187, (.ldc2_w 184, 3, 0, 0, 0, 0, 10)), (190, (.lload 5, 2, 5, 0, 0, 0, 0)), (192, (.lmul, 1, 0, 0, 0, 0, 0)), (193, (.aload_n 0, 1, 0, 0, 0, 0, 0)), (194, (.getfield 14, 3, 12, 1, 0, 0, 0)), (197, (.iload_n 2, 1, 2, 0, 0, 0, 0)), (198, (.iaload, 1, 0, 0, 0, 0, 0)), (199, (.i2l, 1, 0, 0, 0, 0, 0)), (200, (.ladd, 1, 0, 0, 0, 0, 0)), (201, (.ldc2_w 186, 3, 0, 0, 0, 0, 48)), (204, (.lsub, 1, 0, 0, 0, 0, 0)), (205, (.goto (5), 3, 0, 210, 0, 0, 0)), (208, (.lload 5, 2, 5, 0, 0, 0, 0)), (210, (.lstore 5, 2, 5, 0, 0, 0, 0)), (212, (.iinc 2 (1), 3, 2, 0, 0, 1, 0)), (215, (.goto (-56), 3, 0, 159, 0, 0, 0)), (218, (.aload_n 0, 1, 0, 0, 0, 0, 0)), (219, (.getfield 24, 3, 12, 4, 0, 0, 0)), (222, (.iload_n 1, 1, 1, 0, 0, 0, 0)), (223, (.iload_n 2, 1, 2, 0, 0, 0, 0)), (224, (.iload 4, 2, 4, 0, 0, 0, 0)), (226, (.isub, 1, 0, 0, 0, 0, 0)), (227, (.iconst 4, 1, 0, 0, 0, 4, 0)), (228, (.if_icmp .le (7), 3, 0, 235, 0, 0, 0)), (231, (.iconst 4, 1, 0, 0, 0, 4, 0)), (232, (.goto (4), 3, 0, 236, 0, 0, 0)), (235, (.iconst 2, 1, 0, 0, 0, 2, 0)), (236, (.iastore, 1, 0, 0, 0, 0, 0)), (237, (.goto (28), 3, 0, 265, 0, 0, 0)), (240, (.iload_n 3, 1, 3, 0, 0, 0, 0)), (241, (.i2l, 1, 0, 0, 0, 0, 0)), (242, (.lstore 5, 2, 5, 0, 0, 0, 0)), (244, (.aload_n 0, 1, 0, 0, 0, 0, 0)), (245, (.getfield 24, 3, 12, 4, 0, 0, 0)), (248, (.iload_n 1, 1, 1, 0, 0, 0, 0)), (249, (.iload_n 3, 1, 3, 0, 0, 0, 0)), (250, (.invokestatic 188, 3, 204, 1, 1, 0, 0)), (253, (.ifCond .eq (7), 3, 0, 260, 0, 0, 0)), (256, (.iconst 3, 1, 0, 0, 0, 3, 0)), (257, (.goto (4), 3, 0, 261, 0, 0, 0)), (260, (.iconst 4, 1, 0, 0, 0, 4, 0)), (261, (.iastore, 1, 0, 0, 0, 0, 0)), (262, (.iinc 2 (1), 3, 2, 0, 0, 1, 0)), (265, (.aload_n 0, 1, 0, 0, 0, 0, 0)), (266, (.getfield 30, 3, 12, 6, 0, 0, 0)), (269, (.iload_n 1, 1, 1, 0, 0, 0, 0)), (270, (.lload 5, 2, 5, 0, 0, 0, 0)), (272, (.lastore, 1, 0, 0, 0, 0, 0)), (273, (.iinc 1 (1), 3, 1, 0, 0, 1, 0)), (276, (.goto (-259), 3, 0, 17, 0, 0, 0)), (279, (.aload_n 0, 1, 0, 0, 0, 0, 0)), (280, (.getfield 24, 3, 12, 4, 0, 0, 0)), (283, (.iload_n 1, 1, 1, 0, 0, 0, 0)), (284, (.iconst 0, 1, 0, 0, 0, 0, 0)), (285, (.iastore, 1, 0, 0, 0, 0, 0)), (286, (.aload_n 0, 1, 0, 0, 0, 0, 0)), (287, (.getfield 27, 3, 12, 5, 0, 0, 0)), (290, (.iload_n 1, 1, 1, 0, 0, 0, 0)), (291, (.aload_n 0, 1, 0, 0, 0, 0, 0)), (292, (.getfield 172, 3, 12, 3, 0, 0, 0)), (295, (.iastore, 1, 0, 0, 0, 0, 0)), (296, (.aload_n 0, 1, 0, 0, 0, 0, 0)), (297, (.iconst 0, 1, 0, 0, 0, 0, 0)), (298, (.putfield 191, 3, 12, 7, 0, 0, 0)), (301, (.aload_n 0, 1, 0, 0, 0, 0, 0)), (302, (.iconst 0, 1, 0, 0, 0, 0, 0)), (303, (.putfield 194, 3, 12, 8, 0, 0, 0)), (306, (.return_, 1, 0, 0, 0, 0, 0))]
def cd_201 : List (Nat × Ent) := [(0, (.iload_n 0, 1, 0, 0, 0, 0, 0)), (1, (.bipush (97), 2, 0, 0, 0, 97, 0)), (3, (.if_icmp .lt (13), 3, 0, 16, 0, 0, 0)), (6, (.iload_n 0, 1, 0, 0, 0, 0, 0)), (7, (.bipush (122), 2, 0, 0, 0, 122, 0)), (9, (.if_icmp .gt (7), 3, 0, 16, 0, 0, 0)), (12, (.iconst 1, 1, 0, 0, 0, 1, 0)), (13, (.goto (4), 3, 0, 17, 0, 0, 0)), (16, (.iconst 0, 1, 0, 0, 0, 0, 0)), (17, (.ireturn, 1, 0, 0, 1, 0, 0))]
def cd_202 : List (Nat × Ent) := [(0, (.iload_n 0, 1, 0, 0, 0, 0, 0)), (1, (.invokestatic 168, 3, 201, 1, 1, 0, 0)), (4, (.ifCond .eq (10), 3, 0, 14, 0, 0, 0)), (7, (.iload_n 0, 1, 0, 0, 0, 0, 0)), (8, (.bipush (96), 2, 0, 0, 0, 96, 0)), (10, (.isub, 1, 0, 0, 0, 0, 0)), (11, (.goto (7), 3, 0, 18, 0, 0, 0)), (14, (.iload_n 0, 1, 0, 0, 0, 0, 0)), (15, (.bipush (21), 2, 0, 0, 0, 21, 0)), (17, (.isub, 1, 0, 0, 0, 0, 0)), (18, (.ireturn, 1, 0, 0, 0, 0, 0))]
def cd_203 : List (Nat × Ent) := [(0, (.iload_n 0, 1, 0, 0, 0, 0, 0)), (1, (.bipush (48), 2, 0, 0, 0, 48, 0)), (3, (.if_icmp .lt (13), 3, 0, 16, 0, 0, 0)), (6, (.iload_n 0, 1, 0, 0, 0, 0, 0)), (7, (.bipush (57), 2, 0, 0, 0, 57, 0)), (9, (.if_icmp .gt (7), 3, 0, 16, 0, 0, 0)), (12, (.iconst 1, 1, 0, 0, 0, 1, 0)), (13, (.goto (4), 3, 0, 17, 0, 0, 0)), (16, (.iconst 0, 1, 0, 0, 0, 0, 0)), (17, (.ireturn, 1, 0, 0, 1, 0, 0))]
def cd_204 : List (Nat × Ent) := [(0, (.iload_n 0, 1, 0, 0, 0, 0, 0)), (1, (.bipush (40), 2, 0, 0, 0, 40, 0)), (3, (.if_icmp .eq (45), 3, 0, 48, 0, 0, 0)), (6, (.iload_n 0, 1, 0, 0, 0, 0, 0)), (7, (.bipush (41), 2, 0, 0, 0, 41, 0)), (9, (.if_icmp .eq (39), 3, 0, 48, 0, 0, 0)), (12, (.iload_n 0, 1, 0, 0, 0, 0, 0)), (13, (.bipush (59), 2, 0, 0, 0, 59, 0)), (15, (.if_icmp .eq (33), 3, 0, 48, 0, 0, 0)), (18, (.iload_n 0, 1, 0, 0, 0, 0, 0)), (19, (.bipush (61), 2, 0, 0, 0, 61, 0)), (21, (.if_icmp .eq (27), 3, 0, 48, 0, 0, 0)), (24, (.iload_n 0, 1, 0, 0, 0, 0, 0)), (25, (.bipush (60), 2, 0, 0, 0, 60, 0)), (27, (.if_icmp .eq (21), 3, 0, 48, 0, 0, 0)), (30, (.iload_n 0, 1, 0, 0, 0, 0, 0)), (31, (.bipush (43), 2, 0, 0, 0, 43, 0)), (33, (.if_icmp .eq (15), 3, 0, 48, 0, 0, 0)), (36, (.iload_n 0, 1, 0, 0, 0, 0, 0)), (37, (.bipush (45), 2, 0, 0, 0, 45, 0)), (39, (.if_icmp .eq (9), 3, 0, 48, 0, 0, 0)), (42, (.iload_n 0, 1, 0, 0, 0, 0, 0)), (43, (.bipush (42), 2, 0, 0, 0, 42, 0)), (45, (.if_icmp .ne (7), 3, 0, 52, 0, 0, 0)), (48, (.iconst 1, 1, 0, 0, 0, 1, 0)), (49, (.goto (4), 3, 0, 53, 0, 0, 0)), (52, (.iconst 0, 1, 0, 0, 0, 0, 0)), (53, (.ireturn, 1, 0, 0, 1, 0, 0))]
def cd_205 : List (Nat × Ent) := [(0, (.aload_n 0, 1, 0, 0, 0, 0, 0)), (1, (.iconst 0, 1, 0, 0, 0, 0, 0)), (2, (.invokevirtual 203, 3, 206, 2, 1, 0, 0)), (5, (.ifCond .eq (10), 3, 0, 15, 0, 0, 0)), (8, (.aload_n 0, 1, 0, 0, 0, 0, 0)), (9, (.invokevirtual 256, 3, 207, 1, 0, 0, 0)), (12, (.goto (53), 3, 0, 65, 0, 0, 0)), (15, (.aload_n 0, 1, 0, 0, 0, 0, 0)), (16, (.iconst 2, 1, 0, 0, 0, 2, 0)), (17, (.invokevirtual 203, 3, 206, 2, 1, 0, 0)), (20, (.ifCond .eq (10), 3, 0, 30, 0, 0, 0)), (23, (.aload_n 0, 1, 0, 0, 0, 0, 0)), (24, (.invokevirtual 259, 3, 217, 1, 0, 0, 0)), (27, (.goto (38), 3, 0, 65, 0, 0, 0)), (30, (.aload_n 0, 1, 0, 0, 0, 0, 0)), (31, (.iconst 4, 1, 0, 0, 0, 4, 0)), (32, (.invokevirtual 203, 3, 206, 2, 1, 0, 0)), (35, (.ifCond .eq (10), 3, 0, 45, 0, 0, 0)), (38, (.aload_n 0, 1, 0, 0, 0, 0, 0)), (39, (.invokevirtual 262, 3, 219, 1, 0, 0, 0)), (42, (.goto (23), 3, 0, 65, 0, 0, 0)), (45, (.aload_n 0, 1, 0, 0, 0, 0, 0)), (46, (.bipush (9), 2, 0, 0, 0, 9, 0)), (48, (.invokevirtual 203, 3, 206, 2, 1, 0, 0)), (51, (.ifCond .eq (10), 3, 0, 61, 0, 0, 0)), (54, (.aload_n 0, 1, 0, 0, 0, 0, 0)), (55, (.invokevirtual 265, 3, 223, 1, 0, 0, 0)), (58, (.goto (7), 3, 0, 65, 0, 0, 0)), (61, (.aload_n 0, 1, 0, 0, 0, 0, 0)), (62, (.invokevirtual 268, 3, 224, 1, 0, 0, 0)), (65, (.return_, 1, 0, 0, 0, 0, 0))]
def cd_206 : List (Nat × Ent) := [(0, (.aload_n 0, 1, 0, 0, 0, 0, 0)), (1, (.getfield 194, 3, 12, 8, 0, 0, 0)), (4, (.ifCond .ne (39), 3, 0, 43, 0, 0, 0)), (7, (.aload_n 0, 1, 0, 0, 0, 0, 0)), (8, (.getfield 24, 3, 12, 4, 0, 0, 0)), (11, (.aload_n 0, 1, 0, 0, 0, 0, 0)), (12, (.getfield 191, 3, 12, 7, 0, 0, 0)), (15, (.iaload, 1, 0, 0, 0, 0, 0)), (16, (.iconst 1, 1, 0, 0, 0, 1, 0)), (17, (.if_icmp .ne (26), 3, 0, 43, 0, 0, 0)), (20, (.aload_n 0, 1, 0, 0, 0, 0, 0)), (21, (.getfield 30, 3, 12, 6, 0, 0, 0)), (24, (.aload_n 0, 1, 0, 0, 0, 0, 0)), (25, (.getfield 191, 3, 12, 7, 0, 0, 0)), (28, (.laload, 1, 0, 0, 0, 0, 0)), (29, (.aload_n 0, 1, 0, 0, 0, 0, 0)), (30, (.getfield 100, 3, 12, 9, 0, 0, 0)), (33, (.iload_n 1, 1, 1, 0, 0, 0, 0)), (34, (.laload, 1, 0, 0, 0, 0, 0)), (35, (.lcmp, 1, 0, 0, 0, 0, 0)), (36, (.ifCond .ne (7), 3, 0, 43, 0, 0, 0)), (39, (.iconst 1, 1, 0, 0, 0, 1, 0)), (40, (.goto (4), 3, 0, 44, 0, 0, 0)), (43, (.iconst 0, 1, 0, 0, 0, 0, 0)), (44, (.ireturn, 1, 0, 0, 1, 0, 0))]
def cd_207 : List (Nat × Ent) := [(0, (.aload_n 0, 1, 0, 0, 0, 0, 0)), (1, (.getfield 103, 3, 12, 10, 0, 0, 0)), (4, (.bipush (110), 2, 0, 0, 0, 110, 0)), (6, (.iaload, 1, 0, 0, 0, 0, 0)), (7, (.istore_n 1, 1, 1, 0, 0, 0, 0)), (8, (.iload_n 1, 1, 1, 0, 0, 0, 0)), (9, (.bipush (6), 2, 0, 0, 0, 6, 0)), (11, (.if_icmp .ne (9), 3, 0, 20, 0, 0, 0)), (14, (.aload_n 0, 1, 0, 0, 0, 0, 0)), (15, (.iconst 5, 1, 0, 0, 0, 5, 0)), (16, (.invokevirtual 200, 3, 208, 2, 0, 0, 0)), (19, (.return_, 1, 0, 0, 0, 0, 0)), (20, (.aload_n 0, 1, 0, 0, 0, 0, 0)), (21, (.iload_n 1, 1, 1, 0, 0, 0, 0)), (22, (.invokevirtual 271, 3, 209, 2, 0, 0, 0)), (25, (.aload_n 0, 1, 0, 0, 0, 0, 0)), (26, (.getfield 103, 3, 12, 10, 0, 0, 0)), (29, (.bipush (118), 2, 0, 0, 0, 118, 0)), (31, (.iload_n 1, 1, 1, 0, 0, 0, 0)), (32, (.iadd, 1, 0, 0, 0, 0, 0)), (33, (.aload_n 0, 1, 0, 0, 0, 0, 0)), (34, (.iconst 1, 1, 0, 0, 0, 1, 0)), (35, (.iconst 0, 1, 0, 0, 0, 0, 0)), (36, (.bipush (9), 2, 0, 0, 0, 9, 0)), (38, (.invokevirtual 274, 3, 213, 4, 1, 0, 0)), (41, (.iastore, 1, 0, 0, 0, 0, 0)), (42, (.aload_n 0, 1, 0, 0, 0, 0, 0)), (43, (.getfield 103, 3, 12, 10, 0, 0, 0)), (46, (.bipush (110), 2, 0, 0, 0, 110, 0)), (48, (.dup2, 1, 0, 0, 0, 0, 0)), (49, (.iaload, 1, 0, 0, 0, 0, 0)), (50, (.iconst 1, 1, 0, 0, 0, 1, 0)), (51, (.iadd, 1, 0, 0, 0, 0, 0)), (52, (.iastore, 1, 0, 0, 0, 0, 0)), (53, (.return_, 1, 0, 0, 0, 0, 0))]
def cd_208 : List (Nat × Ent) := [(0, (.aload_n 0, 1, 0, 0, 0, 0, 0)), (1, (.getfield 194, 3, 12, 8, 0, 0, 0)), (4, (.ifCond .ne (21), 3, 0, 25, 0, 0, 0)), (7, (.aload_n 0, 1, 0, 0, 0, 0, 0)), (8, (.iload_n 1, 1, 1, 0, 0, 0, 0)), (9, (.bipush (16), 2, 0, 0, 0, 16, 0)), (11, (.aload_n 0, 1, 0, 0, 0, 0, 0)), (12, (.getfield 27, 3, 12, 5, 0, 0, 0)), (15, (.aload_n 0, 1, 0, 0, 0, 0, 0)), (16, (.getfield 191, 3, 12, 7, 0, 0, 0)), (19, (.iaload, 1, 0, 0, 0, 0, 0)), (20, (.imul, 1, 0, 0, 0, 0, 0)), (21, (.iadd, 1, 0, 0, 0, 0, 0)), (22, (.putfield 194, 3, 12, 8, 0, 0, 0)), (25, (.return_, 1, 0, 0, 0, 0, 0))]
def cd_209 : List (Nat × Ent) := [(0, (.aload_n 0, 1, 0, 0, 0, 0, 0)), (1, (.dup, 1, 0, 0, 0, 0, 0)), (2, (.getfield 191, 3, 12, 7, 0, 0, 0)), (5, (.iconst 1, 1, 0, 0, 0, 1, 0)), (6, (.iadd, 1, 0, 0, 0, 0, 0)), (7, (.putfield 191, 3, 12, 7, 0, 0, 0)), (10, (.aload_n 0, 1, 0, 0, 0, 0, 0)), (11, (.invokevirtual 225, 3, 210, 1, 1, 0, 0)), (14, (.ifCond .ne (11), 3, 0, 25, 0, 0, 0)), (17, (.aload_n 0, 1, 0, 0, 0, 0, 0)), (18, (.iconst 1, 1, 0, 0, 0, 1, 0)), (19, (.invokevirtual 200, 3, 208, 2, 0, 0, 0)), (22, (.goto (16), 3, 0, 38, 0, 0, 0)), (25, (.aload_n 0, 1, 0, 0, 0, 0, 0)), (26, (.iconst 1, 1, 0, 0, 0, 1, 0)), (27, (.invokevirtual 229, 3, 212, 2, 1, 0, 0)), (30, (.ifCond .lt (8), 3, 0, 38, 0, 0, 0)), (33, (.aload_n 0, 1, 0, 0, 0, 0, 0)), (34, (.iconst 3, 1, 0, 0, 0, 3, 0)), (35, (.invokevirtual 200, 3, 208, 2, 0, 0, 0)), (38, (.aload_n 0, 1, 0, 0, 0, 0, 0)), (39, (.getfield 194, 3, 12, 8, 0, 0, 0)), (42, (.ifCond .ne (51), 3, 0, 93, 0, 0, 0)), (45, (.aload_n 0, 1, 0, 0, 0, 0, 0)), (46, (.getfield 115, 3, 12, 15, 0, 0, 0)), (49, (.aload_n 0, 1, 0, 0, 0, 0, 0)), (50, (.getfield 219, 3, 12, 19, 0, 0, 0)), (53, (.aload_n 0, 1, 0, 0, 0, 0, 0)), (54, (.getfield 30, 3, 12, 6, 0, 0, 0)), (57, (.aload_n 0, 1, 0, 0, 0, 0, 0)), (58, (.getfield 191, 3, 12, 7, 0, 0, 0)), (61, (.laload, 1, 0, 0, 0, 0, 0)), (62, (.lastore, 1, 0, 0, 0, 0, 0)), (63, (.aload_n 0, 1, 0, 0, 0, 0, 0)), (64, (.getfield 121, 3, 12, 17, 0, 0, 0)), (67, (.aload_n 0, 1, 0, 0, 0, 0, 0)), (68, (.getfield 219, 3, 12, 19, 0, 0, 0)), (71, (.iload_n 1, 1, 1, 0, 0, 0, 0)), (72, (.iastore, 1, 0, 0, 0, 0, 0)), (73, (.aload_n 0, 1, 0, 0, 0, 0, 0)), (74, (.dup, 1, 0, 0, 0, 0, 0)), (75, (.getfield 219, 3, 12, 19, 0, 0, 0)), (78, (.iconst 1, 1, 0, 0, 0, 1, 0)), (79, (.iadd, 1, 0, 0, 0, 0, 0)), (80, (.putfield 219, 3, 12, 19, 0, 0, 0)), (83, (.aload_n 0, 1, 0, 0, 0, 0, 0)), (84, (.dup, 1, 0, 0, 0, 0, 0)), (85, (.getfield 191, 3, 12, 7, 0, 0, 0)), (88, (.iconst 1, 1, 0, 0, 0, 1, 0)), (89, (.iadd, 1, 0, 0, 0, 0, 0)), (90, (.putfield 191, 3, 12, 7, 0, 0, 0)), (93, (.return_, 1, 0, 0, 0, 0, 0))]
def cd_210 : List (Nat × Ent) := [(0, (.aload_n 0, 1, 0, 0, 0, 0, 0)), (1, (.getfield 194, 3, 12, 8, 0, 0, 0)), (4, (.ifCond .ne (30), 3, 0, 34, 0, 0, 0)), (7, (.aload_n 0, 1, 0, 0, 0, 0, 0)), (8, (.getfield 24, 3, 12, 4, 0, 0, 0)), (11, (.aload_n 0, 1, 0, 0, 0, 0, 0)), (12, (.getfield 191, 3, 12, 7, 0, 0, 0)), (15, (.iaload, 1, 0, 0, 0, 0, 0)), (16, (.iconst 1, 1, 0, 0, 0, 1, 0)), (17, (.if_icmp .ne (17), 3, 0, 34, 0, 0, 0)), (20, (.aload_n 0, 1, 0, 0, 0, 0, 0)), (21, (.iconst 0, 1, 0, 0, 0, 0, 0)), (22, (.bipush (28), 2, 0, 0, 0, 28, 0)), (24, (.invokevirtual 216, 3, 211, 3, 1, 0, 0)), (27, (.ifCond .ge (7), 3, 0, 34, 0, 0, 0)), (30, (.iconst 1, 1, 0, 0, 0, 1, 0)), (31, (.goto (4), 3, 0, 35, 0, 0, 0)), (34, (.iconst 0, 1, 0, 0, 0, 0, 0)), (35, (.ireturn, 1, 0, 0, 1, 0, 0))]
def cd_211 : List (Nat × Ent) := [(0, (.iconst (-1), 1, 0, 0, 0, (-1), 0)), (1, (.istore_n 3, 1, 3, 0, 0, 0, 0)), (2, (.iconst 0, 1, 0, 0, 0, 0, 0)), (3, (.istore 4, 2, 4, 0, 0, 0, 0)), (5, (.iload 4, 2, 4, 0, 0, 0, 0)), (7, (.iload_n 2, 1, 2, 0, 0, 0, 0)), (8, (.if_icmp .ge (27), 3, 0, 35, 0, 0, 0)), (11, (.aload_n 0, 1, 0, 0, 0, 0, 0)), (12, (.iload_n 1, 1, 1, 0, 0, 0, 0)), (13, (.iload 4, 2, 4, 0, 0, 0, 0)), (15, (.iadd, 1, 0, 0, 0, 0, 0)), (16, (.invokevirtual 203, 3, 206, 2, 1, 0, 0)), (19, (.ifCond .eq (8), 3, 0, 27, 0, 0, 0)), (22, (.iload 4, 2, 4, 0, 0, 0, 0)), (24, (.goto (4), 3, 0, 28, 0, 0, 0)), (27, (.iload_n 3, 1, 3, 0, 0, 0, 0)), (28, (.istore_n 3, 1, 3, 0, 0, 0, 0)), (29, (.iinc 4 (1), 3, 4, 0, 0, 1, 0)), (32, (.goto (-27), 3, 0, 5, 0, 0, 0)), (35, (.iload_n 3, 1, 3, 0, 0, 0, 0)), (36, (.ireturn, 1, 0, 0, 0, 0, 0))]
def cd_212 : List (Nat × Ent) := [(0, (.iconst 0, 1, 0, 0, 0, 0, 0)), (1, (.istore_n 2, 1, 2, 0, 0, 0, 0)), (2, (.iload_n 2, 1, 2, 0, 0, 0, 0)), (3, (.iload_n 1, 1, 1, 0, 0, 0, 0)), (4, (.ifCond .eq (10), 3, 0, 14, 0, 0, 0)), (7, (.aload_n 0, 1, 0, 0, 0, 0, 0)), (8, (.getfield 219, 3, 12, 19, 0, 0, 0)), (11, (.goto (7), 3, 0, 18, 0, 0, 0)), (14, (.aload_n 0, 1, 0, 0, 0, 0, 0)), (15, (.getfield 222, 3, 12, 18, 0, 0, 0)), (18, (.if_icmp .ge (61), 3, 0, 79, 0, 0, 0)), (21, (.iload_n 1, 1, 1, 0, 0, 0, 0)), (22, (.ifCond .eq (12), 3, 0, 34, 0, 0, 0)), (25, (.aload_n 0, 1, 0, 0, 0, 0, 0)), (26, (.getfield 115, 3, 12, 15, 0, 0, 0)), (29, (.iload_n 2, 1, 2, 0, 0, 0, 0)), (30, (.laload, 1, 0, 0, 0, 0, 0)), (31, (.goto (9), 3, 0, 40, 0, 0, 0)), (34, (.aload_n 0, 1, 0, 0, 0, 0, 0)), (35, (.getfield 112, 3, 12, 14, 0, 0, 0)), (38, (.iload_n 2, 1, 2, 0, 0, 0, 0)), (39, (.laload, 1, 0, 0, 0, 0, 0)), (40, (.aload_n 0, 1, 0, 0, 0, 0, 0)), (41, (.getfield 30, 3, 12, 6, 0, 0, 0)), (44, (.aload_n 0, 1, 0, 0, 0, 0, 0)), (45, (.getfield 191, 3, 12, 7, 0, 0, 0)), (48, (.laload, 1, 0, 0, 0, 0, 0)), (49, (.lcmp, 1, 0, 0, 0, 0, 0)), (50, (.ifCond .ne (23), 3, 0, 73, 0, 0, 0)), (53, (.iload_n 1, 1, 1, 0, 0, 0, 0)), (54, (.ifCond .eq (12), 3, 0, 66, 0, 0, 0)), (57, (.aload_n 0, 1, 0, 0, 0, 0, 0)), (58, (.getfield 121, 3, 12, 17, 0, 0, 0)), (61, (.iload_n 2, 1, 2, 0, 0, 0, 0)), (62, (.iaload, 1, 0, 0, 0, 0, 0)), (63, (.goto (9), 3, 0, 72, 0, 0, 0)), (66, (.aload_n 0, 1, 0, 0, 0, 0, 0)), (67, (.getfield 118, 3, 12, 16, 0, 0, 0)), (70, (.iload_n 2, 1, 2, 0, 0, 0, 0)), (71, (.iaload, 1, 0, 0, 0, 0, 0)), (72, (.ireturn, 1, 0, 0, 0, 0, 0)), (73, (.iinc 2 (1), 3, 2, 0, 0, 1, 0)), (76, (.goto (-74), 3, 0, 2, 0, 0, 0)), (79, (.iconst (-1), 1, 0, 0, 0, (-1), 0)), (80, (.ireturn, 1, 0, 0, 0, 0, 0))]
def cd_213 : List (Nat × Ent) := [(0, (.aload_n 0, 1, 0, 0, 0, 0, 0)), (1, (.iload_n 1, 1, 1, 0, 0, 0, 0)), (2, (.invokevirtual 209, 3, 214, 2, 0, 0, 0)), (5, (.aload_n 0, 1, 0, 0, 0, 0, 0)), (6, (.iload_n 2, 1, 2, 0, 0, 0, 0)), (7, (.iload_n 3, 1, 3, 0, 0, 0, 0)), (8, (.invokevirtual 212, 3, 216, 3, 1, 0, 0)), (11, (.ireturn, 1, 0, 0, 0, 0, 0))]
def cd_214 : List (Nat × Ent) := [(0, (.aload_n 0, 1, 0, 0, 0, 0, 0)), (1, (.iload_n 1, 1, 1, 0, 0, 0, 0)), (2, (.invokevirtual 206, 3, 215, 2, 1, 0, 0)), (5, (.ifCond .ne (8), 3, 0, 13, 0, 0, 0)), (8, (.aload_n 0, 1, 0, 0, 0, 0, 0)), (9, (.iconst 1, 1, 0, 0, 0, 1, 0)), (10, (.invokevirtual 200, 3, 208, 2, 0, 0, 0)), (13, (.return_, 1, 0, 0, 0, 0, 0))]
def cd_215 : List (Nat × Ent) := [(0, (.aload_n 0, 1, 0, 0, 0, 0, 0)), (1, (.iload_n 1, 1, 1, 0, 0, 0, 0)), (2, (.invokevirtual 203, 3, 206, 2, 1, 0, 0)), (5, (.istore_n 2, 1, 2, 0, 0, 0, 0)), (6, (.aload_n 0, 1, 0, 0, 0, 0, 0)), (7, (.dup, 1, 0, 0, 0, 0, 0)), (8, (.getfield 191, 3, 12, 7, 0, 0, 0)), (11, (.iload_n 2, 1, 2, 0, 0, 0, 0)), (12, (.ifCond .eq (7), 3, 0, 19, 0, 0, 0)), (15, (.iconst 1, 1, 0, 0, 0, 1, 0)), (16, (.goto (4), 3, 0, 20, 0, 0, 0)), (19, (.iconst 0, 1, 0, 0, 0, 0, 0)), (20, (.iadd, 1, 0, 0, 0, 0, 0)), (21, (.putfield 191, 3, 12, 7, 0, 0, 0)), (24, (.iload_n 2, 1, 2, 0, 0, 0, 0)), (25, (.ireturn, 1, 0, 0, 1, 0, 0))]
def cd_216 : List (Nat × Ent) := [(0, (.aload_n 0, 1, 0, 0, 0, 0, 0)), (1, (.getfield 194, 3, 12, 8, 0, 0, 0)), (4, (.ifCond .ne (24), 3, 0, 28, 0, 0, 0)), (7, (.aload_n 0, 1, 0, 0, 0, 0, 0)), (8, (.getfield 24, 3, 12, 4, 0, 0, 0)), (11, (.aload_n 0, 1, 0, 0, 0, 0, 0)), (12, (.getfield 191, 3, 12, 7, 0, 0, 0)), (15, (.iaload, 1, 0, 0, 0, 0, 0)), (16, (.iconst 2, 1, 0, 0, 0, 2, 0)), (17, (.if_icmp .eq (11), 3, 0, 28, 0, 0, 0)), (20, (.aload_n 0, 1, 0, 0, 0, 0, 0)), (21, (.iconst 1, 1, 0, 0, 0, 1, 0)), (22, (.invokevirtual 200, 3, 208, 2, 0, 0, 0)), (25, (.goto (45), 3, 0, 70, 0, 0, 0)), (28, (.aload_n 0, 1, 0, 0, 0, 0, 0)), (29, (.getfield 194, 3, 12, 8, 0, 0, 0)), (32, (.ifCond .ne (38), 3, 0, 70, 0, 0, 0)), (35, (.aload_n 0, 1, 0, 0, 0, 0, 0)), (36, (.getfield 30, 3, 12, 6, 0, 0, 0)), (39, (.aload_n 0, 1, 0, 0, 0, 0, 0)), (40, (.getfield 191, 3, 12, 7, 0, 0, 0)), (43, (.laload, 1, 0, 0, 0, 0, 0)), (44, (.iload_n 1, 1, 1, 0, 0, 0, 0)), (45, (.i2l, 1, 0, 0, 0, 0, 0)), (46, (.lcmp, 1, 0, 0, 0, 0, 0)), (47, (.ifCond .lt (18), 3, 0, 65, 0, 0, 0)), (50, (.aload_n 0, 1, 0, 0, 0, 0, 0)), (51, (.getfield 30, 3, 12, 6, 0, 0, 0)), (54, (.aload_n 0, 1, 0, 0, 0, 0, 0)), (55, (.getfield 191, 3, 12, 7, 0, 0, 0)), (58, (.laload, 1, 0, 0, 0, 0, 0)), (59, (.iload_n 2, 1, 2, 0, 0, 0, 0)), (60, (.i2l, 1, 0, 0, 0, 0, 0)), (61, (.lcmp, 1, 0, 0, 0, 0, 0)), (62, (.ifCond .le (8), 3, 0, 70, 0, 0, 0)), (65, (.aload_n 0, 1, 0, 0, 0, 0, 0)), (66, (.iconst 4, 1, 0, 0, 0, 4, 0)), (67, (.invokevirtual 200, 3, 208, 2, 0, 0, 0)), (70, (.aload_n 0, 1, 0, 0, 0, 0, 0)), (71, (.getfield 194, 3, 12, 8, 0, 0, 0)), (74, (.ifCond .le (5), 3, 0, 79, 0, 0, 0)), (77, (.iconst 0, 1, 0, 0, 0, 0, 0)), (78, (.ireturn, 1, 0, 0, 0, 0, 0)), (79, (.aload_n 0, 1, 0, 0, 0, 0, 0)), (80, (.dup, 1, 0, 0, 0, 0, 0)), (81, (.getfield 191, 3, 12, 7, 0, 0, 0)), (84, (.iconst 1, 1, 0, 0, 0, 1, 0)), (85, (.iadd, 1, 0, 0, 0, 0, 0)), (86, (.putfield 191, 3, 12, 7, 0, 0, 0)), (89, (.aload_n 0, 1, 0, 0, 0, 0, 0)), (90, (.getfield 30, 3, 12, 6, 0, 0, 0)), (93, (.aload_n 0, 1, 0, 0, 0, 0, 0)), (94, (.getfield 191, 3, 12, 7, 0, 0, 0)), (97, (.iconst 1, 1, 0, 0, 0, 1, 0)), (98, (.isub, 1, 0, 0, 0, 0, 0)), (99, (.laload, 1, 0, 0, 0, 0, 0)), (100, (.l2i, 1, 0, 0, 0, 0, 0)), (101, (.ireturn, 1, 0, 0, 0, 0, 0))]
def cd_217 : List (Nat × Ent) := [(0, (.aload_n 0, 1, 0, 0, 0, 0, 0)), (1, (.getfield 103, 3, 12, 10, 0, 0, 0)), (4, (.bipush (111), 2, 0, 0, 0, 111, 0)), (6, (.iaload, 1, 0, 0, 0, 0, 0)), (7, (.istore_n 1, 1, 1, 0, 0, 0, 0)), (8, (.iload_n 1, 1, 1, 0, 0, 0, 0)), (9, (.bipush (6), 2, 0, 0, 0, 6, 0)), (11, (.if_icmp .ne (9), 3, 0, 20, 0, 0, 0)), (14, (.aload_n 0, 1, 0, 0, 0, 0, 0)), (15, (.iconst 5, 1, 0, 0, 0, 5, 0)), (16, (.invokevirtual 200, 3, 208, 2, 0, 0, 0)), (19, (.return_, 1, 0, 0, 0, 0, 0)), (20, (.aload_n 0, 1, 0, 0, 0, 0, 0)), (21, (.bipush (20), 2, 0, 0, 0, 20, 0)), (23, (.iload_n 1, 1, 1, 0, 0, 0, 0)), (24, (.iadd, 1, 0, 0, 0, 0, 0)), (25, (.invokevirtual 271, 3, 209, 2, 0, 0, 0)), (28, (.aload_n 0, 1, 0, 0, 0, 0, 0)), (29, (.getfield 103, 3, 12, 10, 0, 0, 0)), (32, (.bipush (124), 2, 0, 0, 0, 124, 0)), (34, (.iconst 2, 1, 0, 0, 0, 2, 0)), (35, (.iload_n 1, 1, 1, 0, 0, 0, 0)), (36, (.imul, 1, 0, 0, 0, 0, 0)), (37, (.iadd, 1, 0, 0, 0, 0, 0)), (38, (.aload_n 0, 1, 0, 0, 0, 0, 0)), (39, (.bipush (19), 2, 0, 0, 0, 19, 0)), (41, (.iconst 2, 1, 0, 0, 0, 2, 0)), (42, (.invokevirtual 278, 3, 218, 3, 1, 0, 0)), (45, (.iastore, 1, 0, 0, 0, 0, 0)), (46, (.aload_n 0, 1, 0, 0, 0, 0, 0)), (47, (.getfield 103, 3, 12, 10, 0, 0, 0)), (50, (.bipush (124), 2, 0, 0, 0, 124, 0)), (52, (.iconst 2, 1, 0, 0, 0, 2, 0)), (53, (.iload_n 1, 1, 1, 0, 0, 0, 0)), (54, (.imul, 1, 0, 0, 0, 0, 0)), (55, (.iadd, 1, 0, 0, 0, 0, 0)), (56, (.iconst 1, 1, 0, 0, 0, 1, 0)), (57, (.iadd, 1, 0, 0, 0, 0, 0)), (58, (.aload_n 0, 1, 0, 0, 0, 0, 0)), (59, (.iconst 3, 1, 0, 0, 0, 3, 0)), (60, (.iconst 0, 1, 0, 0, 0, 0, 0)), (61, (.bipush (9), 2, 0, 0, 0, 9, 0)), (63, (.invokevirtual 274, 3, 213, 4, 1, 0, 0)), (66, (.iastore, 1, 0, 0, 0, 0, 0)), (67, (.aload_n 0, 1, 0, 0, 0, 0, 0)), (68, (.getfield 103, 3, 12, 10, 0, 0, 0)), (71, (.bipush (111), 2, 0, 0, 0, 111, 0)), (73, (.dup2, 1, 0, 0, 0, 0, 0)), (74, (.iaload, 1, 0, 0, 0, 0, 0)), (75, (.iconst 1, 1, 0, 0, 0, 1, 0)), (76, (.iadd, 1, 0, 0, 0, 0, 0)), (77, (.iastore, 1, 0, 0, 0, 0, 0)), (78, (.return_, 1, 0, 0, 0, 0, 0))]
def cd_218 : List (Nat × Ent) := [(0, (.aload_n 0, 1, 0, 0, 0, 0, 0)), (1, (.getfield 194, 3, 12, 8, 0, 0, 0)), (4, (.ifCond .le (7), 3, 0, 11, 0, 0, 0)), (7, (.iconst (-1), 1, 0, 0, 0, (-1), 0)), (8, (.goto (9), 3, 0, 17, 0, 0, 0)), (11, (.aload_n 0, 1, 0, 0, 0, 0, 0)), (12, (.iload_n 1, 1, 1, 0, 0, 0, 0)), (13, (.iload_n 2, 1, 2, 0, 0, 0, 0)), (14, (.invokevirtual 216, 3, 211, 3, 1, 0, 0)), (17, (.istore_n 3, 1, 3, 0, 0, 0, 0)), (18, (.aload_n 0, 1, 0, 0, 0, 0, 0)), (19, (.getfield 194, 3, 12, 8, 0, 0, 0)), (22, (.ifCond .ne (12), 3, 0, 34, 0, 0, 0)), (25, (.iload_n 3, 1, 3, 0, 0, 0, 0)), (26, (.ifCond .ge (8), 3, 0, 34, 0, 0, 0)), (29, (.aload_n 0, 1, 0, 0, 0, 0, 0)), (30, (.iconst 1, 1, 0, 0, 0, 1, 0)), (31, (.invokevirtual 200, 3, 208, 2, 0, 0, 0)), (34, (.aload_n 0, 1, 0, 0, 0, 0, 0)), (35, (.dup, 1, 0, 0, 0, 0, 0)), (36, (.getfield 191, 3, 12, 7, 0, 0, 0)), (39, (.aload_n 0, 1, 0, 0, 0, 0, 0)), (40, (.getfield 194, 3, 12, 8, 0, 0, 0)), (43, (.ifCond .le (7), 3, 0, 50, 0, 0, 0)), (46, (.iconst 0, 1, 0, 0, 0, 0, 0)), (47, (.goto (4), 3, 0, 51, 0, 0, 0)), (50, (.iconst 1, 1, 0, 0, 0, 1, 0)), (51, (.iadd, 1, 0, 0, 0, 0, 0)), (52, (.putfield 191, 3, 12, 7, 0, 0, 0)), (55, (.aload_n 0, 1, 0, 0, 0, 0, 0)), (56, (.getfield 194, 3, 12, 8, 0, 0, 0)), (59, (.ifCond .le (7), 3, 0, 66, 0, 0, 0)), (62, (.iconst 0, 1, 0, 0, 0, 0, 0)), (63, (.goto (4), 3, 0, 67, 0, 0, 0)), (66, (.iload_n 3, 1, 3, 0, 0, 0, 0)), (67, (.ireturn, 1, 0, 0, 0, 0, 0))]
def cd_219 : List (Nat × Ent) := [(0, (.aload_n 0, 1, 0, 0, 0, 0, 0)), (1, (.getfield 103, 3, 12, 10, 0, 0, 0)), (4, (.bipush (112), 2, 0, 0, 0, 112, 0)), (6, (.iaload, 1, 0, 0, 0, 0, 0)), (7, (.istore_n 1, 1, 1, 0, 0, 0, 0)), (8, (.iload_n 1, 1, 1, 0, 0, 0, 0)), (9, (.bipush (6), 2, 0, 0, 0, 6, 0)), (11, (.if_icmp .ne (9), 3, 0, 20, 0, 0, 0)), (14, (.aload_n 0, 1, 0, 0, 0, 0, 0)), (15, (.iconst 5, 1, 0, 0, 0, 5, 0)), (16, (.invokevirtual 200, 3, 208, 2, 0, 0, 0)), (19, (.return_, 1, 0, 0, 0, 0, 0)), (20, (.aload_n 0, 1, 0, 0, 0, 0, 0)), (21, (.bipush (40), 2, 0, 0, 0, 40, 0)), (23, (.iload_n 1, 1, 1, 0, 0, 0, 0)), (24, (.iadd, 1, 0, 0, 0, 0, 0)), (25, (.invokevirtual 271, 3, 209, 2, 0, 0, 0)), (28, (.sipush (136), 3, 0, 0, 0, 136, 0)), (31, (.iconst 5, 1, 0, 0, 0, 5, 0)), (32, (.iload_n 1, 1, 1, 0, 0, 0, 0)), (33, (.imul, 1, 0, 0, 0, 0, 0)), (34, (.iadd, 1, 0, 0, 0, 0, 0)), (35, (.istore_n 2, 1, 2, 0, 0, 0, 0)), (36, (.aload_n 0, 1, 0, 0, 0, 0, 0)), (37, (.getfield 103, 3, 12, 10, 0, 0, 0)), (40, (.iload_n 2, 1, 2, 0, 0, 0, 0)), (41, (.aload_n 0, 1, 0, 0, 0, 0, 0)), (42, (.bipush (21), 2, 0, 0, 0, 21, 0)), (44, (.iconst 4, 1, 0, 0, 0, 4, 0)), (45, (.invokevirtual 278, 3, 218, 3, 1, 0, 0)), (48, (.iastore, 1, 0, 0, 0, 0, 0)), (49, (.aload_n 0, 1, 0, 0, 0, 0, 0)), (50, (.getfield 103, 3, 12, 10, 0, 0, 0)), (53, (.iload_n 2, 1, 2, 0, 0, 0, 0)), (54, (.iconst 1, 1, 0, 0, 0, 1, 0)), (55, (.iadd, 1, 0, 0, 0, 0, 0)), (56, (.aload_n 0, 1, 0, 0, 0, 0, 0)), (57, (.iconst 5, 1, 0, 0, 0, 5, 0)), (58, (.iconst 1, 1, 0, 0, 0, 1, 0)), (59, (.bipush (20), 2, 0, 0, 0, 20, 0)), (61, (.invokevirtual 274, 3, 213, 4, 1, 0, 0)), (64, (.iastore, 1, 0, 0, 0, 0, 0)), (65, (.aload_n 0, 1, 0, 0, 0, 0, 0)), (66, (.getfield 103, 3, 12, 10, 0, 0, 0)), (69, (.iload_n 2, 1, 2, 0, 0, 0, 0)), (70, (.iconst 2, 1, 0, 0, 0, 2, 0)), (71, (.iadd, 1, 0, 0, 0, 0, 0)), (72, (.aload_n 0, 1, 0, 0, 0, 0, 0)), (73, (.bipush (6), 2, 0, 0, 0, 6, 0)), (75, (.iconst 1, 1, 0, 0, 0, 1, 0)), (76, (.bipush (99), 2, 0, 0, 0, 99, 0)), (78, (.invokevirtual 274, 3, 213, 4, 1, 0, 0)), (81, (.iastore, 1, 0, 0, 0, 0, 0)), (82, (.aload_n 0, 1, 0, 0, 0, 0, 0)), (83, (.getfield 103, 3, 12, 10, 0, 0, 0)), (86, (.iload_n 2, 1, 2, 0, 0, 0, 0)), (87, (.iconst 3, 1, 0, 0, 0, 3, 0)), (88, (.iadd, 1, 0, 0, 0, 0, 0)), (89, (.aload_n 0, 1, 0, 0, 0, 0, 0)), (90, (.bipush (7), 2, 0, 0, 0, 7, 0)), (92, (.iconst 0, 1, 0, 0, 0, 0, 0)), (93, (.bipush (99), 2, 0, 0, 0, 99, 0)), (95, (.invokevirtual 274, 3, 213, 4, 1, 0, 0)), (98, (.iastore, 1, 0, 0, 0, 0, 0)), (99, (.aload_n 0, 1, 0, 0, 0, 0, 0)), (100, (.bipush (8), 2, 0, 0, 0, 8, 0)), (102, (.invokevirtual 209, 3, 214, 2, 0, 0, 0)), (105, (.aload_n 0, 1, 0, 0, 0, 0, 0)), (106, (.getfield 103, 3, 12, 10, 0, 0, 0)), (109, (.iload_n 2, 1, 2, 0, 0, 0, 0)), (110, (.iconst 4, 1, 0, 0, 0, 4, 0)), (111, (.iadd, 1, 0, 0, 0, 0, 0)), (112, (.aload_n 0, 1, 0, 0, 0, 0, 0)), (113, (.iconst 1, 1, 0, 0, 0, 1, 0)), (114, (.bipush (20), 2, 0, 0, 0, 20, 0)), (116, (.invokevirtual 281, 3, 220, 3, 1, 0, 0)), (119, (.iastore, 1, 0, 0, 0, 0, 0)), (120, (.aload_n 0, 1, 0, 0, 0, 0, 0)), (121, (.getfield 103, 3, 12, 10, 0, 0, 0)), (124, (.bipush (112), 2, 0, 0, 0, 112, 0)), (126, (.dup2, 1, 0, 0, 0, 0, 0)), (127, (.iaload, 1, 0, 0, 0, 0, 0)), (128, (.iconst 1, 1, 0, 0, 0, 1, 0)), (129, (.iadd, 1, 0, 0, 0, 0, 0)), (130, (.iastore, 1, 0, 0, 0, 0, 0)), (131, (.return_, 1, 0, 0, 0, 0, 0))]
def cd_220 : List (Nat × Ent) := [(0, (.aload_n 0, 1, 0, 0, 0, 0, 0)), (1, (.iload_n 1, 1, 1, 0, 0, 0, 0)), (2, (.iload_n 2, 1, 2, 0, 0, 0, 0)), (3, (.invokevirtual 237, 3, 221, 3, 1, 0, 0)), (6, (.istore_n 3, 1, 3, 0, 0, 0, 0)), (7, (.aload_n 0, 1, 0, 0, 0, 0, 0)), (8, (.dup, 1, 0, 0, 0, 0, 0)), (9, (.getfield 191, 3, 12, 7, 0, 0, 0)), (12, (.aload_n 0, 1, 0, 0, 0, 0, 0)), (13, (.getfield 194, 3, 12, 8, 0, 0, 0)), (16, (.ifCond .le (7), 3, 0, 23, 0, 0, 0)), (19, (.iconst 0, 1, 0, 0, 0, 0, 0)), (20, (.goto (4), 3, 0, 24, 0, 0, 0)), (23, (.iconst 1, 1, 0, 0, 0, 1, 0)), (24, (.iadd, 1, 0, 0, 0, 0, 0)), (25, (.putfield 191, 3, 12, 7, 0, 0, 0)), (28, (.iload_n 3, 1, 3, 0, 0, 0, 0)), (29, (.ireturn, 1, 0, 0, 0, 0, 0))]
def cd_221 : List (Nat × Ent) := [(0, (.aload_n 0, 1, 0, 0, 0, 0, 0)), (1, (.getfield 194, 3, 12, 8, 0, 0, 0)), (4, (.ifCond .ne (15), 3, 0, 19, 0, 0, 0)), (7, (.aload_n 0, 1, 0, 0, 0, 0, 0)), (8, (.invokevirtual 225, 3, 210, 1, 1, 0, 0)), (11, (.ifCond .ne (8), 3, 0, 19, 0, 0, 0)), (14, (.aload_n 0, 1, 0, 0, 0, 0, 0)), (15, (.iconst 1, 1, 0, 0, 0, 1, 0)), (16, (.invokevirtual 200, 3, 208, 2, 0, 0, 0)), (19, (.aload_n 0, 1, 0, 0, 0, 0, 0)), (20, (.getfield 194, 3, 12, 8, 0, 0, 0)), (23, (.ifCond .le (7), 3, 0, 30, 0, 0, 0)), (26, (.iconst (-1), 1, 0, 0, 0, (-1), 0)), (27, (.goto (10), 3, 0, 37, 0, 0, 0)), (30, (.aload_n 0, 1, 0, 0, 0, 0, 0)), (31, (.iload_n 1, 1, 1, 0, 0, 0, 0)), (32, (.invokevirtual 229, 3, 212, 2, 1, 0, 0)), (35, (.iload_n 2, 1, 2, 0, 0, 0, 0)), (36, (.isub, 1, 0, 0, 0, 0, 0)), (37, (.istore_n 3, 1, 3, 0, 0, 0, 0)), (38, (.aload_n 0, 1, 0, 0, 0, 0, 0)), (39, (.getfield 194, 3, 12, 8, 0, 0, 0)), (42, (.ifCond .ne (17), 3, 0, 59, 0, 0, 0)), (45, (.iload_n 3, 1, 3, 0, 0, 0, 0)), (46, (.iconst 0, 1, 0, 0, 0, 0, 0)), (47, (.iconst 5, 1, 0, 0, 0, 5, 0)), (48, (.invokestatic 233, 3, 222, 3, 1, 0, 0)), (51, (.ifCond .ne (8), 3, 0, 59, 0, 0, 0)), (54, (.aload_n 0, 1, 0, 0, 0, 0, 0)), (55, (.iconst 2, 1, 0, 0, 0, 2, 0)), (56, (.invokevirtual 200, 3, 208, 2, 0, 0, 0)), (59, (.aload_n 0, 1, 0, 0, 0, 0, 0)), (60, (.getfield 194, 3, 12, 8, 0, 0, 0)), (63, (.ifCond .le (7), 3, 0, 70, 0, 0, 0)), (66, (.iconst 0, 1, 0, 0, 0, 0, 0)), (67, (.goto (4), 3, 0, 71, 0, 0, 0)), (70, (.iload_n 3, 1, 3, 0, 0, 0, 0)), (71, (.ireturn, 1, 0, 0, 0, 0, 0))]
def cd_222 : List (Nat × Ent) := [(0, (.iload_n 0, 1, 0, 0, 0, 0, 0)), (1, (.iload_n 1, 1, 1, 0, 0, 0, 0)), (2, (.if_icmp .lt (12), 3, 0, 14, 0, 0, 0)), (5, (.iload_n 0, 1, 0, 0, 0, 0, 0)), (6, (.iload_n 2, 1, 2, 0, 0, 0, 0)), (7, (.if_icmp .gt (7), 3, 0, 14, 0, 0, 0)), (10, (.iconst 1, 1, 0, 0, 0, 1, 0)), (11, (.goto (4), 3, 0, 15, 0, 0, 0)), (14, (.iconst 0, 1, 0, 0, 0, 0, 0)), (15, (.ireturn, 1, 0, 0, 1, 0, 0))]
def cd_223 : List (Nat × Ent) := [(0, (.aload_n 0, 1, 0, 0, 0, 0, 0)), (1, (.dup, 1, 0, 0, 0, 0, 0)), (2, (.getfield 191, 3, 12, 7, 0, 0, 0)), (5, (.iconst 1, 1, 0, 0, 0, 1, 0)), (6, (.iadd, 1, 0, 0, 0, 0, 0)), (7, (.putfield 191, 3, 12, 7, 0, 0, 0)), (10, (.aload_n 0, 1, 0, 0, 0, 0, 0)), (11, (.iconst 1, 1, 0, 0, 0, 1, 0)), (12, (.bipush (40), 2, 0, 0, 0, 40, 0)), (14, (.invokevirtual 281, 3, 220, 3, 1, 0, 0)), (17, (.istore_n 1, 1, 1, 0, 0, 0, 0)), (18, (.aload_n 0, 1, 0, 0, 0, 0, 0)), (19, (.iconst 1, 1, 0, 0, 0, 1, 0)), (20, (.bipush (40), 2, 0, 0, 0, 40, 0)), (22, (.invokevirtual 237, 3, 221, 3, 1, 0, 0)), (25, (.istore_n 2, 1, 2, 0, 0, 0, 0)), (26, (.aload_n 0, 1, 0, 0, 0, 0, 0)), (27, (.getfield 194, 3, 12, 8, 0, 0, 0)), (30, (.ifCond .ne (32), 3, 0, 62, 0, 0, 0)), (33, (.iload_n 1, 1, 1, 0, 0, 0, 0)), (34, (.iload_n 2, 1, 2, 0, 0, 0, 0)), (35, (.if_icmp .eq (22), 3, 0, 57, 0, 0, 0)), (38, (.aload_n 0, 1, 0, 0, 0, 0, 0)), (39, (.getfield 103, 3, 12, 10, 0, 0, 0)), (42, (.sipush (166), 3, 0, 0, 0, 166, 0)), (45, (.bipush (6), 2, 0, 0, 0, 6, 0)), (47, (.iload_n 1, 1, 1, 0, 0, 0, 0)), (48, (.imul, 1, 0, 0, 0, 0, 0)), (49, (.iadd, 1, 0, 0, 0, 0, 0)), (50, (.iload_n 2, 1, 2, 0, 0, 0, 0)), (51, (.iadd, 1, 0, 0, 0, 0, 0)), (52, (.iaload, 1, 0, 0, 0, 0, 0)), (53, (.iconst 1, 1, 0, 0, 0, 1, 0)), (54, (.if_icmp .ne (8), 3, 0, 62, 0, 0, 0)), (57, (.aload_n 0, 1, 0, 0, 0, 0, 0)), (58, (.iconst 3, 1, 0, 0, 0, 3, 0)), (59, (.invokevirtual 200, 3, 208, 2, 0, 0, 0)), (62, (.aload_n 0, 1, 0, 0, 0, 0, 0)), (63, (.getfield 194, 3, 12, 8, 0, 0, 0)), (66, (.ifCond .ne (56), 3, 0, 122, 0, 0, 0)), (69, (.aload_n 0, 1, 0, 0, 0, 0, 0)), (70, (.dup, 1, 0, 0, 0, 0, 0)), (71, (.getfield 191, 3, 12, 7, 0, 0, 0)), (74, (.iconst 1, 1, 0, 0, 0, 1, 0)), (75, (.iadd, 1, 0, 0, 0, 0, 0)), (76, (.putfield 191, 3, 12, 7, 0, 0, 0)), (79, (.aload_n 0, 1, 0, 0, 0, 0, 0)), (80, (.getfield 103, 3, 12, 10, 0, 0, 0)), (83, (.sipush (166), 3, 0, 0, 0, 166, 0)), (86, (.bipush (6), 2, 0, 0, 0, 6, 0)), (88, (.iload_n 1, 1, 1, 0, 0, 0, 0)), (89, (.imul, 1, 0, 0, 0, 0, 0)), (90, (.iadd, 1, 0, 0, 0, 0, 0)), (91, (.iload_n 2, 1, 2, 0, 0, 0, 0)), (92, (.iadd, 1, 0, 0, 0, 0, 0)), (93, (.iconst 1, 1, 0, 0, 0, 1, 0)), (94, (.iastore, 1, 0, 0, 0, 0, 0)), (95, (.aload_n 0, 1, 0, 0, 0, 0, 0)), (96, (.getfield 103, 3, 12, 10, 0, 0, 0)), (99, (.sipush (166), 3, 0, 0, 0, 166, 0)), (102, (.bipush (6), 2, 0, 0, 0, 6, 0)), (104, (.iload_n 2, 1, 2, 0, 0, 0, 0)), (105, (.imul, 1, 0, 0, 0, 0, 0)), (106, (.iadd, 1, 0, 0, 0, 0, 0)), (107, (.iload_n 1, 1, 1, 0, 0, 0, 0)), (108, (.iadd, 1, 0, 0, 0, 0, 0)), (109, (.iconst 1, 1, 0, 0, 0, 1, 0)), (110, (.iastore, 1, 0, 0, 0, 0, 0)), (111, (.aload_n 0, 1, 0, 0, 0, 0, 0)), (112, (.getfield 103, 3, 12, 10, 0, 0, 0)), (115, (.bipush (113), 2, 0, 0, 0, 113, 0)), (117, (.dup2, 1, 0, 0, 0, 0, 0)), (118, (.iaload, 1, 0, 0, 0, 0, 0)), (119, (.iconst 1, 1, 0, 0, 0, 1, 0)), (120, (.iadd, 1, 0, 0, 0, 0, 0)), (121, (.iastore, 1, 0, 0, 0, 0, 0)), (122, (.return_, 1, 0, 0, 0, 0, 0))]
def cd_224 : List (Nat × Ent) := [(0, (.aload_n 0, 1, 0, 0, 0, 0, 0)), (1, (.bipush (10), 2, 0, 0, 0, 10, 0)), (3, (.iconst 4, 1, 0, 0, 0, 4, 0)), (4, (.invokevirtual 216, 3, 211, 3, 1, 0, 0)), (7, (.istore_n 1, 1, 1, 0, 0, 0, 0)), (8, (.iload_n 1, 1, 1, 0, 0, 0, 0)), (9, (.ifCond .ge (11), 3, 0, 20, 0, 0, 0)), (12, (.aload_n 0, 1, 0, 0, 0, 0, 0)), (13, (.iconst 1, 1, 0, 0, 0, 1, 0)), (14, (.invokevirtual 200, 3, 208, 2, 0, 0, 0)), (17, (.goto (20), 3, 0, 37, 0, 0, 0)), (20, (.aload_n 0, 1, 0, 0, 0, 0, 0)), (21, (.getfield 247, 3, 12, 20, 0, 0, 0)), (24, (.iload_n 1, 1, 1, 0, 0, 0, 0)), (25, (.ishr, 1, 0, 0, 0, 0, 0)), (26, (.iconst 1, 1, 0, 0, 0, 1, 0)), (27, (.iand, 1, 0, 0, 0, 0, 0)), (28, (.iconst 1, 1, 0, 0, 0, 1, 0)), (29, (.if_icmp .ne (8), 3, 0, 37, 0, 0, 0)), (32, (.aload_n 0, 1, 0, 0, 0, 0, 0)), (33, (.iconst 3, 1, 0, 0, 0, 3, 0)), (34, (.invokevirtual 200, 3, 208, 2, 0, 0, 0)), (37, (.aload_n 0, 1, 0, 0, 0, 0, 0)), (38, (.getfield 194, 3, 12, 8, 0, 0, 0)), (41, (.ifCond .le (4), 3, 0, 45, 0, 0, 0)), (44, (.return_, 1, 0, 0, 0, 0, 0)), (45, (.aload_n 0, 1, 0, 0, 0, 0, 0)), (46, (.dup, 1, 0, 0, 0, 0, 0)), (47, (.getfield 247, 3, 12, 20, 0, 0, 0)), (50, (.iconst 1, 1, 0, 0, 0, 1, 0)), (51, (.iload_n 1, 1, 1, 0, 0, 0, 0)), (52, (.ishl, 1, 0, 0, 0, 0, 0)), (53, (.ior, 1, 0, 0, 0, 0, 0)), (54, (.putfield 247, 3, 12, 20, 0, 0, 0)), (57, (.aload_n 0, 1, 0, 0, 0, 0, 0)), (58, (.dup, 1, 0, 0, 0, 0, 0)), (59, (.getfield 191, 3, 12, 7, 0, 0, 0)), (62, (.iconst 1, 1, 0, 0, 0, 1, 0)), (63, (.iadd, 1, 0, 0, 0, 0, 0)), (64, (.putfield 191, 3, 12, 7, 0, 0, 0)), (67, (.iload_n 1, 1, 1, 0, 0, 0, 0)), (68, (.ifCond .ne (10), 3, 0, 78, 0, 0, 0)), (71, (.aload_n 0, 1, 0, 0, 0, 0, 0)), (72, (.invokevirtual 284, 3, 225, 1, 0, 0, 0)), (75, (.goto (67), 3, 0, 142, 0, 0, 0)), (78, (.iload_n 1, 1, 1, 0, 0, 0, 0)), (79, (.iconst 1, 1, 0, 0, 0, 1, 0)), (80, (.if_icmp .ne (20), 3, 0, 100, 0, 0, 0)), (83, (.aload_n 0, 1, 0, 0, 0, 0, 0)), (84, (.getfield 103, 3, 12, 10, 0, 0, 0)), (87, (.bipush (115), 2, 0, 0, 0, 115, 0)), (89, (.aload_n 0, 1, 0, 0, 0, 0, 0)), (90, (.iconst 0, 1, 0, 0, 0, 0, 0)), (91, (.bipush (10), 2, 0, 0, 0, 10, 0)), (93, (.invokevirtual 212, 3, 216, 3, 1, 0, 0)), (96, (.iastore, 1, 0, 0, 0, 0, 0)), (97, (.goto (45), 3, 0, 142, 0, 0, 0)), (100, (.aload_n 0, 1, 0, 0, 0, 0, 0)), (101, (.getfield 103, 3, 12, 10, 0, 0, 0)), (104, (.bipush (116), 2, 0, 0, 0, 116, 0)), (106, (.iload_n 1, 1, 1, 0, 0, 0, 0)), (107, (.iadd, 1, 0, 0, 0, 0, 0)), (108, (.iconst 2, 1, 0, 0, 0, 2, 0)), (109, (.isub, 1, 0, 0, 0, 0, 0)), (110, (.aload_n 0, 1, 0, 0, 0, 0, 0)), (111, (.getfield 244, 3, 12, 13, 0, 0, 0)), (114, (.iastore, 1, 0, 0, 0, 0, 0)), (115, (.aload_n 0, 1, 0, 0, 0, 0, 0)), (116, (.iload_n 1, 1, 1, 0, 0, 0, 0)), (117, (.iconst 2, 1, 0, 0, 0, 2, 0)), (118, (.if_icmp .ne (8), 3, 0, 126, 0, 0, 0)), (121, (.bipush (7), 2, 0, 0, 0, 7, 0)), (123, (.goto (5), 3, 0, 128, 0, 0, 0)), (126, (.bipush (28), 2, 0, 0, 0, 28, 0)), (128, (.putfield 287, 3, 12, 21, 0, 0, 0)), (131, (.aload_n 0, 1, 0, 0, 0, 0, 0)), (132, (.iconst 0, 1, 0, 0, 0, 0, 0)), (133, (.invokevirtual 290, 3, 226, 2, 0, 0, 0)), (136, (.aload_n 0, 1, 0, 0, 0, 0, 0)), (137, (.iconst 0, 1, 0, 0, 0, 0, 0)), (138, (.iconst 0, 1, 0, 0, 0, 0, 0)), (139, (.invokevirtual 293, 3, 232, 3, 0, 0, 0)), (142, (.return_, 1, 0, 0, 0, 0, 0))]
def cd_225 : List (Nat × Ent) := [(0, (.iconst 0, 1, 0, 0, 0, 0, 0)), (1, (.istore_n 1, 1, 1, 0, 0, 0, 0)), (2, (.aload_n 0, 1, 0, 0, 0, 0, 0)), (3, (.getfield 194, 3, 12, 8, 0, 0, 0)), (6, (.ifCond .ne (83), 3, 0, 89, 0, 0, 0)), (9, (.iload_n 1, 1, 1, 0, 0, 0, 0)), (10, (.ifCond .eq (16), 3, 0, 26, 0, 0, 0)), (13, (.aload_n 0, 1, 0, 0, 0, 0, 0)), (14, (.getfield 24, 3, 12, 4, 0, 0, 0)), (17, (.aload_n 0, 1, 0, 0, 0, 0, 0)), (18, (.getfield 191, 3, 12, 7, 0, 0, 0)), (21, (.iaload, 1, 0, 0, 0, 0, 0)), (22, (.iconst 2, 1, 0, 0, 0, 2, 0)), (23, (.if_icmp .ne (66), 3, 0, 89, 0, 0, 0)), (26, (.aload_n 0, 1, 0, 0, 0, 0, 0)), (27, (.iconst 0, 1, 0, 0, 0, 0, 0)), (28, (.bipush (9), 2, 0, 0, 0, 9, 0)), (30, (.invokevirtual 212, 3, 216, 3, 1, 0, 0)), (33, (.istore_n 2, 1, 2, 0, 0, 0, 0)), (34, (.aload_n 0, 1, 0, 0, 0, 0, 0)), (35, (.getfield 194, 3, 12, 8, 0, 0, 0)), (38, (.ifCond .ne (27), 3, 0, 65, 0, 0, 0)), (41, (.iload_n 1, 1, 1, 0, 0, 0, 0)), (42, (.bipush (14), 2, 0, 0, 0, 14, 0)), (44, (.if_icmp .ne (21), 3, 0, 65, 0, 0, 0)), (47, (.aload_n 0, 1, 0, 0, 0, 0, 0)), (48, (.dup, 1, 0, 0, 0, 0, 0)), (49, (.getfield 191, 3, 12, 7, 0, 0, 0)), (52, (.iconst 1, 1, 0, 0, 0, 1, 0)), (53, (.isub, 1, 0, 0, 0, 0, 0)), (54, (.putfield 191, 3, 12, 7, 0, 0, 0)), (57, (.aload_n 0, 1, 0, 0, 0, 0, 0)), (58, (.iconst 5, 1, 0, 0, 0, 5, 0)), (59, (.invokevirtual 200, 3, 208, 2, 0, 0, 0)), (62, (.goto (24), 3, 0, 86, 0, 0, 0)), (65, (.aload_n 0, 1, 0, 0, 0, 0, 0)), (66, (.getfield 194, 3, 12, 8, 0, 0, 0)), (69, (.ifCond .ne (17), 3, 0, 86, 0, 0, 0)), (72, (.aload_n 0, 1, 0, 0, 0, 0, 0)), (73, (.getfield 103, 3, 12, 10, 0, 0, 0)), (76, (.sipush (202), 3, 0, 0, 0, 202, 0)), (79, (.iload_n 1, 1, 1, 0, 0, 0, 0)), (80, (.iadd, 1, 0, 0, 0, 0, 0)), (81, (.iload_n 2, 1, 2, 0, 0, 0, 0)), (82, (.iastore, 1, 0, 0, 0, 0, 0)), (83, (.iinc 1 (1), 3, 1, 0, 0, 1, 0)), (86, (.goto (-84), 3, 0, 2, 0, 0, 0)), (89, (.aload_n 0, 1, 0, 0, 0, 0, 0)), (90, (.getfield 103, 3, 12, 10, 0, 0, 0)), (93, (.bipush (114), 2, 0, 0, 0, 114, 0)), (95, (.iload_n 1, 1, 1, 0, 0, 0, 0)), (96, (.iastore, 1, 0, 0, 0, 0, 0)), (97, (.return_, 1, 0, 0, 0, 0, 0))]
def cd_226 : List (Nat × Ent) := [(0, (.aload_n 0, 1, 0, 0, 0, 0, 0)), (1, (.iload_n 1, 1, 1, 0, 0, 0, 0)), (2, (.invokevirtual 297, 3, 227, 2, 0, 0, 0)), (5, (.aload_n 0, 1, 0, 0, 0, 0, 0)), (6, (.bipush (26), 2, 0, 0, 0, 26, 0)), (8, (.invokevirtual 203, 3, 206, 2, 1, 0, 0)), (11, (.ifCond .ne (12), 3, 0, 23, 0, 0, 0)), (14, (.aload_n 0, 1, 0, 0, 0, 0, 0)), (15, (.bipush (27), 2, 0, 0, 0, 27, 0)), (17, (.invokevirtual 203, 3, 206, 2, 1, 0, 0)), (20, (.ifCond .eq (44), 3, 0, 64, 0, 0, 0)), (23, (.aload_n 0, 1, 0, 0, 0, 0, 0)), (24, (.bipush (26), 2, 0, 0, 0, 26, 0)), (26, (.invokevirtual 203, 3, 206, 2, 1, 0, 0)), (29, (.istore_n 2, 1, 2, 0, 0, 0, 0)), (30, (.aload_n 0, 1, 0, 0, 0, 0, 0)), (31, (.dup, 1, 0, 0, 0, 0, 0)), (32, (.getfield 191, 3, 12, 7, 0, 0, 0)), (35, (.iconst 1, 1, 0, 0, 0, 1, 0)), (36, (.iadd, 1, 0, 0, 0, 0, 0)), (37, (.putfield 191, 3, 12, 7, 0, 0, 0)), (40, (.aload_n 0, 1, 0, 0, 0, 0, 0)), (41, (.iload_n 1, 1, 1, 0, 0, 0, 0)), (42, (.invokevirtual 297, 3, 227, 2, 0, 0, 0)), (45, (.aload_n 0, 1, 0, 0, 0, 0, 0)), (46, (.iload_n 2, 1, 2, 0, 0, 0, 0)), (47, (.ifCond .eq (8), 3, 0, 55, 0, 0, 0)), (50, (.bipush (9), 2, 0, 0, 0, 9, 0)), (52, (.goto (5), 3, 0, 57, 0, 0, 0)), (55, (.bipush (10), 2, 0, 0, 0, 10, 0)), (57, (.iconst 0, 1, 0, 0, 0, 0, 0)), (58, (.invokevirtual 293, 3, 232, 3, 0, 0, 0)), (61, (.goto (-56), 3, 0, 5, 0, 0, 0)), (64, (.return_, 1, 0, 0, 0, 0, 0))]
def cd_227 : List (Nat × Ent) := [(0, (.aload_n 0, 1, 0, 0, 0, 0, 0)), (1, (.iload_n 1, 1, 1, 0, 0, 0, 0)), (2, (.invokevirtual 300, 3, 228, 2, 0, 0, 0)), (5, (.aload_n 0, 1, 0, 0, 0, 0, 0)), (6, (.bipush (60), 2, 0, 0, 0, 60, 0)), (8, (.invokevirtual 197, 3, 231, 2, 1, 0, 0)), (11, (.istore_n 2, 1, 2, 0, 0, 0, 0)), (12, (.aload_n 0, 1, 0, 0, 0, 0, 0)), (13, (.bipush (60), 2, 0, 0, 0, 60, 0)), (15, (.invokevirtual 303, 3, 233, 2, 1, 0, 0)), (18, (.ifCond .ne (12), 3, 0, 30, 0, 0, 0)), (21, (.aload_n 0, 1, 0, 0, 0, 0, 0)), (22, (.bipush (61), 2, 0, 0, 0, 61, 0)), (24, (.invokevirtual 303, 3, 233, 2, 1, 0, 0)), (27, (.ifCond .eq (24), 3, 0, 51, 0, 0, 0)), (30, (.aload_n 0, 1, 0, 0, 0, 0, 0)), (31, (.iload_n 1, 1, 1, 0, 0, 0, 0)), (32, (.invokevirtual 300, 3, 228, 2, 0, 0, 0)), (35, (.aload_n 0, 1, 0, 0, 0, 0, 0)), (36, (.iload_n 2, 1, 2, 0, 0, 0, 0)), (37, (.ifCond .eq (8), 3, 0, 45, 0, 0, 0)), (40, (.bipush (7), 2, 0, 0, 0, 7, 0)), (42, (.goto (5), 3, 0, 47, 0, 0, 0)), (45, (.bipush (8), 2, 0, 0, 0, 8, 0)), (47, (.iconst 0, 1, 0, 0, 0, 0, 0)), (48, (.invokevirtual 293, 3, 232, 3, 0, 0, 0)), (51, (.return_, 1, 0, 0, 0, 0, 0))]
def cd_228 : List (Nat × Ent) := [(0, (.aload_n 0, 1, 0, 0, 0, 0, 0)), (1, (.iload_n 1, 1, 1, 0, 0, 0, 0)), (2, (.invokevirtual 306, 3, 229, 2, 0, 0, 0)), (5, (.aload_n 0, 1, 0, 0, 0, 0, 0)), (6, (.bipush (43), 2, 0, 0, 0, 43, 0)), (8, (.invokevirtual 197, 3, 231, 2, 1, 0, 0)), (11, (.ifCond .ne (12), 3, 0, 23, 0, 0, 0)), (14, (.aload_n 0, 1, 0, 0, 0, 0, 0)), (15, (.bipush (45), 2, 0, 0, 0, 45, 0)), (17, (.invokevirtual 197, 3, 231, 2, 1, 0, 0)), (20, (.ifCond .eq (42), 3, 0, 62, 0, 0, 0)), (23, (.aload_n 0, 1, 0, 0, 0, 0, 0)), (24, (.bipush (43), 2, 0, 0, 0, 43, 0)), (26, (.invokevirtual 197, 3, 231, 2, 1, 0, 0)), (29, (.istore_n 2, 1, 2, 0, 0, 0, 0)), (30, (.aload_n 0, 1, 0, 0, 0, 0, 0)), (31, (.dup, 1, 0, 0, 0, 0, 0)), (32, (.getfield 191, 3, 12, 7, 0, 0, 0)), (35, (.iconst 1, 1, 0, 0, 0, 1, 0)), (36, (.iadd, 1, 0, 0, 0, 0, 0)), (37, (.putfield 191, 3, 12, 7, 0, 0, 0)), (40, (.aload_n 0, 1, 0, 0, 0, 0, 0)), (41, (.iload_n 1, 1, 1, 0, 0, 0, 0)), (42, (.invokevirtual 306, 3, 229, 2, 0, 0, 0)), (45, (.aload_n 0, 1, 0, 0, 0, 0, 0)), (46, (.iload_n 2, 1, 2, 0, 0, 0, 0)), (47, (.ifCond .eq (7), 3, 0, 54, 0, 0, 0)), (50, (.iconst 4, 1, 0, 0, 0, 4, 0)), (51, (.goto (4), 3, 0, 55, 0, 0, 0)), (54, (.iconst 5, 1, 0, 0, 0, 5, 0)), (55, (.iconst 0, 1, 0, 0, 0, 0, 0)), (56, (.invokevirtual 293, 3, 232, 3, 0, 0, 0)), (59, (.goto (-54), 3, 0, 5, 0, 0, 0)), (62, (.return_, 1, 0, 0, 0, 0, 0))]
def cd_229 : List (Nat × Ent) := [(0, (.aload_n 0, 1, 0, 0, 0, 0, 0)), (1, (.iload_n 1, 1, 1, 0, 0, 0, 0)), (2, (.invokevirtual 309, 3, 230, 2, 0, 0, 0)), (5, (.aload_n 0, 1, 0, 0, 0, 0, 0)), (6, (.bipush (42), 2, 0, 0, 0, 42, 0)), (8, (.invokevirtual 303, 3, 233, 2, 1, 0, 0)), (11, (.ifCond .eq (18), 3, 0, 29, 0, 0, 0)), (14, (.aload_n 0, 1, 0, 0, 0, 0, 0)), (15, (.iload_n 1, 1, 1, 0, 0, 0, 0)), (16, (.invokevirtual 309, 3, 230, 2, 0, 0, 0)), (19, (.aload_n 0, 1, 0, 0, 0, 0, 0)), (20, (.bipush (6), 2, 0, 0, 0, 6, 0)), (22, (.iconst 0, 1, 0, 0, 0, 0, 0)), (23, (.invokevirtual 293, 3, 232, 3, 0, 0, 0)), (26, (.goto (-21), 3, 0, 5, 0, 0, 0)), (29, (.return_, 1, 0, 0, 0, 0, 0))]
def cd_230 : List (Nat × Ent) := [(0, (.aload_n 0, 1, 0, 0, 0, 0, 0)), (1, (.getfield 194, 3, 12, 8, 0, 0, 0)), (4, (.ifCond .le (4), 3, 0, 8, 0, 0, 0)), (7, (.return_, 1, 0, 0, 0, 0, 0)), (8, (.aload_n 0, 1, 0, 0, 0, 0, 0)), (9, (.getfield 24, 3, 12, 4, 0, 0, 0)), (12, (.aload_n 0, 1, 0, 0, 0, 0, 0)), (13, (.getfield 191, 3, 12, 7, 0, 0, 0)), (16, (.iaload, 1, 0, 0, 0, 0, 0)), (17, (.iconst 2, 1, 0, 0, 0, 2, 0)), (18, (.if_icmp .ne (7), 3, 0, 25, 0, 0, 0)), (21, (.iconst 1, 1, 0, 0, 0, 1, 0)), (22, (.goto (4), 3, 0, 26, 0, 0, 0)), (25, (.iconst 0, 1, 0, 0, 0, 0, 0)), (26, (.istore_n 2, 1, 2, 0, 0, 0, 0)), (27, (.aload_n 0, 1, 0, 0, 0, 0, 0)), (28, (.bipush (28), 2, 0, 0, 0, 28, 0)), (30, (.iconst 5, 1, 0, 0, 0, 5, 0)), (31, (.invokevirtual 216, 3, 211, 3, 1, 0, 0)), (34, (.istore_n 3, 1, 3, 0, 0, 0, 0)), (35, (.iload_n 3, 1, 3, 0, 0, 0, 0)), (36, (.ifCond .lt (19), 3, 0, 55, 0, 0, 0)), (39, (.aload_n 0, 1, 0, 0, 0, 0, 0)), (40, (.getfield 287, 3, 12, 21, 0, 0, 0)), (43, (.iload_n 3, 1, 3, 0, 0, 0, 0)), (44, (.ishr, 1, 0, 0, 0, 0, 0)), (45, (.iconst 1, 1, 0, 0, 0, 1, 0)), (46, (.iand, 1, 0, 0, 0, 0, 0)), (47, (.iconst 1, 1, 0, 0, 0, 1, 0)), (48, (.if_icmp .ne (7), 3, 0, 55, 0, 0, 0)), (51, (.iload_n 3, 1, 3, 0, 0, 0, 0)), (52, (.goto (4), 3, 0, 56, 0, 0, 0)), (55, (.iconst (-1), 1, 0, 0, 0, (-1), 0)), (56, (.istore_n 3, 1, 3, 0, 0, 0, 0)), (57, (.iload_n 3, 1, 3, 0, 0, 0, 0)), (58, (.ifCond .ge (33), 3, 0, 91, 0, 0, 0)), (61, (.iload_n 2, 1, 2, 0, 0, 0, 0)), (62, (.ifCond .ne (29), 3, 0, 91, 0, 0, 0)), (65, (.aload_n 0, 1, 0, 0, 0, 0, 0)), (66, (.bipush (40), 2, 0, 0, 0, 40, 0)), (68, (.invokevirtual 197, 3, 231, 2, 1, 0, 0)), (71, (.ifCond .ne (20), 3, 0, 91, 0, 0, 0)), (74, (.aload_n 0, 1, 0, 0, 0, 0, 0)), (75, (.bipush (25), 2, 0, 0, 0, 25, 0)), (77, (.invokevirtual 203, 3, 206, 2, 1, 0, 0)), (80, (.ifCond .ne (11), 3, 0, 91, 0, 0, 0)), (83, (.aload_n 0, 1, 0, 0, 0, 0, 0)), (84, (.iconst 1, 1, 0, 0, 0, 1, 0)), (85, (.invokevirtual 200, 3, 208, 2, 0, 0, 0)), (88, (.goto (13), 3, 0, 101, 0, 0, 0)), (91, (.iload_n 1, 1, 1, 0, 0, 0, 0)), (92, (.iconst 5, 1, 0, 0, 0, 5, 0)), (93, (.if_icmp .ne (8), 3, 0, 101, 0, 0, 0)), (96, (.aload_n 0, 1, 0, 0, 0, 0, 0)), (97, (.iconst 5, 1, 0, 0, 0, 5, 0)), (98, (.invokevirtual 200, 3, 208, 2, 0, 0, 0)), (101, (.aload_n 0, 1, 0, 0, 0, 0, 0)), (102, (.getfield 194, 3, 12, 8, 0, 0, 0)), (105, (.ifCond .le (4), 3, 0, 109, 0, 0, 0)), (108, (.return_, 1, 0, 0, 0, 0, 0)), (109, (.aload_n 0, 1, 0, 0, 0, 0, 0)), (110, (.bipush (25), 2, 0, 0, 0, 25, 0)), (112, (.invokevirtual 206, 3, 215, 2, 1, 0, 0)), (115, (.ifCond .eq (19), 3, 0, 134, 0, 0, 0)), (118, (.aload_n 0, 1, 0, 0, 0, 0, 0)), (119, (.iload_n 1, 1, 1, 0, 0, 0, 0)), (120, (.iconst 1, 1, 0, 0, 0, 1, 0)), (121, (.iadd, 1, 0, 0, 0, 0, 0)), (122, (.invokevirtual 309, 3, 230, 2, 0, 0, 0)), (125, (.aload_n 0, 1, 0, 0, 0, 0, 0)), (126, (.iconst 3, 1, 0, 0, 0, 3, 0)), (127, (.iconst 0, 1, 0, 0, 0, 0, 0)), (128, (.invokevirtual 293, 3, 232, 3, 0, 0, 0)), (131, (.goto (69), 3, 0, 200, 0, 0, 0)), (134, (.aload_n 0, 1, 0, 0, 0, 0, 0)), (135, (.bipush (40), 2, 0, 0, 0, 40, 0)), (137, (.invokevirtual 303, 3, 233, 2, 1, 0, 0)), (140, (.ifCond .eq (19), 3, 0, 159, 0, 0, 0)), (143, (.aload_n 0, 1, 0, 0, 0, 0, 0)), (144, (.iload_n 1, 1, 1, 0, 0, 0, 0)), (145, (.iconst 1, 1, 0, 0, 0, 1, 0)), (146, (.iadd, 1, 0, 0, 0, 0, 0)), (147, (.invokevirtual 290, 3, 226, 2, 0, 0, 0)), (150, (.aload_n 0, 1, 0, 0, 0, 0, 0)), (151, (.bipush (41), 2, 0, 0, 0, 41, 0)), (153, (.invokevirtual 253, 3, 234, 2, 0, 0, 0)), (156, (.goto (44), 3, 0, 200, 0, 0, 0)), (159, (.aload_n 0, 1, 0, 0, 0, 0, 0)), (160, (.iload_n 2, 1, 2, 0, 0, 0, 0)), (161, (.ifCond .eq (7), 3, 0, 168, 0, 0, 0)), (164, (.iconst 1, 1, 0, 0, 0, 1, 0)), (165, (.goto (4), 3, 0, 169, 0, 0, 0)), (168, (.iconst 2, 1, 0, 0, 0, 2, 0)), (169, (.iload_n 2, 1, 2, 0, 0, 0, 0)), (170, (.ifCond .eq (16), 3, 0, 186, 0, 0, 0)), (173, (.aload_n 0, 1, 0, 0, 0, 0, 0)), (174, (.getfield 30, 3, 12, 6, 0, 0, 0)), (177, (.aload_n 0, 1, 0, 0, 0, 0, 0)), (178, (.getfield 191, 3, 12, 7, 0, 0, 0)), (181, (.laload, 1, 0, 0, 0, 0, 0)), (182, (.l2i, 1, 0, 0, 0, 0, 0)), (183, (.goto (4), 3, 0, 187, 0, 0, 0)), (186, (.iload_n 3, 1, 3, 0, 0, 0, 0)), (187, (.invokevirtual 293, 3, 232, 3, 0, 0, 0)), (190, (.aload_n 0, 1, 0, 0, 0, 0, 0)), (191, (.dup, 1, 0, 0, 0, 0, 0)), (192, (.getfield 191, 3, 12, 7, 0, 0, 0)), (195, (.iconst 1, 1, 0, 0, 0, 1, 0)), (196, (.iadd, 1, 0, 0, 0, 0, 0)), (197, (.putfield 191, 3, 12, 7, 0, 0, 0)), (200, (.return_, 1, 0, 0, 0, 0, 0))]
def cd_231 : List (Nat × Ent) := [(0, (.aload_n 0, 1, 0, 0, 0, 0, 0)), (1, (.getfield 194, 3, 12, 8, 0, 0, 0)), (4, (.ifCond .ne (35), 3, 0, 39, 0, 0, 0)), (7, (.aload_n 0, 1, 0, 0, 0, 0, 0)), (8, (.getfield 24, 3, 12, 4, 0, 0, 0)), (11, (.aload_n 0, 1, 0, 0, 0, 0, 0)), (12, (.getfield 191, 3, 12, 7, 0, 0, 0)), (15, (.iaload, 1, 0, 0, 0, 0, 0)), (16, (.iconst 3, 1, 0, 0, 0, 3, 0)), (17, (.if_icmp .ne (22), 3, 0, 39, 0, 0, 0)), (20, (.aload_n 0, 1, 0, 0, 0, 0, 0)), (21, (.getfield 30, 3, 12, 6, 0, 0, 0)), (24, (.aload_n 0, 1, 0, 0, 0, 0, 0)), (25, (.getfield 191, 3, 12, 7, 0, 0, 0)), (28, (.laload, 1, 0, 0, 0, 0, 0)), (29, (.iload_n 1, 1, 1, 0, 0, 0, 0)), (30, (.i2l, 1, 0, 0, 0, 0, 0)), (31, (.lcmp, 1, 0, 0, 0, 0, 0)), (32, (.ifCond .ne (7), 3, 0, 39, 0, 0, 0)), (35, (.iconst 1, 1, 0, 0, 0, 1, 0)), (36, (.goto (4), 3, 0, 40, 0, 0, 0)), (39, (.iconst 0, 1, 0, 0, 0, 0, 0)), (40, (.ireturn, 1, 0, 0, 1, 0, 0))]
def cd_232 : List (Nat × Ent) := [(0, (.aload_n 0, 1, 0, 0, 0, 0, 0)), (1, (.getfield 106, 3, 12, 11, 0, 0, 0)), (4, (.sipush (1100), 3, 0, 0, 0, 1100, 0)), (7, (.aload_n 0, 1, 0, 0, 0, 0, 0)), (8, (.getfield 244, 3, 12, 13, 0, 0, 0)), (11, (.iadd, 1, 0, 0, 0, 0, 0)), (12, (.iload_n 1, 1, 1, 0, 0, 0, 0)), (13, (.iastore, 1, 0, 0, 0, 0, 0)), (14, (.aload_n 0, 1, 0, 0, 0, 0, 0)), (15, (.getfield 109, 3, 12, 12, 0, 0, 0)), (18, (.sipush (1100), 3, 0, 0, 0, 1100, 0)), (21, (.aload_n 0, 1, 0, 0, 0, 0, 0)), (22, (.getfield 244, 3, 12, 13, 0, 0, 0)), (25, (.iadd, 1, 0, 0, 0, 0, 0)), (26, (.iload_n 2, 1, 2, 0, 0, 0, 0)), (27, (.iastore, 1, 0, 0, 0, 0, 0)), (28, (.aload_n 0, 1, 0, 0, 0, 0, 0)), (29, (.dup, 1, 0, 0, 0, 0, 0)), (30, (.getfield 244, 3, 12, 13, 0, 0, 0)), (33, (.iconst 1, 1, 0, 0, 0, 1, 0)), (34, (.iadd, 1, 0, 0, 0, 0, 0)), (35, (.putfield 244, 3, 12, 13, 0, 0, 0)), (38, (.return_, 1, 0, 0, 0, 0, 0))]
def cd_233 : List (Nat × Ent) := [(0, (.aload_n 0, 1, 0, 0, 0, 0, 0)), (1, (.iload_n 1, 1, 1, 0, 0, 0, 0)), (2, (.invokevirtual 197, 3, 231, 2, 1, 0, 0)), (5, (.istore_n 2, 1, 2, 0, 0, 0, 0)), (6, (.aload_n 0, 1, 0, 0, 0, 0, 0)), (7, (.dup, 1, 0, 0, 0, 0, 0)), (8, (.getfield 191, 3, 12, 7, 0, 0, 0)), (11, (.iload_n 2, 1, 2, 0, 0, 0, 0)), (12, (.ifCond .eq (7), 3, 0, 19, 0, 0, 0)), (15, (.iconst 1, 1, 0, 0, 0, 1, 0)), (16, (.goto (4), 3, 0, 20, 0, 0, 0)), (19, (.iconst 0, 1, 0, 0, 0, 0, 0)), (20, (.iadd, 1, 0, 0, 0, 0, 0)), (21, (.putfield 191, 3, 12, 7, 0, 0, 0)), (24, (.iload_n 2, 1, 2, 0, 0, 0, 0)), (25, (.ireturn, 1, 0, 0, 1, 0, 0))]
def cd_234 : List (Nat × Ent) := [(0, (.aload_n 0, 1, 0, 0, 0, 0, 0)), (1, (.iload_n 1, 1, 1, 0, 0, 0, 0)), (2, (.invokevirtual 197, 3, 231, 2, 1, 0, 0)), (5, (.ifCond .eq (16), 3, 0, 21, 0, 0, 0)), (8, (.aload_n 0, 1, 0, 0, 0, 0, 0)), (9, (.dup, 1, 0, 0, 0, 0, 0)), (10, (.getfield 191, 3, 12, 7, 0, 0, 0)), (13, (.iconst 1, 1, 0, 0, 0, 1, 0)), (14, (.iadd, 1, 0, 0, 0, 0, 0)), (15, (.putfield 191, 3, 12, 7, 0, 0, 0)), (18, (.goto (8), 3, 0, 26, 0, 0, 0)), (21, (.aload_n 0, 1, 0, 0, 0, 0, 0)), (22, (.iconst 1, 1, 0, 0, 0, 1, 0)), (23, (.invokevirtual 200, 3, 208, 2, 0, 0, 0)), (26, (.return_, 1, 0, 0, 0, 0, 0))]
def cd_235 : List (Nat × Ent) := [(0, (.aload_n 0, 1, 0, 0, 0, 0, 0)), (1, (.iconst 0, 1, 0, 0, 0, 0, 0)), (2, (.putfield 1, 3, 12, 0, 0, 0, 0)), (5, (.aload_n 0, 1, 0, 0, 0, 0, 0)), (6, (.invokevirtual 241, 3, 200, 1, 0, 0, 0)), (9, (.iconst 0, 1, 0, 0, 0, 0, 0)), (10, (.istore_n 1, 1, 1, 0, 0, 0, 0)), (11, (.aload_n 0, 1, 0, 0, 0, 0, 0)), (12, (.getfield 194, 3, 12, 8, 0, 0, 0)), (15, (.ifCond .ne (155), 3, 0, 170, 0, 0, 0)), (18, (.aload_n 0, 1, 0, 0, 0, 0, 0)), (19, (.getfield 24, 3, 12, 4, 0, 0, 0)), (22, (.aload_n 0, 1, 0, 0, 0, 0, 0)), (23, (.getfield 191, 3, 12, 7, 0, 0, 0)), (26, (.iaload, 1, 0, 0, 0, 0, 0)), (27, (.ifCond .eq (143), 3, 0, 170, 0, 0, 0)), (30, (.aload_n 0, 1, 0, 0, 0, 0, 0)), (31, (.bipush (14), 2, 0, 0, 0, 14, 0)), (33, (.iconst 5, 1, 0, 0, 0, 5, 0)), (34, (.invokevirtual 216, 3, 211, 3, 1, 0, 0)), (37, (.istore_n 2, 1, 2, 0, 0, 0, 0)), (38, (.iload_n 2, 1, 2, 0, 0, 0, 0)), (39, (.ifCond .ge (11), 3, 0, 50, 0, 0, 0)), (42, (.aload_n 0, 1, 0, 0, 0, 0, 0)), (43, (.iconst 1, 1, 0, 0, 0, 1, 0)), (44, (.invokevirtual 200, 3, 208, 2, 0, 0, 0)), (47, (.goto (114), 3, 0, 161, 0, 0, 0)), (50, (.iload_n 1, 1, 1, 0, 0, 0, 0)), (51, (.bipush (40), 2, 0, 0, 0, 40, 0)), (53, (.if_icmp .ne (11), 3, 0, 64, 0, 0, 0)), (56, (.aload_n 0, 1, 0, 0, 0, 0, 0)), (57, (.iconst 5, 1, 0, 0, 0, 5, 0)), (58, (.invokevirtual 200, 3, 208, 2, 0, 0, 0)), (61, (.goto (100), 3, 0, 161, 0, 0, 0)), (64, (.aload_n 0, 1, 0, 0, 0, 0, 0)), (65, (.dup, 1, 0, 0, 0, 0, 0)), (66, (.getfield 191, 3, 12, 7, 0, 0, 0)), (69, (.iconst 1, 1, 0, 0, 0, 1, 0)), (70, (.iadd, 1, 0, 0, 0, 0, 0)), (71, (.putfield 191, 3, 12, 7, 0, 0, 0)), (74, (.aload_n 0, 1, 0, 0, 0, 0, 0)), (75, (.getfield 124, 3, 12, 22, 0, 0, 0)), (78, (.bipush (125), 2, 0, 0, 0, 125, 0)), (80, (.iconst 3, 1, 0, 0, 0, 3, 0)), (81, (.iload_n 1, 1, 1, 0, 0, 0, 0)), (82, (.imul, 1, 0, 0, 0, 0, 0)), (83, (.iadd, 1, 0, 0, 0, 0, 0)), (84, (.iload_n 2, 1, 2, 0, 0, 0, 0)), (85, (.iastore, 1, 0, 0, 0, 0, 0)), (86, (.aload_n 0, 1, 0, 0, 0, 0, 0)), (87, (.getfield 124, 3, 12, 22, 0, 0, 0)), (90, (.bipush (126), 2, 0, 0, 0, 126, 0)), (92, (.iconst 3, 1, 0, 0, 0, 3, 0)), (93, (.iload_n 1, 1, 1, 0, 0, 0, 0)), (94, (.imul, 1, 0, 0, 0, 0, 0)), (95, (.iadd, 1, 0, 0, 0, 0, 0)), (96, (.iload_n 2, 1, 2, 0, 0, 0, 0)), (97, (.iconst 4, 1, 0, 0, 0, 4, 0)), (98, (.if_icmp .ne (7), 3, 0, 105, 0, 0, 0)), (101, (.iconst 0, 1, 0, 0, 0, 0, 0)), (102, (.goto (20), 3, 0, 122, 0, 0, 0)), (105, (.aload_n 0, 1, 0, 0, 0, 0, 0)), (106, (.iconst 0, 1, 0, 0, 0, 0, 0)), (107, (.iload_n 2, 1, 2, 0, 0, 0, 0)), (108, (.iconst 1, 1, 0, 0, 0, 1, 0)), (109, (.if_icmp .ne (8), 3, 0, 117, 0, 0, 0)), (112, (.bipush (20), 2, 0, 0, 0, 20, 0)), (114, (.goto (5), 3, 0, 119, 0, 0, 0)), (117, (.bipush (40), 2, 0, 0, 0, 40, 0)), (119, (.invokevirtual 281, 3, 220, 3, 1, 0, 0)), (122, (.iastore, 1, 0, 0, 0, 0, 0)), (123, (.aload_n 0, 1, 0, 0, 0, 0, 0)), (124, (.getfield 124, 3, 12, 22, 0, 0, 0)), (127, (.bipush (127), 2, 0, 0, 0, 127, 0)), (129, (.iconst 3, 1, 0, 0, 0, 3, 0)), (130, (.iload_n 1, 1, 1, 0, 0, 0, 0)), (131, (.imul, 1, 0, 0, 0, 0, 0)), (132, (.iadd, 1, 0, 0, 0, 0, 0)), (133, (.iload_n 2, 1, 2, 0, 0, 0, 0)), (134, (.iconst 1, 1, 0, 0, 0, 1, 0)), (135, (.if_icmp .le (7), 3, 0, 142, 0, 0, 0)), (138, (.iconst 0, 1, 0, 0, 0, 0, 0)), (139, (.goto (18), 3, 0, 157, 0, 0, 0)), (142, (.aload_n 0, 1, 0, 0, 0, 0, 0)), (143, (.iconst 0, 1, 0, 0, 0, 0, 0)), (144, (.iload_n 2, 1, 2, 0, 0, 0, 0)), (145, (.ifCond .ne (7), 3, 0, 152, 0, 0, 0)), (148, (.iconst 0, 1, 0, 0, 0, 0, 0)), (149, (.goto (5), 3, 0, 154, 0, 0, 0)), (152, (.bipush (40), 2, 0, 0, 0, 40, 0)), (154, (.invokevirtual 281, 3, 220, 3, 1, 0, 0)), (157, (.iastore, 1, 0, 0, 0, 0, 0)), (158, (.iinc 1 (1), 3, 1, 0, 0, 1, 0)), (161, (.aload_n 0, 1, 0, 0, 0, 0, 0)), (162, (.bipush (59), 2, 0, 0, 0, 59, 0)), (164, (.invokevirtual 253, 3, 234, 2, 0, 0, 0)), (167, (.goto (-156), 3, 0, 11, 0, 0, 0)), (170, (.aload_n 0, 1, 0, 0, 0, 0, 0)), (171, (.getfield 194, 3, 12, 8, 0, 0, 0)), (174, (.ifCond .le (8), 3, 0, 182, 0, 0, 0)), (177, (.aload_n 0, 1, 0, 0, 0, 0, 0)), (178, (.getfield 194, 3, 12, 8, 0, 0, 0)), (181, (.ireturn, 1, 0, 0, 0, 0, 0)), (182, (.aload_n 0, 1, 0, 0, 0, 0, 0)), (183, (.getfield 124, 3, 12, 22, 0, 0, 0)), (186, (.iconst 0, 1, 0, 0, 0, 0, 0)), (187, (.iload_n 1, 1, 1, 0, 0, 0, 0)), (188, (.iastore, 1, 0, 0, 0, 0, 0)), (189, (.iconst 0, 1, 0, 0, 0, 0, 0)), (190, (.istore_n 2, 1, 2, 0, 0, 0, 0)), (191, (.iload_n 2, 1, 2, 0, 0, 0, 0)), (192, (.iconst 3, 1, 0, 0, 0, 3, 0)), (193, (.iload_n 1, 1, 1, 0, 0, 0, 0)), (194, (.imul, 1, 0, 0, 0, 0, 0)), (195, (.if_icmp .ge (26), 3, 0, 221, 0, 0, 0)), (198, (.aload_n 0, 1, 0, 0, 0, 0, 0)), (199, (.getfield 124, 3, 12, 22, 0, 0, 0)), (202, (.iconst 1, 1, 0, 0, 0, 1, 0)), (203, (.iload_n 2, 1, 2, 0, 0, 0, 0)), (204, (.iadd, 1, 0, 0, 0, 0, 0)), (205, (.aload_n 0, 1, 0, 0, 0, 0, 0)), (206, (.getfield 124, 3, 12, 22, 0, 0, 0)), (209, (.bipush (125), 2, 0, 0, 0, 125, 0)), (211, (.iload_n 2, 1, 2, 0, 0, 0, 0)), (212, (.iadd, 1, 0, 0, 0, 0, 0)), (213, (.iaload, 1, 0, 0, 0, 0, 0)), (214, (.iastore, 1, 0, 0, 0, 0, 0)), (215, (.iinc 2 (1), 3, 2, 0, 0, 1, 0)), (218, (.goto (-27), 3, 0, 191, 0, 0, 0)), (221, (.iconst 0, 1, 0, 0, 0, 0, 0)), (222, (.ireturn, 1, 0, 0, 0, 0, 0))]
def cd_236 : List (Nat × Ent) := [(0, (.aload_n 0, 1, 0, 0, 0, 0, 0)), (1, (.iconst 0, 1, 0, 0, 0, 0, 0)), (2, (.putfield 1, 3, 12, 0, 0, 0, 0)), (5, (.aload_n 0, 1, 0, 0, 0, 0, 0)), (6, (.iload_n 1, 1, 1, 0, 0, 0, 0)), (7, (.invokevirtual 337, 3, 237, 2, 1, 0, 0)), (10, (.ifCond .eq (13), 3, 0, 23, 0, 0, 0)), (13, (.iload_n 2, 1, 2, 0, 0, 0, 0)), (14, (.iconst 0, 1, 0, 0, 0, 0, 0)), (15, (.bipush (8), 2, 0, 0, 0, 8, 0)), (17, (.invokestatic 233, 3, 222, 3, 1, 0, 0)), (20, (.ifCond .ne (5), 3, 0, 25, 0, 0, 0)), (23, (.iconst (-1), 1, 0, 0, 0, (-1), 0)), (24, (.ireturn, 1, 0, 0, 0, 0, 0)), (25, (.aload_n 0, 1, 0, 0, 0, 0, 0)), (26, (.iconst 0, 1, 0, 0, 0, 0, 0)), (27, (.iload_n 1, 1, 1, 0, 0, 0, 0)), (28, (.invokevirtual 340, 3, 238, 3, 1, 0, 0)), (31, (.istore_n 3, 1, 3, 0, 0, 0, 0)), (32, (.iload_n 2, 1, 2, 0, 0, 0, 0)), (33, (.tableswitch (141) (0) (7) #[47, 54, 64, 74, 80, 98, 108, 123], 47, 0, 0, 0, 0, 0)), (80, (.aload_n 0, 1, 0, 0, 0, 0, 0)), (81, (.iload_n 1, 1, 1, 0, 0, 0, 0)), (82, (.iconst 0, 1, 0, 0, 0, 0, 0)), (83, (.invokevirtual 319, 3, 198, 3, 1, 0, 0)), (86, (.ireturn, 1, 0, 0, 0, 0, 0)), (87, (.aload_n 0, 1, 0, 0, 0, 0, 0)), (88, (.getfield 133, 3, 12, 25, 0, 0, 0)), (91, (.bipush (7), 2, 0, 0, 0, 7, 0)), (93, (.iload_n 1, 1, 1, 0, 0, 0, 0)), (94, (.iadd, 1, 0, 0, 0, 0, 0)), (95, (.iaload, 1, 0, 0, 0, 0, 0)), (96, (.ireturn, 1, 0, 0, 0, 0, 0)), (97, (.aload_n 0, 1, 0, 0, 0, 0, 0)), (98, (.getfield 133, 3, 12, 25, 0, 0, 0)), (101, (.bipush (13), 2, 0, 0, 0, 13, 0)), (103, (.iload_n 1, 1, 1, 0, 0, 0, 0)), (104, (.iadd, 1, 0, 0, 0, 0, 0)), (105, (.iaload, 1, 0, 0, 0, 0, 0)), (106, (.ireturn, 1, 0, 0, 0, 0, 0)), (107, (.aload_n 0, 1, 0, 0, 0, 0, 0)), (108, (.iload_n 1, 1, 1, 0, 0, 0, 0)), (109, (.invokevirtual 344, 3, 239, 2, 1, 0, 0)), (112, (.ireturn, 1, 0, 0, 0, 0, 0)), (113, (.iload_n 3, 1, 3, 0, 0, 0, 0)), (114, (.ifCond .eq (15), 3, 0, 129, 0, 0, 0)), (117, (.aload_n 0, 1, 0, 0, 0, 0, 0)), (118, (.getfield 133, 3, 12, 25, 0, 0, 0)), (121, (.bipush (19), 2, 0, 0, 0, 19, 0)), (123, (.iload_n 1, 1, 1, 0, 0, 0, 0)), (124, (.iadd, 1, 0, 0, 0, 0, 0)), (125, (.iaload, 1, 0, 0, 0, 0, 0)), (126, (.goto (4), 3, 0, 130, 0, 0, 0)), (129, (.iconst (-1), 1, 0, 0, 0, (-1), 0)), (130, (.ireturn, 1, 0, 0, 0, 0, 0)), (131, (.aload_n 0, 1, 0, 0, 0, 0, 0)), (132, (.getfield 133, 3, 12, 25, 0, 0, 0)), (135, (.bipush (25), 2, 0, 0, 0, 25, 0)), (137, (.iload_n 1, 1, 1, 0, 0, 0, 0)), (138, (.iadd, 1, 0, 0, 0, 0, 0)), (139, (.iaload, 1, 0, 0, 0, 0, 0)), (140, (.ireturn, 1, 0, 0, 0, 0, 0)), (141, (.aload_n 0, 1, 0, 0, 0, 0, 0)), (142, (.iconst 0, 1, 0, 0, 0, 0, 0)), (143, (.iload_n 1, 1, 1, 0, 0, 0, 0)), (144, (.invokevirtual 347, 3, 240, 3, 1, 0, 0)), (147, (.ifCond .eq (7), 3, 0, 154, 0, 0, 0)), (150, (.iconst 1, 1, 0, 0, 0, 1, 0)), (151, (.goto (4), 3, 0, 155, 0, 0, 0)), (154, (.iconst 0, 1, 0, 0, 0, 0, 0)), (155, (.ireturn, 1, 0, 0, 0, 0, 0)), (156, (.aload_n 0, 1, 0, 0, 0, 0, 0)), (157, (.getfield 133, 3, 12, 25, 0, 0, 0)), (160, (.iconst 1, 1, 0, 0, 0, 1, 0)), (161, (.iload_n 1, 1, 1, 0, 0, 0, 0)), (162, (.iadd, 1, 0, 0, 0, 0, 0)), (163, (.iaload, 1, 0, 0, 0, 0, 0)), (164, (.iconst 2, 1, 0, 0, 0, 2, 0)), (165, (.if_icmp .ne (7), 3, 0, 172, 0, 0, 0)), (168, (.iconst 1, 1, 0, 0, 0, 1, 0)), (169, (.goto (4), 3, 0, 173, 0, 0, 0)), (172, (.iconst 0, 1, 0, 0, 0, 0, 0)), (173, (.ireturn, 1, 0, 0, 0, 0, 0)), (174, (.iload_n 3, 1, 3, 0, 0, 0, 0)), (175, (.ifCond .eq (13), 3, 0, 188, 0, 0, 0)), (178, (.aload_n 0, 1, 0, 0, 0, 0, 0)), (179, (.iconst 0, 1, 0, 0, 0, 0, 0)), (180, (.iload_n 1, 1, 1, 0, 0, 0, 0)), (181, (.iconst 0, 1, 0, 0, 0, 0, 0)), (182, (.invokevirtual 361, 3, 241, 4, 1, 0, 0)), (185, (.goto (4), 3, 0, 189, 0, 0, 0)), (188, (.iconst 0, 1, 0, 0, 0, 0, 0)), (189, (.ireturn, 1, 0, 0, 0, 0, 0))]
def cd_237 : List (Nat × Ent) := [(0, (.iload_n 1, 1, 1, 0, 0, 0, 0)), (1, (.ifCond .lt (15), 3, 0, 16, 0, 0, 0)), (4, (.iload_n 1, 1, 1, 0, 0, 0, 0)), (5, (.aload_n 0, 1, 0, 0, 0, 0, 0)), (6, (.invokevirtual 315, 3, 197, 1, 1, 0, 0)), (9, (.if_icmp .ge (7), 3, 0, 16, 0, 0, 0)), (12, (.iconst 1, 1, 0, 0, 0, 1, 0)), (13, (.goto (4), 3, 0, 17, 0, 0, 0)), (16, (.iconst 0, 1, 0, 0, 0, 0, 0)), (17, (.ireturn, 1, 0, 0, 1, 0, 0))]
def cd_238 : List (Nat × Ent) := [(0, (.aload_n 0, 1, 0, 0, 0, 0, 0)), (1, (.iload_n 2, 1, 2, 0, 0, 0, 0)), (2, (.invokevirtual 337, 3, 237, 2, 1, 0, 0)), (5, (.ifCond .eq (21), 3, 0, 26, 0, 0, 0)), (8, (.aload_n 0, 1, 0, 0, 0, 0, 0)), (9, (.getfield 133, 3, 12, 25, 0, 0, 0)), (12, (.iload_n 1, 1, 1, 0, 0, 0, 0)), (13, (.iconst 1, 1, 0, 0, 0, 1, 0)), (14, (.iadd, 1, 0, 0, 0, 0, 0)), (15, (.iload_n 2, 1, 2, 0, 0, 0, 0)), (16, (.iadd, 1, 0, 0, 0, 0, 0)), (17, (.iaload, 1, 0, 0, 0, 0, 0)), (18, (.iconst 1, 1, 0, 0, 0, 1, 0)), (19, (.if_icmp .ne (7), 3, 0, 26, 0, 0, 0)), (22, (.iconst 1, 1, 0, 0, 0, 1, 0)), (23, (.goto (4), 3, 0, 27, 0, 0, 0)), (26, (.iconst 0, 1, 0, 0, 0, 0, 0)), (27, (.ireturn, 1, 0, 0, 1, 0, 0))]
def cd_239 : List (Nat × Ent) := [(0, (.aload_n 0, 1, 0, 0, 0, 0, 0)), (1, (.iload_n 1, 1, 1, 0, 0, 0, 0)), (2, (.iconst 2, 1, 0, 0, 0, 2, 0)), (3, (.invokevirtual 319, 3, 198, 3, 1, 0, 0)), (6, (.iconst 2, 1, 0, 0, 0, 2, 0)), (7, (.idiv, 1, 0, 0, 0, 0, 0)), (8, (.istore_n 2, 1, 2, 0, 0, 0, 0)), (9, (.aload_n 0, 1, 0, 0, 0, 0, 0)), (10, (.iload_n 1, 1, 1, 0, 0, 0, 0)), (11, (.iconst 0, 1, 0, 0, 0, 0, 0)), (12, (.invokevirtual 319, 3, 198, 3, 1, 0, 0)), (15, (.iconst 1, 1, 0, 0, 0, 1, 0)), (16, (.if_icmp .eq (12), 3, 0, 28, 0, 0, 0)), (19, (.aload_n 0, 1, 0, 0, 0, 0, 0)), (20, (.iload_n 1, 1, 1, 0, 0, 0, 0)), (21, (.iconst 2, 1, 0, 0, 0, 2, 0)), (22, (.invokevirtual 319, 3, 198, 3, 1, 0, 0)), (25, (.goto (13), 3, 0, 38, 0, 0, 0)), (28, (.iload_n 2, 1, 2, 0, 0, 0, 0)), (29, (.iconst 1, 1, 0, 0, 0, 1, 0)), (30, (.if_icmp .ge (7), 3, 0, 37, 0, 0, 0)), (33, (.iconst 1, 1, 0, 0, 0, 1, 0)), (34, (.goto (4), 3, 0, 38, 0, 0, 0)), (37, (.iload_n 2, 1, 2, 0, 0, 0, 0)), (38, (.ireturn, 1, 0, 0, 0, 0, 0))]
def cd_240 : List (Nat × Ent) := [(0, (.aload_n 0, 1, 0, 0, 0, 0, 0)), (1, (.iload_n 1, 1, 1, 0, 0, 0, 0)), (2, (.iload_n 2, 1, 2, 0, 0, 0, 0)), (3, (.invokevirtual 340, 3, 238, 3, 1, 0, 0)), (6, (.ifCond .eq (26), 3, 0, 32, 0, 0, 0)), (9, (.aload_n 0, 1, 0, 0, 0, 0, 0)), (10, (.getfield 133, 3, 12, 25, 0, 0, 0)), (13, (.iload_n 1, 1, 1, 0, 0, 0, 0)), (14, (.bipush (13), 2, 0, 0, 0, 13, 0)), (16, (.iadd, 1, 0, 0, 0, 0, 0)), (17, (.iload_n 2, 1, 2, 0, 0, 0, 0)), (18, (.iadd, 1, 0, 0, 0, 0, 0)), (19, (.iaload, 1, 0, 0, 0, 0, 0)), (20, (.aload_n 0, 1, 0, 0, 0, 0, 0)), (21, (.iload_n 2, 1, 2, 0, 0, 0, 0)), (22, (.invokevirtual 344, 3, 239, 2, 1, 0, 0)), (25, (.if_icmp .lt (7), 3, 0, 32, 0, 0, 0)), (28, (.iconst 1, 1, 0, 0, 0, 1, 0)), (29, (.goto (4), 3, 0, 33, 0, 0, 0)), (32, (.iconst 0, 1, 0, 0, 0, 0, 0)), (33, (.ireturn, 1, 0, 0, 1, 0, 0))]
def cd_241 : List (Nat × Ent) := [(0, (.aload_n 0, 1, 0, 0, 0, 0, 0)), (1, (.iload_n 2, 1, 2, 0, 0, 0, 0)), (2, (.aload_n 0, 1, 0, 0, 0, 0, 0)), (3, (.getfield 133, 3, 12, 25, 0, 0, 0)), (6, (.iload_n 1, 1, 1, 0, 0, 0, 0)), (7, (.bipush (19), 2, 0, 0, 0, 19, 0)), (9, (.iadd, 1, 0, 0, 0, 0, 0)), (10, (.iload_n 2, 1, 2, 0, 0, 0, 0)), (11, (.iadd, 1, 0, 0, 0, 0, 0)), (12, (.iaload, 1, 0, 0, 0, 0, 0)), (13, (.aload_n 0, 1, 0, 0, 0, 0, 0)), (14, (.getfield 133, 3, 12, 25, 0, 0, 0)), (17, (.iload_n 1, 1, 1, 0, 0, 0, 0)), (18, (.bipush (7), 2, 0, 0, 0, 7, 0)), (20, (.iadd, 1, 0, 0, 0, 0, 0)), (21, (.iload_n 2, 1, 2, 0, 0, 0, 0)), (22, (.iadd, 1, 0, 0, 0, 0, 0)), (23, (.iaload, 1, 0, 0, 0, 0, 0)), (24, (.aload_n 0, 1, 0, 0, 0, 0, 0)), (25, (.getfield 133, 3, 12, 25, 0, 0, 0)), (28, (.iload_n 1, 1, 1, 0, 0, 0, 0)), (29, (.iconst 0, 1, 0, 0, 0, 0, 0)), (30, (.iadd, 1, 0, 0, 0, 0, 0)), (31, (.iaload, 1, 0, 0, 0, 0, 0)), (32, (.iload_n 3, 1, 3, 0, 0, 0, 0)), (33, (.invokevirtual 357, 3, 242, 6, 1, 0, 0)), (36, (.aload_n 0, 1, 0, 0, 0, 0, 0)), (37, (.getfield 133, 3, 12, 25, 0, 0, 0)), (40, (.iload_n 1, 1, 1, 0, 0, 0, 0)), (41, (.bipush (25), 2, 0, 0, 0, 25, 0)), (43, (.iadd, 1, 0, 0, 0, 0, 0)), (44, (.iload_n 2, 1, 2, 0, 0, 0, 0)), (45, (.iadd, 1, 0, 0, 0, 0, 0)), (46, (.iaload, 1, 0, 0, 0, 0, 0)), (47, (.isub, 1, 0, 0, 0, 0, 0)), (48, (.istore 4, 2, 4, 0, 0, 0, 0)), (50, (.iload 4, 2, 4, 0, 0, 0, 0)), (52, (.ifCond .ge (7), 3, 0, 59, 0, 0, 0)), (55, (.iconst 0, 1, 0, 0, 0, 0, 0)), (56, (.goto (5), 3, 0, 61, 0, 0, 0)), (59, (.iload 4, 2, 4, 0, 0, 0, 0)), (61, (.ireturn, 1, 0, 0, 0, 0, 0))]
def cd_242 : List (Nat × Ent) := [(0, (.aload_n 0, 1, 0, 0, 0, 0, 0)), (1, (.getfield 127, 3, 12, 23, 0, 0, 0)), (4, (.iconst 0, 1, 0, 0, 0, 0, 0)), (5, (.aload_n 0, 1, 0, 0, 0, 0, 0)), (6, (.iload 4, 2, 4, 0, 0, 0, 0)), (8, (.iload 5, 2, 5, 0, 0, 0, 0)), (10, (.invokevirtual 350, 3, 243, 3, 1, 0, 0)), (13, (.iastore, 1, 0, 0, 0, 0, 0)), (14, (.aload_n 0, 1, 0, 0, 0, 0, 0)), (15, (.getfield 127, 3, 12, 23, 0, 0, 0)), (18, (.iconst 1, 1, 0, 0, 0, 1, 0)), (19, (.aload_n 0, 1, 0, 0, 0, 0, 0)), (20, (.getfield 103, 3, 12, 10, 0, 0, 0)), (23, (.bipush (8), 2, 0, 0, 0, 8, 0)), (25, (.iload_n 2, 1, 2, 0, 0, 0, 0)), (26, (.iadd, 1, 0, 0, 0, 0, 0)), (27, (.iaload, 1, 0, 0, 0, 0, 0)), (28, (.iastore, 1, 0, 0, 0, 0, 0)), (29, (.aload_n 0, 1, 0, 0, 0, 0, 0)), (30, (.getfield 127, 3, 12, 23, 0, 0, 0)), (33, (.iconst 2, 1, 0, 0, 0, 2, 0)), (34, (.iload_n 3, 1, 3, 0, 0, 0, 0)), (35, (.iastore, 1, 0, 0, 0, 0, 0)), (36, (.aload_n 0, 1, 0, 0, 0, 0, 0)), (37, (.getfield 103, 3, 12, 10, 0, 0, 0)), (40, (.bipush (6), 2, 0, 0, 0, 6, 0)), (42, (.iaload, 1, 0, 0, 0, 0, 0)), (43, (.ifCond .ge (19), 3, 0, 62, 0, 0, 0)), (46, (.aload_n 0, 1, 0, 0, 0, 0, 0)), (47, (.getfield 127, 3, 12, 23, 0, 0, 0)), (50, (.iconst 0, 1, 0, 0, 0, 0, 0)), (51, (.iaload, 1, 0, 0, 0, 0, 0)), (52, (.aload_n 0, 1, 0, 0, 0, 0, 0)), (53, (.getfield 127, 3, 12, 23, 0, 0, 0)), (56, (.iconst 1, 1, 0, 0, 0, 1, 0)), (57, (.iaload, 1, 0, 0, 0, 0, 0)), (58, (.isub, 1, 0, 0, 0, 0, 0)), (59, (.goto (14), 3, 0, 73, 0, 0, 0)), (62, (.aload_n 0, 1, 0, 0, 0, 0, 0)), (63, (.aload_n 0, 1, 0, 0, 0, 0, 0)), (64, (.getfield 103, 3, 12, 10, 0, 0, 0)), (67, (.bipush (6), 2, 0, 0, 0, 6, 0)), (69, (.iaload, 1, 0, 0, 0, 0, 0)), (70, (.invokevirtual 354, 3, 244, 2, 1, 0, 0)), (73, (.istore 6, 2, 6, 0, 0, 0, 0)), (75, (.iload 6, 2, 6, 0, 0, 0, 0)), (77, (.ifCond .ge (7), 3, 0, 84, 0, 0, 0)), (80, (.iconst 0, 1, 0, 0, 0, 0, 0)), (81, (.goto (17), 3, 0, 98, 0, 0, 0)), (84, (.iload 6, 2, 6, 0, 0, 0, 0)), (86, (.bipush (9), 2, 0, 0, 0, 9, 0)), (88, (.if_icmp .le (8), 3, 0, 96, 0, 0, 0)), (91, (.bipush (9), 2, 0, 0, 0, 9, 0)), (93, (.goto (5), 3, 0, 98, 0, 0, 0)), (96, (.iload 6, 2, 6, 0, 0, 0, 0)), (98, (.istore 6, 2, 6, 0, 0, 0, 0)), (100, (.aload_n 0, 1, 0, 0, 0, 0, 0)), (101, (.iload_n 1, 1, 1, 0, 0, 0, 0)), (102, (.iconst 0, 1, 0, 0, 0, 0, 0)), (103, (.invokevirtual 319, 3, 198, 3, 1, 0, 0)), (106, (.istore 7, 2, 7, 0, 0, 0, 0)), (108, (.iload 7, 2, 7, 0, 0, 0, 0)), (110, (.iconst 1, 1, 0, 0, 0, 1, 0)), (111, (.if_icmp .ne (10), 3, 0, 121, 0, 0, 0)), (114, (.iload 6, 2, 6, 0, 0, 0, 0)), (116, (.iconst 1, 1, 0, 0, 0, 1, 0)), (117, (.iadd, 1, 0, 0, 0, 0, 0)), (118, (.goto (18), 3, 0, 136, 0, 0, 0)), (121, (.iload 7, 2, 7, 0, 0, 0, 0)), (123, (.iconst 2, 1, 0, 0, 0, 2, 0)), (124, (.if_icmp .ne (10), 3, 0, 134, 0, 0, 0)), (127, (.iload 6, 2, 6, 0, 0, 0, 0)), (129, (.iconst 2, 1, 0, 0, 0, 2, 0)), (130, (.idiv, 1, 0, 0, 0, 0, 0)), (131, (.goto (5), 3, 0, 136, 0, 0, 0)), (134, (.iload 6, 2, 6, 0, 0, 0, 0)), (136, (.istore 6, 2, 6, 0, 0, 0, 0)), (138, (.iload 7, 2, 7, 0, 0, 0, 0)), (140, (.iconst 3, 1, 0, 0, 0, 3, 0)), (141, (.if_icmp .ne (20), 3, 0, 161, 0, 0, 0)), (144, (.aload_n 0, 1, 0, 0, 0, 0, 0)), (145, (.getfield 103, 3, 12, 10, 0, 0, 0)), (148, (.bipush (8), 2, 0, 0, 0, 8, 0)), (150, (.iload_n 2, 1, 2, 0, 0, 0, 0)), (151, (.iadd, 1, 0, 0, 0, 0, 0)), (152, (.iaload, 1, 0, 0, 0, 0, 0)), (153, (.iconst 5, 1, 0, 0, 0, 5, 0)), (154, (.if_icmp .lt (7), 3, 0, 161, 0, 0, 0)), (157, (.iconst 0, 1, 0, 0, 0, 0, 0)), (158, (.goto (5), 3, 0, 163, 0, 0, 0)), (161, (.iload 6, 2, 6, 0, 0, 0, 0)), (163, (.ireturn, 1, 0, 0, 0, 0, 0))]
def cd_243 : List (Nat × Ent) := [(0, (.aload_n 0, 1, 0, 0, 0, 0, 0)), (1, (.getfield 103, 3, 12, 10, 0, 0, 0)), (4, (.bipush (92), 2, 0, 0, 0, 92, 0)), (6, (.iload_n 1, 1, 1, 0, 0, 0, 0)), (7, (.aload_n 0, 1, 0, 0, 0, 0, 0)), (8, (.getfield 103, 3, 12, 10, 0, 0, 0)), (11, (.iconst 4, 1, 0, 0, 0, 4, 0)), (12, (.iaload, 1, 0, 0, 0, 0, 0)), (13, (.irem, 1, 0, 0, 0, 0, 0)), (14, (.iadd, 1, 0, 0, 0, 0, 0)), (15, (.iaload, 1, 0, 0, 0, 0, 0)), (16, (.iload_n 2, 1, 2, 0, 0, 0, 0)), (17, (.ifCond .eq (7), 3, 0, 24, 0, 0, 0)), (20, (.iconst 3, 1, 0, 0, 0, 3, 0)), (21, (.goto (4), 3, 0, 25, 0, 0, 0)), (24, (.iconst 0, 1, 0, 0, 0, 0, 0)), (25, (.iadd, 1, 0, 0, 0, 0, 0)), (26, (.ireturn, 1, 0, 0, 0, 0, 0))]
def cd_244 : List (Nat × Ent) := [(0, (.iconst 0, 1, 0, 0, 0, 0, 0)), (1, (.istore_n 2, 1, 2, 0, 0, 0, 0)), (2, (.iload_n 1, 1, 1, 0, 0, 0, 0)), (3, (.istore_n 3, 1, 3, 0, 0, 0, 0)), (4, (.aload_n 0, 1, 0, 0, 0, 0, 0)), (5, (.getfield 106, 3, 12, 11, 0, 0, 0)), (8, (.iload_n 3, 1, 3, 0, 0, 0, 0)), (9, (.iaload, 1, 0, 0, 0, 0, 0)), (10, (.ifCond .eq (130), 3, 0, 140, 0, 0, 0)), (13, (.aload_n 0, 1, 0, 0, 0, 0, 0)), (14, (.getfield 106, 3, 12, 11, 0, 0, 0)), (17, (.iload_n 3, 1, 3, 0, 0, 0, 0)), (18, (.iaload, 1, 0, 0, 0, 0, 0)), (19, (.istore 4, 2, 4, 0, 0, 0, 0)), (21, (.iload 4, 2, 4, 0, 0, 0, 0)), (23, (.iconst 1, 1, 0, 0, 0, 1, 0)), (24, (.if_icmp .eq (9), 3, 0, 33, 0, 0, 0)), (27, (.iload 4, 2, 4, 0, 0, 0, 0)), (29, (.iconst 2, 1, 0, 0, 0, 2, 0)), (30, (.if_icmp .ne (41), 3, 0, 71, 0, 0, 0)), (33, (.aload_n 0, 1, 0, 0, 0, 0, 0)), (34, (.getfield 130, 3, 12, 24, 0, 0, 0)), (37, (.iload_n 2, 1, 2, 0, 0, 0, 0)), (38, (.iload 4, 2, 4, 0, 0, 0, 0)), (40, (.iconst 1, 1, 0, 0, 0, 1, 0)), (41, (.if_icmp .ne (12), 3, 0, 53, 0, 0, 0)), (44, (.aload_n 0, 1, 0, 0, 0, 0, 0)), (45, (.getfield 109, 3, 12, 12, 0, 0, 0)), (48, (.iload_n 3, 1, 3, 0, 0, 0, 0)), (49, (.iaload, 1, 0, 0, 0, 0, 0)), (50, (.goto (14), 3, 0, 64, 0, 0, 0)), (53, (.aload_n 0, 1, 0, 0, 0, 0, 0)), (54, (.getfield 127, 3, 12, 23, 0, 0, 0)), (57, (.aload_n 0, 1, 0, 0, 0, 0, 0)), (58, (.getfield 109, 3, 12, 12, 0, 0, 0)), (61, (.iload_n 3, 1, 3, 0, 0, 0, 0)), (62, (.iaload, 1, 0, 0, 0, 0, 0)), (63, (.iaload, 1, 0, 0, 0, 0, 0)), (64, (.iastore, 1, 0, 0, 0, 0, 0)), (65, (.iinc 2 (1), 3, 2, 0, 0, 1, 0)), (68, (.goto (66), 3, 0, 134, 0, 0, 0)), (71, (.iload 4, 2, 4, 0, 0, 0, 0)), (73, (.iconst 3, 1, 0, 0, 0, 3, 0)), (74, (.if_icmp .ne (30), 3, 0, 104, 0, 0, 0)), (77, (.aload_n 0, 1, 0, 0, 0, 0, 0)), (78, (.getfield 130, 3, 12, 24, 0, 0, 0)), (81, (.iload_n 2, 1, 2, 0, 0, 0, 0)), (82, (.iconst 1, 1, 0, 0, 0, 1, 0)), (83, (.isub, 1, 0, 0, 0, 0, 0)), (84, (.aload_n 0, 1, 0, 0, 0, 0, 0)), (85, (.getfield 130, 3, 12, 24, 0, 0, 0)), (88, (.iload_n 2, 1, 2, 0, 0, 0, 0)), (89, (.iconst 1, 1, 0, 0, 0, 1, 0)), (90, (.isub, 1, 0, 0, 0, 0, 0)), (91, (.iaload, 1, 0, 0, 0, 0, 0)), (92, (.ifCond .ne (7), 3, 0, 99, 0, 0, 0)), (95, (.iconst 1, 1, 0, 0, 0, 1, 0)), (96, (.goto (4), 3, 0, 100, 0, 0, 0)), (99, (.iconst 0, 1, 0, 0, 0, 0, 0)), (100, (.iastore, 1, 0, 0, 0, 0, 0)), (101, (.goto (33), 3, 0, 134, 0, 0, 0)), (104, (.iinc 2 (-1), 3, 2, 0, 0, (-1), 0)), (107, (.aload_n 0, 1, 0, 0, 0, 0, 0)), (108, (.getfield 130, 3, 12, 24, 0, 0, 0)), (111, (.iload_n 2, 1, 2, 0, 0, 0, 0)), (112, (.iconst 1, 1, 0, 0, 0, 1, 0)), (113, (.isub, 1, 0, 0, 0, 0, 0)), (114, (.iload 4, 2, 4, 0, 0, 0, 0)), (116, (.aload_n 0, 1, 0, 0, 0, 0, 0)), (117, (.getfield 130, 3, 12, 24, 0, 0, 0)), (120, (.iload_n 2, 1, 2, 0, 0, 0, 0)), (121, (.iconst 1, 1, 0, 0, 0, 1, 0)), (122, (.isub, 1, 0, 0, 0, 0, 0)), (123, (.iaload, 1, 0, 0, 0, 0, 0)), (124, (.aload_n 0, 1, 0, 0, 0, 0, 0)), (125, (.getfield 130, 3, 12, 24, 0, 0, 0)), (128, (.iload_n 2, 1, 2, 0, 0, 0, 0)), (129, (.iaload, 1, 0, 0, 0, 0, 0)), (130, (.invokestatic 312, 3, 245, 3, 1, 0, 0)), (133, (.iastore, 1, 0, 0, 0, 0, 0)), (134, (.iinc 3 (1), 3, 3, 0, 0, 1, 0)), (137, (.goto (-133), 3, 0, 4, 0, 0, 0)), (140, (.aload_n 0, 1, 0, 0, 0, 0, 0)), (141, (.getfield 130, 3, 12, 24, 0, 0, 0)), (144, (.iconst 0, 1, 0, 0, 0, 0, 0)), (145, (.iaload, 1, 0, 0, 0, 0, 0)), (146, (.ireturn, 1, 0, 0, 0, 0, 0))]
def cd_245 : List (Nat × Ent) := [(0, (.iload_n 0, 1, 0, 0, 0, 0, 0)), (1, (.tableswitch (87) (4) (9) #[39, 43, 47, 51, 62, 73], 39, 0, 0, 0, 0, 0)), (40, (.iload_n 1, 1, 1, 0, 0, 0, 0)), (41, (.iload_n 2, 1, 2, 0, 0, 0, 0)), (42, (.iadd, 1, 0, 0, 0, 0, 0)), (43, (.ireturn, 1, 0, 0, 0, 0, 0)), (44, (.iload_n 1, 1, 1, 0, 0, 0, 0)), (45, (.iload_n 2, 1, 2, 0, 0, 0, 0)), (46, (.isub, 1, 0, 0, 0, 0, 0)), (47, (.ireturn, 1, 0, 0, 0, 0, 0)), (48, (.iload_n 1, 1, 1, 0, 0, 0, 0)), (49, (.iload_n 2, 1, 2, 0, 0, 0, 0)), (50, (.imul, 1, 0, 0, 0, 0, 0)), (51, (.ireturn, 1, 0, 0, 0, 0, 0)), (52, (.iload_n 1, 1, 1, 0, 0, 0, 0)), (53, (.iload_n 2, 1, 2, 0, 0, 0, 0)), (54, (.if_icmp .ge (7), 3, 0, 61, 0, 0, 0)), (57, (.iconst 1, 1, 0, 0, 0, 1, 0)), (58, (.goto (4), 3, 0, 62, 0, 0, 0)), (61, (.iconst 0, 1, 0, 0, 0, 0, 0)), (62, (.ireturn, 1, 0, 0, 0, 0, 0)), (63, (.iload_n 1, 1, 1, 0, 0, 0, 0)), (64, (.iload_n 2, 1, 2, 0, 0, 0, 0)), (65, (.if_icmp .ne (7), 3, 0, 72, 0, 0, 0)), (68, (.iconst 1, 1, 0, 0, 0, 1, 0)), (69, (.goto (4), 3, 0, 73, 0, 0, 0)), (72, (.iconst 0, 1, 0, 0, 0, 0, 0)), (73, (.ireturn, 1, 0, 0, 0, 0, 0)), (74, (.iload_n 1, 1, 1, 0, 0, 0, 0)), (75, (.ifCond .eq (11), 3, 0, 86, 0, 0, 0)), (78, (.iload_n 2, 1, 2, 0, 0, 0, 0)), (79, (.ifCond .eq (7), 3, 0, 86, 0, 0, 0)), (82, (.iconst 1, 1, 0, 0, 0, 1, 0)), (83, (.goto (4), 3, 0, 87, 0, 0, 0)), (86, (.iconst 0, 1, 0, 0, 0, 0, 0)), (87, (.ireturn, 1, 0, 0, 0, 0, 0)), (88, (.iload_n 1, 1, 1, 0, 0, 0, 0)), (89, (.ifCond .ne (7), 3, 0, 96, 0, 0, 0)), (92, (.iload_n 2, 1, 2, 0, 0, 0, 0)), (93, (.ifCond .eq (7), 3, 0, 100, 0, 0, 0)), (96, (.iconst 1, 1, 0, 0, 0, 1, 0)), (97, (.goto (4), 3, 0, 101, 0, 0, 0)), (100, (.iconst 0, 1, 0, 0, 0, 0, 0)), (101, (.ireturn, 1, 0, 0, 0, 0, 0))]
def cd_246 : List (Nat × Ent) := [(0, (.aload_n 0, 1, 0, 0, 0, 0, 0)), (1, (.iconst 0, 1, 0, 0, 0, 0, 0)), (2, (.putfield 1, 3, 12, 0, 0, 0, 0)), (5, (.aload_n 0, 1, 0, 0, 0, 0, 0)), (6, (.iload_n 1, 1, 1, 0, 0, 0, 0)), (7, (.invokevirtual 368, 3, 247, 2, 1, 0, 0)), (10, (.ifCond .eq (12), 3, 0, 22, 0, 0, 0)), (13, (.iload_n 2, 1, 2, 0, 0, 0, 0)), (14, (.iconst 0, 1, 0, 0, 0, 0, 0)), (15, (.iconst 3, 1, 0, 0, 0, 3, 0)), (16, (.invokestatic 233, 3, 222, 3, 1, 0, 0)), (19, (.ifCond .ne (6), 3, 0, 25, 0, 0, 0)), (22, (.bipush (-2), 2, 0, 0, 0, (-2), 0)), (24, (.ireturn, 1, 0, 0, 0, 0, 0)), (25, (.iload_n 2, 1, 2, 0, 0, 0, 0)), (26, (.iconst 2, 1, 0, 0, 0, 2, 0)), (27, (.if_icmp .ge (19), 3, 0, 46, 0, 0, 0)), (30, (.aload_n 0, 1, 0, 0, 0, 0, 0)), (31, (.getfield 103, 3, 12, 10, 0, 0, 0)), (34, (.bipush (14), 2, 0, 0, 0, 14, 0)), (36, (.iconst 2, 1, 0, 0, 0, 2, 0)), (37, (.iload_n 1, 1, 1, 0, 0, 0, 0)), (38, (.imul, 1, 0, 0, 0, 0, 0)), (39, (.iadd, 1, 0, 0, 0, 0, 0)), (40, (.iload_n 2, 1, 2, 0, 0, 0, 0)), (41, (.iadd, 1, 0, 0, 0, 0, 0)), (42, (.iaload, 1, 0, 0, 0, 0, 0)), (43, (.goto (29), 3, 0, 72, 0, 0, 0)), (46, (.iload_n 2, 1, 2, 0, 0, 0, 0)), (47, (.iconst 2, 1, 0, 0, 0, 2, 0)), (48, (.if_icmp .ne (15), 3, 0, 63, 0, 0, 0)), (51, (.aload_n 0, 1, 0, 0, 0, 0, 0)), (52, (.getfield 133, 3, 12, 25, 0, 0, 0)), (55, (.bipush (31), 2, 0, 0, 0, 31, 0)), (57, (.iload_n 1, 1, 1, 0, 0, 0, 0)), (58, (.iadd, 1, 0, 0, 0, 0, 0)), (59, (.iaload, 1, 0, 0, 0, 0, 0)), (60, (.goto (12), 3, 0, 72, 0, 0, 0)), (63, (.aload_n 0, 1, 0, 0, 0, 0, 0)), (64, (.getfield 133, 3, 12, 25, 0, 0, 0)), (67, (.bipush (37), 2, 0, 0, 0, 37, 0)), (69, (.iload_n 1, 1, 1, 0, 0, 0, 0)), (70, (.iadd, 1, 0, 0, 0, 0, 0)), (71, (.iaload, 1, 0, 0, 0, 0, 0)), (72, (.ireturn, 1, 0, 0, 0, 0, 0))]
def cd_247 : List (Nat × Ent) := [(0, (.iload_n 1, 1, 1, 0, 0, 0, 0)), (1, (.ifCond .lt (15), 3, 0, 16, 0, 0, 0)), (4, (.iload_n 1, 1, 1, 0, 0, 0, 0)), (5, (.aload_n 0, 1, 0, 0, 0, 0, 0)), (6, (.invokevirtual 334, 3, 248, 1, 1, 0, 0)), (9, (.if_icmp .ge (7), 3, 0, 16, 0, 0, 0)), (12, (.iconst 1, 1, 0, 0, 0, 1, 0)), (13, (.goto (4), 3, 0, 17, 0, 0, 0)), (16, (.iconst 0, 1, 0, 0, 0, 0, 0)), (17, (.ireturn, 1, 0, 0, 1, 0, 0))]
def cd_248 : List (Nat × Ent) := [(0, (.aload_n 0, 1, 0, 0, 0, 0, 0)), (1, (.getfield 103, 3, 12, 10, 0, 0, 0)), (4, (.iconst 1, 1, 0, 0, 0, 1, 0)), (5, (.iaload, 1, 0, 0, 0, 0, 0)), (6, (.ireturn, 1, 0, 0, 0, 0, 0))]
def cd_249 : List (Nat × Ent) := [(0, (.aload_n 0, 1, 0, 0, 0, 0, 0)), (1, (.iconst 0, 1, 0, 0, 0, 0, 0)), (2, (.putfield 1, 3, 12, 0, 0, 0, 0)), (5, (.aload_n 0, 1, 0, 0, 0, 0, 0)), (6, (.iconst 0, 1, 0, 0, 0, 0, 0)), (7, (.invokevirtual 371, 3, 250, 2, 1, 0, 0)), (10, (.ireturn, 1, 0, 0, 0, 0, 0))]
def cd_250 : List (Nat × Ent) := [(0, (.iconst 0, 1, 0, 0, 0, 0, 0)), (1, (.istore_n 2, 1, 2, 0, 0, 0, 0)), (2, (.iconst 0, 1, 0, 0, 0, 0, 0)), (3, (.istore_n 3, 1, 3, 0, 0, 0, 0)), (4, (.iload_n 3, 1, 3, 0, 0, 0, 0)), (5, (.aload_n 0, 1, 0, 0, 0, 0, 0)), (6, (.invokevirtual 315, 3, 197, 1, 1, 0, 0)), (9, (.if_icmp .ge (28), 3, 0, 37, 0, 0, 0)), (12, (.iload_n 2, 1, 2, 0, 0, 0, 0)), (13, (.aload_n 0, 1, 0, 0, 0, 0, 0)), (14, (.iload_n 1, 1, 1, 0, 0, 0, 0)), (15, (.iload_n 3, 1, 3, 0, 0, 0, 0)), (16, (.invokevirtual 347, 3, 240, 3, 1, 0, 0)), (19, (.ifCond .eq (9), 3, 0, 28, 0, 0, 0)), (22, (.iconst 1, 1, 0, 0, 0, 1, 0)), (23, (.iload_n 3, 1, 3, 0, 0, 0, 0)), (24, (.ishl, 1, 0, 0, 0, 0, 0)), (25, (.goto (4), 3, 0, 29, 0, 0, 0)), (28, (.iconst 0, 1, 0, 0, 0, 0, 0)), (29, (.ior, 1, 0, 0, 0, 0, 0)), (30, (.istore_n 2, 1, 2, 0, 0, 0, 0)), (31, (.iinc 3 (1), 3, 3, 0, 0, 1, 0)), (34, (.goto (-30), 3, 0, 4, 0, 0, 0)), (37, (.iload_n 2, 1, 2, 0, 0, 0, 0)), (38, (.ireturn, 1, 0, 0, 0, 0, 0))]
def cd_251 : List (Nat × Ent) := [(0, (.aload_n 0, 1, 0, 0, 0, 0, 0)), (1, (.iconst 0, 1, 0, 0, 0, 0, 0)), (2, (.putfield 1, 3, 12, 0, 0, 0, 0)), (5, (.iload_n 1, 1, 1, 0, 0, 0, 0)), (6, (.iconst 0, 1, 0, 0, 0, 0, 0)), (7, (.iconst 1, 1, 0, 0, 0, 1, 0)), (8, (.invokestatic 233, 3, 222, 3, 1, 0, 0)), (11, (.ifCond .ne (5), 3, 0, 16, 0, 0, 0)), (14, (.iconst (-1), 1, 0, 0, 0, (-1), 0)), (15, (.ireturn, 1, 0, 0, 0, 0, 0)), (16, (.aload_n 0, 1, 0, 0, 0, 0, 0)), (17, (.iconst 0, 1, 0, 0, 0, 0, 0)), (18, (.invokevirtual 371, 3, 250, 2, 1, 0, 0)), (21, (.istore_n 2, 1, 2, 0, 0, 0, 0)), (22, (.iconst 0, 1, 0, 0, 0, 0, 0)), (23, (.istore_n 3, 1, 3, 0, 0, 0, 0)), (24, (.iload_n 3, 1, 3, 0, 0, 0, 0)), (25, (.aload_n 0, 1, 0, 0, 0, 0, 0)), (26, (.invokevirtual 315, 3, 197, 1, 1, 0, 0)), (29, (.if_icmp .ge (41), 3, 0, 70, 0, 0, 0)), (32, (.iload_n 2, 1, 2, 0, 0, 0, 0)), (33, (.aload_n 0, 1, 0, 0, 0, 0, 0)), (34, (.getfield 103, 3, 12, 10, 0, 0, 0)), (37, (.bipush (14), 2, 0, 0, 0, 14, 0)), (39, (.iconst 2, 1, 0, 0, 0, 2, 0)), (40, (.aload_n 0, 1, 0, 0, 0, 0, 0)), (41, (.iload_n 3, 1, 3, 0, 0, 0, 0)), (42, (.iconst 4, 1, 0, 0, 0, 4, 0)), (43, (.invokevirtual 319, 3, 198, 3, 1, 0, 0)), (46, (.imul, 1, 0, 0, 0, 0, 0)), (47, (.iadd, 1, 0, 0, 0, 0, 0)), (48, (.iaload, 1, 0, 0, 0, 0, 0)), (49, (.iload_n 1, 1, 1, 0, 0, 0, 0)), (50, (.if_icmp .ne (7), 3, 0, 57, 0, 0, 0)), (53, (.iconst (-1), 1, 0, 0, 0, (-1), 0)), (54, (.goto (8), 3, 0, 62, 0, 0, 0)), (57, (.iconst 1, 1, 0, 0, 0, 1, 0)), (58, (.iload_n 3, 1, 3, 0, 0, 0, 0)), (59, (.ishl, 1, 0, 0, 0, 0, 0)), (60, (.iconst (-1), 1, 0, 0, 0, (-1), 0)), (61, (.ixor, 1, 0, 0, 0, 0, 0)), (62, (.iand, 1, 0, 0, 0, 0, 0)), (63, (.istore_n 2, 1, 2, 0, 0, 0, 0)), (64, (.iinc 3 (1), 3, 3, 0, 0, 1, 0)), (67, (.goto (-43), 3, 0, 24, 0, 0, 0)), (70, (.aload_n 0, 1, 0, 0, 0, 0, 0)), (71, (.iload_n 2, 1, 2, 0, 0, 0, 0)), (72, (.invokevirtual 374, 3, 252, 2, 1, 0, 0)), (75, (.ireturn, 1, 0, 0, 0, 0, 0))]
def cd_252 : List (Nat × Ent) := [(0, (.iconst 0, 1, 0, 0, 0, 0, 0)), (1, (.istore_n 2, 1, 2, 0, 0, 0, 0)), (2, (.iconst 0, 1, 0, 0, 0, 0, 0)), (3, (.istore_n 3, 1, 3, 0, 0, 0, 0)), (4, (.iload_n 3, 1, 3, 0, 0, 0, 0)), (5, (.aload_n 0, 1, 0, 0, 0, 0, 0)), (6, (.invokevirtual 315, 3, 197, 1, 1, 0, 0)), (9, (.if_icmp .ge (31), 3, 0, 40, 0, 0, 0)), (12, (.iload_n 2, 1, 2, 0, 0, 0, 0)), (13, (.iload_n 1, 1, 1, 0, 0, 0, 0)), (14, (.iload_n 3, 1, 3, 0, 0, 0, 0)), (15, (.ishr, 1, 0, 0, 0, 0, 0)), (16, (.iconst 1, 1, 0, 0, 0, 1, 0)), (17, (.iand, 1, 0, 0, 0, 0, 0)), (18, (.iconst 1, 1, 0, 0, 0, 1, 0)), (19, (.if_icmp .ne (12), 3, 0, 31, 0, 0, 0)), (22, (.aload_n 0, 1, 0, 0, 0, 0, 0)), (23, (.iload_n 3, 1, 3, 0, 0, 0, 0)), (24, (.iconst 3, 1, 0, 0, 0, 3, 0)), (25, (.invokevirtual 319, 3, 198, 3, 1, 0, 0)), (28, (.goto (4), 3, 0, 32, 0, 0, 0)), (31, (.iconst 0, 1, 0, 0, 0, 0, 0)), (32, (.iadd, 1, 0, 0, 0, 0, 0)), (33, (.istore_n 2, 1, 2, 0, 0, 0, 0)), (34, (.iinc 3 (1), 3, 3, 0, 0, 1, 0)), (37, (.goto (-33), 3, 0, 4, 0, 0, 0)), (40, (.iload_n 2, 1, 2, 0, 0, 0, 0)), (41, (.ireturn, 1, 0, 0, 0, 0, 0))]
def cd_253 : List (Nat × Ent) := [(0, (.aload_n 0, 1, 0, 0, 0, 0, 0)), (1, (.iconst 0, 1, 0, 0, 0, 0, 0)), (2, (.putfield 1, 3, 12, 0, 0, 0, 0)), (5, (.aload_n 0, 1, 0, 0, 0, 0, 0)), (6, (.iload_n 1, 1, 1, 0, 0, 0, 0)), (7, (.invokevirtual 337, 3, 237, 2, 1, 0, 0)), (10, (.ifCond .eq (21), 3, 0, 31, 0, 0, 0)), (13, (.aload_n 0, 1, 0, 0, 0, 0, 0)), (14, (.iload_n 2, 1, 2, 0, 0, 0, 0)), (15, (.invokevirtual 380, 3, 254, 2, 1, 0, 0)), (18, (.ifCond .eq (13), 3, 0, 31, 0, 0, 0)), (21, (.aload_n 0, 1, 0, 0, 0, 0, 0)), (22, (.iconst 0, 1, 0, 0, 0, 0, 0)), (23, (.iload_n 1, 1, 1, 0, 0, 0, 0)), (24, (.iload_n 2, 1, 2, 0, 0, 0, 0)), (25, (.invokevirtual 383, 3, 256, 4, 1, 0, 0)), (28, (.ifCond .ne (5), 3, 0, 33, 0, 0, 0)), (31, (.iconst 0, 1, 0, 0, 0, 0, 0)), (32, (.ireturn, 1, 0, 0, 1, 0, 0)), (33, (.aload_n 0, 1, 0, 0, 0, 0, 0)), (34, (.invokevirtual 386, 3, 258, 1, 0, 0, 0)), (37, (.aload_n 0, 1, 0, 0, 0, 0, 0)), (38, (.iconst 0, 1, 0, 0, 0, 0, 0)), (39, (.iload_n 1, 1, 1, 0, 0, 0, 0)), (40, (.iload_n 2, 1, 2, 0, 0, 0, 0)), (41, (.invokevirtual 389, 3, 260, 4, 0, 0, 0)), (44, (.iconst 1, 1, 0, 0, 0, 1, 0)), (45, (.ireturn, 1, 0, 0, 1, 0, 0))]
def cd_254 : List (Nat × Ent) := [(0, (.iload_n 1, 1, 1, 0, 0, 0, 0)), (1, (.ifCond .lt (15), 3, 0, 16, 0, 0, 0)), (4, (.iload_n 1, 1, 1, 0, 0, 0, 0)), (5, (.aload_n 0, 1, 0, 0, 0, 0, 0)), (6, (.invokevirtual 331, 3, 255, 1, 1, 0, 0)), (9, (.if_icmp .ge (7), 3, 0, 16, 0, 0, 0)), (12, (.iconst 1, 1, 0, 0, 0, 1, 0)), (13, (.goto (4), 3, 0, 17, 0, 0, 0)), (16, (.iconst 0, 1, 0, 0, 0, 0, 0)), (17, (.ireturn, 1, 0, 0, 1, 0, 0))]
def cd_255 : List (Nat × Ent) := [(0, (.aload_n 0, 1, 0, 0, 0, 0, 0)), (1, (.getfield 103, 3, 12, 10, 0, 0, 0)), (4, (.iconst 0, 1, 0, 0, 0, 0, 0)), (5, (.iaload, 1, 0, 0, 0, 0, 0)), (6, (.ireturn, 1, 0, 0, 0, 0, 0))]
def cd_256 : List (Nat × Ent) := [(0, (.aload_n 0, 1, 0, 0, 0, 0, 0)), (1, (.getfield 133, 3, 12, 25, 0, 0, 0)), (4, (.iload_n 1, 1, 1, 0, 0, 0, 0)), (5, (.iconst 1, 1, 0, 0, 0, 1, 0)), (6, (.iadd, 1, 0, 0, 0, 0, 0)), (7, (.iload_n 2, 1, 2, 0, 0, 0, 0)), (8, (.iadd, 1, 0, 0, 0, 0, 0)), (9, (.iaload, 1, 0, 0, 0, 0, 0)), (10, (.ifCond .ne (16), 3, 0, 26, 0, 0, 0)), (13, (.aload_n 0, 1, 0, 0, 0, 0, 0)), (14, (.iload_n 1, 1, 1, 0, 0, 0, 0)), (15, (.iload_n 3, 1, 3, 0, 0, 0, 0)), (16, (.invokevirtual 377, 3, 257, 3, 1, 0, 0)), (19, (.ifCond .eq (7), 3, 0, 26, 0, 0, 0)), (22, (.iconst 1, 1, 0, 0, 0, 1, 0)), (23, (.goto (4), 3, 0, 27, 0, 0, 0)), (26, (.iconst 0, 1, 0, 0, 0, 0, 0)), (27, (.ireturn, 1, 0, 0, 1, 0, 0))]
def cd_257 : List (Nat × Ent) := [(0, (.iconst 1, 1, 0, 0, 0, 1, 0)), (1, (.istore_n 3, 1, 3, 0, 0, 0, 0)), (2, (.iconst 0, 1, 0, 0, 0, 0, 0)), (3, (.istore 4, 2, 4, 0, 0, 0, 0)), (5, (.iload 4, 2, 4, 0, 0, 0, 0)), (7, (.aload_n 0, 1, 0, 0, 0, 0, 0)), (8, (.invokevirtual 315, 3, 197, 1, 1, 0, 0)), (11, (.if_icmp .ge (45), 3, 0, 56, 0, 0, 0)), (14, (.iload_n 3, 1, 3, 0, 0, 0, 0)), (15, (.ifCond .eq (33), 3, 0, 48, 0, 0, 0)), (18, (.aload_n 0, 1, 0, 0, 0, 0, 0)), (19, (.iload_n 1, 1, 1, 0, 0, 0, 0)), (20, (.iload 4, 2, 4, 0, 0, 0, 0)), (22, (.invokevirtual 340, 3, 238, 3, 1, 0, 0)), (25, (.ifCond .eq (19), 3, 0, 44, 0, 0, 0)), (28, (.aload_n 0, 1, 0, 0, 0, 0, 0)), (29, (.getfield 133, 3, 12, 25, 0, 0, 0)), (32, (.iload_n 1, 1, 1, 0, 0, 0, 0)), (33, (.bipush (19), 2, 0, 0, 0, 19, 0)), (35, (.iadd, 1, 0, 0, 0, 0, 0)), (36, (.iload 4, 2, 4, 0, 0, 0, 0)), (38, (.iadd, 1, 0, 0, 0, 0, 0)), (39, (.iaload, 1, 0, 0, 0, 0, 0)), (40, (.iload_n 2, 1, 2, 0, 0, 0, 0)), (41, (.if_icmp .eq (7), 3, 0, 48, 0, 0, 0)), (44, (.iconst 1, 1, 0, 0, 0, 1, 0)), (45, (.goto (4), 3, 0, 49, 0, 0, 0)), (48, (.iconst 0, 1, 0, 0, 0, 0, 0)), (49, (.istore_n 3, 1, 3, 0, 0, 0, 0)), (50, (.iinc 4 (1), 3, 4, 0, 0, 1, 0)), (53, (.goto (-48), 3, 0, 5, 0, 0, 0)), (56, (.iload_n 3, 1, 3, 0, 0, 0, 0)), (57, (.ireturn, 1, 0, 0, 1, 0, 0))]
def cd_258 : List (Nat × Ent) := [(0, (.aload_n 0, 1, 0, 0, 0, 0, 0)), (1, (.getfield 325, 3, 12, 26, 0, 0, 0)), (4, (.bipush (16), 2, 0, 0, 0, 16, 0)), (6, (.if_icmp .ne (45), 3, 0, 51, 0, 0, 0)), (9, (.iconst 1, 1, 0, 0, 0, 1, 0)), (10, (.istore_n 1, 1, 1, 0, 0, 0, 0)), (11, (.iload_n 1, 1, 1, 0, 0, 0, 0)), (12, (.bipush (16), 2, 0, 0, 0, 16, 0)), (14, (.if_icmp .ge (27), 3, 0, 41, 0, 0, 0)), (17, (.aload_n 0, 1, 0, 0, 0, 0, 0)), (18, (.bipush (49), 2, 0, 0, 0, 49, 0)), (20, (.iconst 5, 1, 0, 0, 0, 5, 0)), (21, (.iload_n 1, 1, 1, 0, 0, 0, 0)), (22, (.iadd, 1, 0, 0, 0, 0, 0)), (23, (.imul, 1, 0, 0, 0, 0, 0)), (24, (.bipush (49), 2, 0, 0, 0, 49, 0)), (26, (.iconst 5, 1, 0, 0, 0, 5, 0)), (27, (.iload_n 1, 1, 1, 0, 0, 0, 0)), (28, (.iadd, 1, 0, 0, 0, 0, 0)), (29, (.iconst 1, 1, 0, 0, 0, 1, 0)), (30, (.isub, 1, 0, 0, 0, 0, 0)), (31, (.imul, 1, 0, 0, 0, 0, 0)), (32, (.invokevirtual 328, 3, 259, 3, 0, 0, 0)), (35, (.iinc 1 (1), 3, 1, 0, 0, 1, 0)), (38, (.goto (-27), 3, 0, 11, 0, 0, 0)), (41, (.aload_n 0, 1, 0, 0, 0, 0, 0)), (42, (.dup, 1, 0, 0, 0, 0, 0)), (43, (.getfield 325, 3, 12, 26, 0, 0, 0)), (46, (.iconst 1, 1, 0, 0, 0, 1, 0)), (47, (.isub, 1, 0, 0, 0, 0, 0)), (48, (.putfield 325, 3, 12, 26, 0, 0, 0)), (51, (.aload_n 0, 1, 0, 0, 0, 0, 0)), (52, (.iconst 0, 1, 0, 0, 0, 0, 0)), (53, (.bipush (49), 2, 0, 0, 0, 49, 0)), (55, (.iconst 5, 1, 0, 0, 0, 5, 0)), (56, (.aload_n 0, 1, 0, 0, 0, 0, 0)), (57, (.getfield 325, 3, 12, 26, 0, 0, 0)), (60, (.iadd, 1, 0, 0, 0, 0, 0)), (61, (.imul, 1, 0, 0, 0, 0, 0)), (62, (.invokevirtual 328, 3, 259, 3, 0, 0, 0)), (65, (.aload_n 0, 1, 0, 0, 0, 0, 0)), (66, (.dup, 1, 0, 0, 0, 0, 0)), (67, (.getfield 325, 3, 12, 26, 0, 0, 0)), (70, (.iconst 1, 1, 0, 0, 0, 1, 0)), (71, (.iadd, 1, 0, 0, 0, 0, 0)), (72, (.putfield 325, 3, 12, 26, 0, 0, 0)), (75, (.return_, 1, 0, 0, 0, 0, 0))]
def cd_259 : List (Nat × Ent) := [(0, (.iconst 0, 1, 0, 0, 0, 0, 0)), (1, (.istore_n 3, 1, 3, 0, 0, 0, 0)), (2, (.iload_n 3, 1, 3, 0, 0, 0, 0)), (3, (.bipush (49), 2, 0, 0, 0, 49, 0)), (5, (.if_icmp .ge (25), 3, 0, 30, 0, 0, 0)), (8, (.aload_n 0, 1, 0, 0, 0, 0, 0)), (9, (.getfield 133, 3, 12, 25, 0, 0, 0)), (12, (.iload_n 2, 1, 2, 0, 0, 0, 0)), (13, (.iload_n 3, 1, 3, 0, 0, 0, 0)), (14, (.iadd, 1, 0, 0, 0, 0, 0)), (15, (.aload_n 0, 1, 0, 0, 0, 0, 0)), (16, (.getfield 133, 3, 12, 25, 0, 0, 0)), (19, (.iload_n 1, 1, 1, 0, 0, 0, 0)), (20, (.iload_n 3, 1, 3, 0, 0, 0, 0)), (21, (.iadd, 1, 0, 0, 0, 0, 0)), (22, (.iaload, 1, 0, 0, 0, 0, 0)), (23, (.iastore, 1, 0, 0, 0, 0, 0)), (24, (.iinc 3 (1), 3, 3, 0, 0, 1, 0)), (27, (.goto (-25), 3, 0, 2, 0, 0, 0)), (30, (.return_, 1, 0, 0, 0, 0, 0))]
def cd_260 : List (Nat × Ent) := [(0, (.aload_n 0, 1, 0, 0, 0, 0, 0)), (1, (.getfield 133, 3, 12, 25, 0, 0, 0)), (4, (.iload_n 1, 1, 1, 0, 0, 0, 0)), (5, (.iconst 1, 1, 0, 0, 0, 1, 0)), (6, (.iadd, 1, 0, 0, 0, 0, 0)), (7, (.iload_n 2, 1, 2, 0, 0, 0, 0)), (8, (.iadd, 1, 0, 0, 0, 0, 0)), (9, (.iconst 1, 1, 0, 0, 0, 1, 0)), (10, (.iastore, 1, 0, 0, 0, 0, 0)), (11, (.aload_n 0, 1, 0, 0, 0, 0, 0)), (12, (.getfield 133, 3, 12, 25, 0, 0, 0)), (15, (.iload_n 1, 1, 1, 0, 0, 0, 0)), (16, (.bipush (19), 2, 0, 0, 0, 19, 0)), (18, (.iadd, 1, 0, 0, 0, 0, 0)), (19, (.iload_n 2, 1, 2, 0, 0, 0, 0)), (20, (.iadd, 1, 0, 0, 0, 0, 0)), (21, (.iload_n 3, 1, 3, 0, 0, 0, 0)), (22, (.iastore, 1, 0, 0, 0, 0, 0)), (23, (.return_, 1, 0, 0, 0, 0, 0))]
def cd_261 : List (Nat × Ent) := [(0, (.aload_n 0, 1, 0, 0, 0, 0, 0)), (1, (.iconst 0, 1, 0, 0, 0, 0, 0)), (2, (.putfield 1, 3, 12, 0, 0, 0, 0)), (5, (.aload_n 0, 1, 0, 0, 0, 0, 0)), (6, (.iload_n 1, 1, 1, 0, 0, 0, 0)), (7, (.invokevirtual 368, 3, 247, 2, 1, 0, 0)), (10, (.ifCond .eq (21), 3, 0, 31, 0, 0, 0)), (13, (.aload_n 0, 1, 0, 0, 0, 0, 0)), (14, (.iload_n 2, 1, 2, 0, 0, 0, 0)), (15, (.invokevirtual 337, 3, 237, 2, 1, 0, 0)), (18, (.ifCond .eq (13), 3, 0, 31, 0, 0, 0)), (21, (.aload_n 0, 1, 0, 0, 0, 0, 0)), (22, (.iconst 0, 1, 0, 0, 0, 0, 0)), (23, (.iload_n 1, 1, 1, 0, 0, 0, 0)), (24, (.iload_n 2, 1, 2, 0, 0, 0, 0)), (25, (.invokevirtual 393, 3, 262, 4, 1, 0, 0)), (28, (.ifCond .ne (5), 3, 0, 33, 0, 0, 0)), (31, (.iconst (-1), 1, 0, 0, 0, (-1), 0)), (32, (.ireturn, 1, 0, 0, 0, 0, 0)), (33, (.aload_n 0, 1, 0, 0, 0, 0, 0)), (34, (.invokevirtual 386, 3, 258, 1, 0, 0, 0)), (37, (.aload_n 0, 1, 0, 0, 0, 0, 0)), (38, (.iconst 0, 1, 0, 0, 0, 0, 0)), (39, (.iload_n 1, 1, 1, 0, 0, 0, 0)), (40, (.iload_n 2, 1, 2, 0, 0, 0, 0)), (41, (.invokevirtual 396, 3, 263, 4, 1, 0, 0)), (44, (.ireturn, 1, 0, 0, 0, 0, 0))]
def cd_262 : List (Nat × Ent) := [(0, (.aload_n 0, 1, 0, 0, 0, 0, 0)), (1, (.getfield 133, 3, 12, 25, 0, 0, 0)), (4, (.iload_n 1, 1, 1, 0, 0, 0, 0)), (5, (.bipush (37), 2, 0, 0, 0, 37, 0)), (7, (.iadd, 1, 0, 0, 0, 0, 0)), (8, (.iload_n 2, 1, 2, 0, 0, 0, 0)), (9, (.iadd, 1, 0, 0, 0, 0, 0)), (10, (.iaload, 1, 0, 0, 0, 0, 0)), (11, (.ifCond .ne (22), 3, 0, 33, 0, 0, 0)), (14, (.aload_n 0, 1, 0, 0, 0, 0, 0)), (15, (.getfield 133, 3, 12, 25, 0, 0, 0)), (18, (.iload_n 1, 1, 1, 0, 0, 0, 0)), (19, (.bipush (31), 2, 0, 0, 0, 31, 0)), (21, (.iadd, 1, 0, 0, 0, 0, 0)), (22, (.iload_n 2, 1, 2, 0, 0, 0, 0)), (23, (.iadd, 1, 0, 0, 0, 0, 0)), (24, (.iaload, 1, 0, 0, 0, 0, 0)), (25, (.iconst (-1), 1, 0, 0, 0, (-1), 0)), (26, (.if_icmp .ne (7), 3, 0, 33, 0, 0, 0)), (29, (.iconst 1, 1, 0, 0, 0, 1, 0)), (30, (.goto (4), 3, 0, 34, 0, 0, 0)), (33, (.iconst 0, 1, 0, 0, 0, 0, 0)), (34, (.istore 4, 2, 4, 0, 0, 0, 0)), (36, (.iload 4, 2, 4, 0, 0, 0, 0)), (38, (.ifCond .eq (35), 3, 0, 73, 0, 0, 0)), (41, (.aload_n 0, 1, 0, 0, 0, 0, 0)), (42, (.iload_n 1, 1, 1, 0, 0, 0, 0)), (43, (.iload_n 3, 1, 3, 0, 0, 0, 0)), (44, (.invokevirtual 340, 3, 238, 3, 1, 0, 0)), (47, (.ifCond .eq (26), 3, 0, 73, 0, 0, 0)), (50, (.aload_n 0, 1, 0, 0, 0, 0, 0)), (51, (.getfield 133, 3, 12, 25, 0, 0, 0)), (54, (.iload_n 1, 1, 1, 0, 0, 0, 0)), (55, (.bipush (13), 2, 0, 0, 0, 13, 0)), (57, (.iadd, 1, 0, 0, 0, 0, 0)), (58, (.iload_n 3, 1, 3, 0, 0, 0, 0)), (59, (.iadd, 1, 0, 0, 0, 0, 0)), (60, (.iaload, 1, 0, 0, 0, 0, 0)), (61, (.aload_n 0, 1, 0, 0, 0, 0, 0)), (62, (.iload_n 3, 1, 3, 0, 0, 0, 0)), (63, (.invokevirtual 344, 3, 239, 2, 1, 0, 0)), (66, (.if_icmp .ge (7), 3, 0, 73, 0, 0, 0)), (69, (.iconst 1, 1, 0, 0, 0, 1, 0)), (70, (.goto (4), 3, 0, 74, 0, 0, 0)), (73, (.iconst 0, 1, 0, 0, 0, 0, 0)), (74, (.ireturn, 1, 0, 0, 1, 0, 0))]
def cd_263 : List (Nat × Ent) := [(0, (.aload_n 0, 1, 0, 0, 0, 0, 0)), (1, (.getfield 127, 3, 12, 23, 0, 0, 0)), (4, (.iconst 2, 1, 0, 0, 0, 2, 0)), (5, (.aload_n 0, 1, 0, 0, 0, 0, 0)), (6, (.getfield 133, 3, 12, 25, 0, 0, 0)), (9, (.iload_n 1, 1, 1, 0, 0, 0, 0)), (10, (.bipush (7), 2, 0, 0, 0, 7, 0)), (12, (.iadd, 1, 0, 0, 0, 0, 0)), (13, (.iload_n 3, 1, 3, 0, 0, 0, 0)), (14, (.iadd, 1, 0, 0, 0, 0, 0)), (15, (.iaload, 1, 0, 0, 0, 0, 0)), (16, (.iastore, 1, 0, 0, 0, 0, 0)), (17, (.aload_n 0, 1, 0, 0, 0, 0, 0)), (18, (.getfield 127, 3, 12, 23, 0, 0, 0)), (21, (.iconst 3, 1, 0, 0, 0, 3, 0)), (22, (.aload_n 0, 1, 0, 0, 0, 0, 0)), (23, (.getfield 103, 3, 12, 10, 0, 0, 0)), (26, (.bipush (14), 2, 0, 0, 0, 14, 0)), (28, (.iconst 2, 1, 0, 0, 0, 2, 0)), (29, (.iload_n 2, 1, 2, 0, 0, 0, 0)), (30, (.imul, 1, 0, 0, 0, 0, 0)), (31, (.iadd, 1, 0, 0, 0, 0, 0)), (32, (.iconst 1, 1, 0, 0, 0, 1, 0)), (33, (.iadd, 1, 0, 0, 0, 0, 0)), (34, (.iaload, 1, 0, 0, 0, 0, 0)), (35, (.iastore, 1, 0, 0, 0, 0, 0)), (36, (.aload_n 0, 1, 0, 0, 0, 0, 0)), (37, (.getfield 127, 3, 12, 23, 0, 0, 0)), (40, (.iconst 4, 1, 0, 0, 0, 4, 0)), (41, (.aload_n 0, 1, 0, 0, 0, 0, 0)), (42, (.getfield 133, 3, 12, 25, 0, 0, 0)), (45, (.iload_n 1, 1, 1, 0, 0, 0, 0)), (46, (.bipush (13), 2, 0, 0, 0, 13, 0)), (48, (.iadd, 1, 0, 0, 0, 0, 0)), (49, (.iload_n 3, 1, 3, 0, 0, 0, 0)), (50, (.iadd, 1, 0, 0, 0, 0, 0)), (51, (.iaload, 1, 0, 0, 0, 0, 0)), (52, (.iastore, 1, 0, 0, 0, 0, 0)), (53, (.aload_n 0, 1, 0, 0, 0, 0, 0)), (54, (.getfield 103, 3, 12, 10, 0, 0, 0)), (57, (.bipush (7), 2, 0, 0, 0, 7, 0)), (59, (.iaload, 1, 0, 0, 0, 0, 0)), (60, (.ifCond .ge (12), 3, 0, 72, 0, 0, 0)), (63, (.aload_n 0, 1, 0, 0, 0, 0, 0)), (64, (.getfield 127, 3, 12, 23, 0, 0, 0)), (67, (.iconst 3, 1, 0, 0, 0, 3, 0)), (68, (.iaload, 1, 0, 0, 0, 0, 0)), (69, (.goto (14), 3, 0, 83, 0, 0, 0)), (72, (.aload_n 0, 1, 0, 0, 0, 0, 0)), (73, (.aload_n 0, 1, 0, 0, 0, 0, 0)), (74, (.getfield 103, 3, 12, 10, 0, 0, 0)), (77, (.bipush (7), 2, 0, 0, 0, 7, 0)), (79, (.iaload, 1, 0, 0, 0, 0, 0)), (80, (.invokevirtual 354, 3, 244, 2, 1, 0, 0)), (83, (.istore 4, 2, 4, 0, 0, 0, 0)), (85, (.aload_n 0, 1, 0, 0, 0, 0, 0)), (86, (.getfield 127, 3, 12, 23, 0, 0, 0)), (89, (.iconst 4, 1, 0, 0, 0, 4, 0)), (90, (.iaload, 1, 0, 0, 0, 0, 0)), (91, (.iload 4, 2, 4, 0, 0, 0, 0)), (93, (.ifCond .ge (7), 3, 0, 100, 0, 0, 0)), (96, (.iconst 0, 1, 0, 0, 0, 0, 0)), (97, (.goto (17), 3, 0, 114, 0, 0, 0)), (100, (.iload 4, 2, 4, 0, 0, 0, 0)), (102, (.bipush (99), 2, 0, 0, 0, 99, 0)), (104, (.if_icmp .le (8), 3, 0, 112, 0, 0, 0)), (107, (.bipush (99), 2, 0, 0, 0, 99, 0)), (109, (.goto (5), 3, 0, 114, 0, 0, 0)), (112, (.iload 4, 2, 4, 0, 0, 0, 0)), (114, (.iadd, 1, 0, 0, 0, 0, 0)), (115, (.istore 4, 2, 4, 0, 0, 0, 0)), (117, (.aload_n 0, 1, 0, 0, 0, 0, 0)), (118, (.getfield 133, 3, 12, 25, 0, 0, 0)), (121, (.iload_n 1, 1, 1, 0, 0, 0, 0)), (122, (.bipush (13), 2, 0, 0, 0, 13, 0)), (124, (.iadd, 1, 0, 0, 0, 0, 0)), (125, (.iload_n 3, 1, 3, 0, 0, 0, 0)), (126, (.iadd, 1, 0, 0, 0, 0, 0)), (127, (.iload 4, 2, 4, 0, 0, 0, 0)), (129, (.bipush (99), 2, 0, 0, 0, 99, 0)), (131, (.if_icmp .le (8), 3, 0, 139, 0, 0, 0)), (134, (.bipush (99), 2, 0, 0, 0, 99, 0)), (136, (.goto (5), 3, 0, 141, 0, 0, 0)), (139, (.iload 4, 2, 4, 0, 0, 0, 0)), (141, (.iastore, 1, 0, 0, 0, 0, 0)), (142, (.aload_n 0, 1, 0, 0, 0, 0, 0)), (143, (.getfield 133, 3, 12, 25, 0, 0, 0)), (146, (.iload_n 1, 1, 1, 0, 0, 0, 0)), (147, (.bipush (31), 2, 0, 0, 0, 31, 0)), (149, (.iadd, 1, 0, 0, 0, 0, 0)), (150, (.iload_n 2, 1, 2, 0, 0, 0, 0)), (151, (.iadd, 1, 0, 0, 0, 0, 0)), (152, (.iload_n 3, 1, 3, 0, 0, 0, 0)), (153, (.iastore, 1, 0, 0, 0, 0, 0)), (154, (.aload_n 0, 1, 0, 0, 0, 0, 0)), (155, (.getfield 133, 3, 12, 25, 0, 0, 0)), (158, (.iload_n 1, 1, 1, 0, 0, 0, 0)), (159, (.bipush (13), 2, 0, 0, 0, 13, 0)), (161, (.iadd, 1, 0, 0, 0, 0, 0)), (162, (.iload_n 3, 1, 3, 0, 0, 0, 0)), (163, (.iadd, 1, 0, 0, 0, 0, 0)), (164, (.iaload, 1, 0, 0, 0, 0, 0)), (165, (.ireturn, 1, 0, 0, 0, 0, 0))]
def cd_264 : List (Nat × Ent) := [(0, (.aload_n 0, 1, 0, 0, 0, 0, 0)), (1, (.iconst 0, 1, 0, 0, 0, 0, 0)), (2, (.putfield 1, 3, 12, 0, 0, 0, 0)), (5, (.aload_n 0, 1, 0, 0, 0, 0, 0)), (6, (.iconst 0, 1, 0, 0, 0, 0, 0)), (7, (.iload_n 1, 1, 1, 0, 0, 0, 0)), (8, (.invokevirtual 399, 3, 265, 3, 1, 0, 0)), (11, (.ifCond .ne (5), 3, 0, 16, 0, 0, 0)), (14, (.iconst (-1), 1, 0, 0, 0, (-1), 0)), (15, (.ireturn, 1, 0, 0, 0, 0, 0)), (16, (.aload_n 0, 1, 0, 0, 0, 0, 0)), (17, (.invokevirtual 386, 3, 258, 1, 0, 0, 0)), (20, (.aload_n 0, 1, 0, 0, 0, 0, 0)), (21, (.getfield 133, 3, 12, 25, 0, 0, 0)), (24, (.bipush (25), 2, 0, 0, 0, 25, 0)), (26, (.iload_n 1, 1, 1, 0, 0, 0, 0)), (27, (.iadd, 1, 0, 0, 0, 0, 0)), (28, (.dup2, 1, 0, 0, 0, 0, 0)), (29, (.iaload, 1, 0, 0, 0, 0, 0)), (30, (.iconst 1, 1, 0, 0, 0, 1, 0)), (31, (.iadd, 1, 0, 0, 0, 0, 0)), (32, (.iastore, 1, 0, 0, 0, 0, 0)), (33, (.aload_n 0, 1, 0, 0, 0, 0, 0)), (34, (.getfield 133, 3, 12, 25, 0, 0, 0)), (37, (.bipush (25), 2, 0, 0, 0, 25, 0)), (39, (.iload_n 1, 1, 1, 0, 0, 0, 0)), (40, (.iadd, 1, 0, 0, 0, 0, 0)), (41, (.iaload, 1, 0, 0, 0, 0, 0)), (42, (.ireturn, 1, 0, 0, 0, 0, 0))]
def cd_265 : List (Nat × Ent) := [(0, (.aload_n 0, 1, 0, 0, 0, 0, 0)), (1, (.iload_n 1, 1, 1, 0, 0, 0, 0)), (2, (.iload_n 2, 1, 2, 0, 0, 0, 0)), (3, (.invokevirtual 340, 3, 238, 3, 1, 0, 0)), (6, (.ifCond .eq (22), 3, 0, 28, 0, 0, 0)), (9, (.aload_n 0, 1, 0, 0, 0, 0, 0)), (10, (.getfield 133, 3, 12, 25, 0, 0, 0)), (13, (.iload_n 1, 1, 1, 0, 0, 0, 0)), (14, (.bipush (25), 2, 0, 0, 0, 25, 0)), (16, (.iadd, 1, 0, 0, 0, 0, 0)), (17, (.iload_n 2, 1, 2, 0, 0, 0, 0)), (18, (.iadd, 1, 0, 0, 0, 0, 0)), (19, (.iaload, 1, 0, 0, 0, 0, 0)), (20, (.iconst 3, 1, 0, 0, 0, 3, 0)), (21, (.if_icmp .ge (7), 3, 0, 28, 0, 0, 0)), (24, (.iconst 1, 1, 0, 0, 0, 1, 0)), (25, (.goto (4), 3, 0, 29, 0, 0, 0)), (28, (.iconst 0, 1, 0, 0, 0, 0, 0)), (29, (.ireturn, 1, 0, 0, 1, 0, 0))]
def cd_266 : List (Nat × Ent) := [(0, (.aload_n 0, 1, 0, 0, 0, 0, 0)), (1, (.iconst 0, 1, 0, 0, 0, 0, 0)), (2, (.putfield 1, 3, 12, 0, 0, 0, 0)), (5, (.aload_n 0, 1, 0, 0, 0, 0, 0)), (6, (.iconst 0, 1, 0, 0, 0, 0, 0)), (7, (.iload_n 1, 1, 1, 0, 0, 0, 0)), (8, (.invokevirtual 340, 3, 238, 3, 1, 0, 0)), (11, (.ifCond .ne (5), 3, 0, 16, 0, 0, 0)), (14, (.iconst (-1), 1, 0, 0, 0, (-1), 0)), (15, (.ireturn, 1, 0, 0, 0, 0, 0)), (16, (.aload_n 0, 1, 0, 0, 0, 0, 0)), (17, (.invokevirtual 386, 3, 258, 1, 0, 0, 0)), (20, (.aload_n 0, 1, 0, 0, 0, 0, 0)), (21, (.iconst 0, 1, 0, 0, 0, 0, 0)), (22, (.iload_n 1, 1, 1, 0, 0, 0, 0)), (23, (.invokevirtual 402, 3, 267, 3, 1, 0, 0)), (26, (.ireturn, 1, 0, 0, 0, 0, 0))]
def cd_267 : List (Nat × Ent) := [(0, (.aload_n 0, 1, 0, 0, 0, 0, 0)), (1, (.getfield 133, 3, 12, 25, 0, 0, 0)), (4, (.iload_n 1, 1, 1, 0, 0, 0, 0)), (5, (.bipush (7), 2, 0, 0, 0, 7, 0)), (7, (.iadd, 1, 0, 0, 0, 0, 0)), (8, (.iload_n 2, 1, 2, 0, 0, 0, 0)), (9, (.iadd, 1, 0, 0, 0, 0, 0)), (10, (.dup2, 1, 0, 0, 0, 0, 0)), (11, (.iaload, 1, 0, 0, 0, 0, 0)), (12, (.iconst 1, 1, 0, 0, 0, 1, 0)), (13, (.isub, 1, 0, 0, 0, 0, 0)), (14, (.iastore, 1, 0, 0, 0, 0, 0)), (15, (.aload_n 0, 1, 0, 0, 0, 0, 0)), (16, (.getfield 133, 3, 12, 25, 0, 0, 0)), (19, (.iload_n 1, 1, 1, 0, 0, 0, 0)), (20, (.iconst 1, 1, 0, 0, 0, 1, 0)), (21, (.iadd, 1, 0, 0, 0, 0, 0)), (22, (.iload_n 2, 1, 2, 0, 0, 0, 0)), (23, (.iadd, 1, 0, 0, 0, 0, 0)), (24, (.aload_n 0, 1, 0, 0, 0, 0, 0)), (25, (.getfield 133, 3, 12, 25, 0, 0, 0)), (28, (.iload_n 1, 1, 1, 0, 0, 0, 0)), (29, (.bipush (7), 2, 0, 0, 0, 7, 0)), (31, (.iadd, 1, 0, 0, 0, 0, 0)), (32, (.iload_n 2, 1, 2, 0, 0, 0, 0)), (33, (.iadd, 1, 0, 0, 0, 0, 0)), (34, (.iaload, 1, 0, 0, 0, 0, 0)), (35, (.ifCond .ne (7), 3, 0, 42, 0, 0, 0)), (38, (.iconst 2, 1, 0, 0, 0, 2, 0)), (39, (.goto (4), 3, 0, 43, 0, 0, 0)), (42, (.iconst 1, 1, 0, 0, 0, 1, 0)), (43, (.iastore, 1, 0, 0, 0, 0, 0)), (44, (.aload_n 0, 1, 0, 0, 0, 0, 0)), (45, (.getfield 133, 3, 12, 25, 0, 0, 0)), (48, (.iload_n 1, 1, 1, 0, 0, 0, 0)), (49, (.bipush (7), 2, 0, 0, 0, 7, 0)), (51, (.iadd, 1, 0, 0, 0, 0, 0)), (52, (.iload_n 2, 1, 2, 0, 0, 0, 0)), (53, (.iadd, 1, 0, 0, 0, 0, 0)), (54, (.iaload, 1, 0, 0, 0, 0, 0)), (55, (.ireturn, 1, 0, 0, 0, 0, 0))]
def cd_268 : List (Nat × Ent) := [(0, (.aload_n 0, 1, 0, 0, 0, 0, 0)), (1, (.iconst 0, 1, 0, 0, 0, 0, 0)), (2, (.putfield 1, 3, 12, 0, 0, 0, 0)), (5, (.aload_n 0, 1, 0, 0, 0, 0, 0)), (6, (.invokevirtual 386, 3, 258, 1, 0, 0, 0)), (9, (.aload_n 0, 1, 0, 0, 0, 0, 0)), (10, (.iconst 0, 1, 0, 0, 0, 0, 0)), (11, (.iconst 0, 1, 0, 0, 0, 0, 0)), (12, (.invokevirtual 405, 3, 269, 3, 1, 0, 0)), (15, (.ireturn, 1, 0, 0, 0, 0, 0))]
def cd_269 : List (Nat × Ent) := [(0, (.iconst 0, 1, 0, 0, 0, 0, 0)), (1, (.istore_n 3, 1, 3, 0, 0, 0, 0)), (2, (.iconst 0, 1, 0, 0, 0, 0, 0)), (3, (.istore 4, 2, 4, 0, 0, 0, 0)), (5, (.iload 4, 2, 4, 0, 0, 0, 0)), (7, (.aload_n 0, 1, 0, 0, 0, 0, 0)), (8, (.invokevirtual 315, 3, 197, 1, 1, 0, 0)), (11, (.if_icmp .ge (123), 3, 0, 134, 0, 0, 0)), (14, (.aload_n 0, 1, 0, 0, 0, 0, 0)), (15, (.iload_n 1, 1, 1, 0, 0, 0, 0)), (16, (.iload 4, 2, 4, 0, 0, 0, 0)), (18, (.invokevirtual 340, 3, 238, 3, 1, 0, 0)), (21, (.ifCond .eq (107), 3, 0, 128, 0, 0, 0)), (24, (.aload_n 0, 1, 0, 0, 0, 0, 0)), (25, (.getfield 133, 3, 12, 25, 0, 0, 0)), (28, (.iload_n 1, 1, 1, 0, 0, 0, 0)), (29, (.bipush (7), 2, 0, 0, 0, 7, 0)), (31, (.iadd, 1, 0, 0, 0, 0, 0)), (32, (.iload 4, 2, 4, 0, 0, 0, 0)), (34, (.iadd, 1, 0, 0, 0, 0, 0)), (35, (.aload_n 0, 1, 0, 0, 0, 0, 0)), (36, (.iload_n 1, 1, 1, 0, 0, 0, 0)), (37, (.iload 4, 2, 4, 0, 0, 0, 0)), (39, (.iload_n 2, 1, 2, 0, 0, 0, 0)), (40, (.invokevirtual 365, 3, 270, 4, 1, 0, 0)), (43, (.iastore, 1, 0, 0, 0, 0, 0)), (44, (.aload_n 0, 1, 0, 0, 0, 0, 0)), (45, (.getfield 133, 3, 12, 25, 0, 0, 0)), (48, (.iload_n 1, 1, 1, 0, 0, 0, 0)), (49, (.bipush (7), 2, 0, 0, 0, 7, 0)), (51, (.iadd, 1, 0, 0, 0, 0, 0)), (52, (.iload 4, 2, 4, 0, 0, 0, 0)), (54, (.iadd, 1, 0, 0, 0, 0, 0)), (55, (.iaload, 1, 0, 0, 0, 0, 0)), (56, (.ifCond .ne (72), 3, 0, 128, 0, 0, 0)), (59, (.aload_n 0, 1, 0, 0, 0, 0, 0)), (60, (.getfield 133, 3, 12, 25, 0, 0, 0)), (63, (.iload_n 1, 1, 1, 0, 0, 0, 0)), (64, (.iconst 1, 1, 0, 0, 0, 1, 0)), (65, (.iadd, 1, 0, 0, 0, 0, 0)), (66, (.iload 4, 2, 4, 0, 0, 0, 0)), (68, (.iadd, 1, 0, 0, 0, 0, 0)), (69, (.iconst 2, 1, 0, 0, 0, 2, 0)), (70, (.iastore, 1, 0, 0, 0, 0, 0)), (71, (.aload_n 0, 1, 0, 0, 0, 0, 0)), (72, (.iload 4, 2, 4, 0, 0, 0, 0)), (74, (.iconst 4, 1, 0, 0, 0, 4, 0)), (75, (.invokevirtual 319, 3, 198, 3, 1, 0, 0)), (78, (.istore 5, 2, 5, 0, 0, 0, 0)), (80, (.aload_n 0, 1, 0, 0, 0, 0, 0)), (81, (.getfield 133, 3, 12, 25, 0, 0, 0)), (84, (.iload_n 1, 1, 1, 0, 0, 0, 0)), (85, (.bipush (37), 2, 0, 0, 0, 37, 0)), (87, (.iadd, 1, 0, 0, 0, 0, 0)), (88, (.iload 5, 2, 5, 0, 0, 0, 0)), (90, (.iadd, 1, 0, 0, 0, 0, 0)), (91, (.aload_n 0, 1, 0, 0, 0, 0, 0)), (92, (.getfield 133, 3, 12, 25, 0, 0, 0)), (95, (.iload_n 1, 1, 1, 0, 0, 0, 0)), (96, (.bipush (31), 2, 0, 0, 0, 31, 0)), (98, (.iadd, 1, 0, 0, 0, 0, 0)), (99, (.iload 5, 2, 5, 0, 0, 0, 0)), (101, (.iadd, 1, 0, 0, 0, 0, 0)), (102, (.iaload, 1, 0, 0, 0, 0, 0)), (103, (.iload 4, 2, 4, 0, 0, 0, 0)), (105, (.if_icmp .ne (7), 3, 0, 112, 0, 0, 0)), (108, (.iconst 1, 1, 0, 0, 0, 1, 0)), (109, (.goto (15), 3, 0, 124, 0, 0, 0)), (112, (.aload_n 0, 1, 0, 0, 0, 0, 0)), (113, (.getfield 133, 3, 12, 25, 0, 0, 0)), (116, (.iload_n 1, 1, 1, 0, 0, 0, 0)), (117, (.bipush (37), 2, 0, 0, 0, 37, 0)), (119, (.iadd, 1, 0, 0, 0, 0, 0)), (120, (.iload 5, 2, 5, 0, 0, 0, 0)), (122, (.iadd, 1, 0, 0, 0, 0, 0)), (123, (.iaload, 1, 0, 0, 0, 0, 0)), (124, (.iastore, 1, 0, 0, 0, 0, 0)), (125, (.iinc 3 (1), 3, 3, 0, 0, 1, 0)), (128, (.iinc 4 (1), 3, 4, 0, 0, 1, 0)), (131, (.goto (-126), 3, 0, 5, 0, 0, 0)), (134, (.iconst 0, 1, 0, 0, 0, 0, 0)), (135, (.istore 4, 2, 4, 0, 0, 0, 0)), (137, (.iload 4, 2, 4, 0, 0, 0, 0)), (139, (.bipush (6), 2, 0, 0, 0, 6, 0)), (141, (.if_icmp .ge (35), 3, 0, 176, 0, 0, 0)), (144, (.aload_n 0, 1, 0, 0, 0, 0, 0)), (145, (.getfield 133, 3, 12, 25, 0, 0, 0)), (148, (.iload_n 1, 1, 1, 0, 0, 0, 0)), (149, (.bipush (31), 2, 0, 0, 0, 31, 0)), (151, (.iadd, 1, 0, 0, 0, 0, 0)), (152, (.iload 4, 2, 4, 0, 0, 0, 0)), (154, (.iadd, 1, 0, 0, 0, 0, 0)), (155, (.iconst (-1), 1, 0, 0, 0, (-1), 0)), (156, (.iastore, 1, 0, 0, 0, 0, 0)), (157, (.aload_n 0, 1, 0, 0, 0, 0, 0)), (158, (.getfield 133, 3, 12, 25, 0, 0, 0)), (161, (.iload_n 1, 1, 1, 0, 0, 0, 0)), (162, (.bipush (43), 2, 0, 0, 0, 43, 0)), (164, (.iadd, 1, 0, 0, 0, 0, 0)), (165, (.iload 4, 2, 4, 0, 0, 0, 0)), (167, (.iadd, 1, 0, 0, 0, 0, 0)), (168, (.iconst (-1), 1, 0, 0, 0, (-1), 0)), (169, (.iastore, 1, 0, 0, 0, 0, 0)), (170, (.iinc 4 (1), 3, 4, 0, 0, 1, 0)), (173, (.goto (-36), 3, 0, 137, 0, 0, 0)), (176, (.aload_n 0, 1, 0, 0, 0, 0, 0)), (177, (.getfield 133, 3, 12, 25, 0, 0, 0)), (180, (.iload_n 1, 1, 1, 0, 0, 0, 0)), (181, (.iconst 0, 1, 0, 0, 0, 0, 0)), (182, (.iadd, 1, 0, 0, 0, 0, 0)), (183, (.dup2, 1, 0, 0, 0, 0, 0)), (184, (.iaload, 1, 0, 0, 0, 0, 0)), (185, (.iconst 1, 1, 0, 0, 0, 1, 0)), (186, (.iadd, 1, 0, 0, 0, 0, 0)), (187, (.iastore, 1, 0, 0, 0, 0, 0)), (188, (.iload_n 3, 1, 3, 0, 0, 0, 0)), (189, (.ireturn, 1, 0, 0, 0, 0, 0))]
def cd_270 : List (Nat × Ent) := [(0, (.aload_n 0, 1, 0, 0, 0, 0, 0)), (1, (.getfield 133, 3, 12, 25, 0, 0, 0)), (4, (.iload_n 1, 1, 1, 0, 0, 0, 0)), (5, (.bipush (7), 2, 0, 0, 0, 7, 0)), (7, (.iadd, 1, 0, 0, 0, 0, 0)), (8, (.iload_n 2, 1, 2, 0, 0, 0, 0)), (9, (.iadd, 1, 0, 0, 0, 0, 0)), (10, (.iaload, 1, 0, 0, 0, 0, 0)), (11, (.aload_n 0, 1, 0, 0, 0, 0, 0)), (12, (.iload_n 1, 1, 1, 0, 0, 0, 0)), (13, (.iload_n 2, 1, 2, 0, 0, 0, 0)), (14, (.iload_n 3, 1, 3, 0, 0, 0, 0)), (15, (.invokevirtual 361, 3, 241, 4, 1, 0, 0)), (18, (.isub, 1, 0, 0, 0, 0, 0)), (19, (.istore 4, 2, 4, 0, 0, 0, 0)), (21, (.iload 4, 2, 4, 0, 0, 0, 0)), (23, (.ifCond .ge (7), 3, 0, 30, 0, 0, 0)), (26, (.iconst 0, 1, 0, 0, 0, 0, 0)), (27, (.goto (5), 3, 0, 32, 0, 0, 0)), (30, (.iload 4, 2, 4, 0, 0, 0, 0)), (32, (.ireturn, 1, 0, 0, 0, 0, 0))]
def cd_271 : List (Nat × Ent) := [(0, (.aload_n 0, 1, 0, 0, 0, 0, 0)), (1, (.iconst 0, 1, 0, 0, 0, 0, 0)), (2, (.putfield 1, 3, 12, 0, 0, 0, 0)), (5, (.aload_n 0, 1, 0, 0, 0, 0, 0)), (6, (.getfield 325, 3, 12, 26, 0, 0, 0)), (9, (.ifCond .ne (5), 3, 0, 14, 0, 0, 0)), (12, (.iconst 0, 1, 0, 0, 0, 0, 0)), (13, (.ireturn, 1, 0, 0, 1, 0, 0)), (14, (.aload_n 0, 1, 0, 0, 0, 0, 0)), (15, (.dup, 1, 0, 0, 0, 0, 0)), (16, (.getfield 325, 3, 12, 26, 0, 0, 0)), (19, (.iconst 1, 1, 0, 0, 0, 1, 0)), (20, (.isub, 1, 0, 0, 0, 0, 0)), (21, (.putfield 325, 3, 12, 26, 0, 0, 0)), (24, (.aload_n 0, 1, 0, 0, 0, 0, 0)), (25, (.bipush (49), 2, 0, 0, 0, 49, 0)), (27, (.iconst 5, 1, 0, 0, 0, 5, 0)), (28, (.aload_n 0, 1, 0, 0, 0, 0, 0)), (29, (.getfield 325, 3, 12, 26, 0, 0, 0)), (32, (.iadd, 1, 0, 0, 0, 0, 0)), (33, (.imul, 1, 0, 0, 0, 0, 0)), (34, (.iconst 0, 1, 0, 0, 0, 0, 0)), (35, (.invokevirtual 328, 3, 259, 3, 0, 0, 0)), (38, (.iconst 1, 1, 0, 0, 0, 1, 0)), (39, (.ireturn, 1, 0, 0, 1, 0, 0))]
def cd_272 : List (Nat × Ent) := [(0, (.aload_n 0, 1, 0, 0, 0, 0, 0)), (1, (.iconst 0, 1, 0, 0, 0, 0, 0)), (2, (.putfield 1, 3, 12, 0, 0, 0, 0)), (5, (.iload_n 1, 1, 1, 0, 0, 0, 0)), (6, (.iconst 0, 1, 0, 0, 0, 0, 0)), (7, (.iconst 2, 1, 0, 0, 0, 2, 0)), (8, (.invokestatic 233, 3, 222, 3, 1, 0, 0)), (11, (.ifCond .ne (6), 3, 0, 17, 0, 0, 0)), (14, (.bipush (-2), 2, 0, 0, 0, (-2), 0)), (16, (.ireturn, 1, 0, 0, 0, 0, 0)), (17, (.aload_n 0, 1, 0, 0, 0, 0, 0)), (18, (.sipush (1029), 3, 0, 0, 0, 1029, 0)), (21, (.invokevirtual 322, 3, 196, 2, 0, 0, 0)), (24, (.iconst (-1), 1, 0, 0, 0, (-1), 0)), (25, (.istore_n 2, 1, 2, 0, 0, 0, 0)), (26, (.iconst (-1), 1, 0, 0, 0, (-1), 0)), (27, (.istore_n 3, 1, 3, 0, 0, 0, 0)), (28, (.iconst 0, 1, 0, 0, 0, 0, 0)), (29, (.istore 4, 2, 4, 0, 0, 0, 0)), (31, (.iload 4, 2, 4, 0, 0, 0, 0)), (33, (.aload_n 0, 1, 0, 0, 0, 0, 0)), (34, (.getfield 124, 3, 12, 22, 0, 0, 0)), (37, (.iconst 0, 1, 0, 0, 0, 0, 0)), (38, (.iaload, 1, 0, 0, 0, 0, 0)), (39, (.if_icmp .ge (95), 3, 0, 134, 0, 0, 0)), (42, (.aload_n 0, 1, 0, 0, 0, 0, 0)), (43, (.getfield 124, 3, 12, 22, 0, 0, 0)), (46, (.iconst 1, 1, 0, 0, 0, 1, 0)), (47, (.iconst 3, 1, 0, 0, 0, 3, 0)), (48, (.iload 4, 2, 4, 0, 0, 0, 0)), (50, (.imul, 1, 0, 0, 0, 0, 0)), (51, (.iadd, 1, 0, 0, 0, 0, 0)), (52, (.iaload, 1, 0, 0, 0, 0, 0)), (53, (.istore 5, 2, 5, 0, 0, 0, 0)), (55, (.aload_n 0, 1, 0, 0, 0, 0, 0)), (56, (.iload 5, 2, 5, 0, 0, 0, 0)), (58, (.aload_n 0, 1, 0, 0, 0, 0, 0)), (59, (.getfield 124, 3, 12, 22, 0, 0, 0)), (62, (.iconst 2, 1, 0, 0, 0, 2, 0)), (63, (.iconst 3, 1, 0, 0, 0, 3, 0)), (64, (.iload 4, 2, 4, 0, 0, 0, 0)), (66, (.imul, 1, 0, 0, 0, 0, 0)), (67, (.iadd, 1, 0, 0, 0, 0, 0)), (68, (.iaload, 1, 0, 0, 0, 0, 0)), (69, (.aload_n 0, 1, 0, 0, 0, 0, 0)), (70, (.getfield 124, 3, 12, 22, 0, 0, 0)), (73, (.iconst 3, 1, 0, 0, 0, 3, 0)), (74, (.iconst 3, 1, 0, 0, 0, 3, 0)), (75, (.iload 4, 2, 4, 0, 0, 0, 0)), (77, (.imul, 1, 0, 0, 0, 0, 0)), (78, (.iadd, 1, 0, 0, 0, 0, 0)), (79, (.iaload, 1, 0, 0, 0, 0, 0)), (80, (.invokevirtual 408, 3, 273, 4, 1, 0, 0)), (83, (.istore 6, 2, 6, 0, 0, 0, 0)), (85, (.iload 6, 2, 6, 0, 0, 0, 0)), (87, (.ifCond .ne (12), 3, 0, 99, 0, 0, 0)), (90, (.iload_n 2, 1, 2, 0, 0, 0, 0)), (91, (.ifCond .ge (8), 3, 0, 99, 0, 0, 0)), (94, (.iload 4, 2, 4, 0, 0, 0, 0)), (96, (.goto (4), 3, 0, 100, 0, 0, 0)), (99, (.iload_n 2, 1, 2, 0, 0, 0, 0)), (100, (.istore_n 2, 1, 2, 0, 0, 0, 0)), (101, (.iload_n 3, 1, 3, 0, 0, 0, 0)), (102, (.ifCond .ge (24), 3, 0, 126, 0, 0, 0)), (105, (.iload 5, 2, 5, 0, 0, 0, 0)), (107, (.iconst 4, 1, 0, 0, 0, 4, 0)), (108, (.if_icmp .ne (18), 3, 0, 126, 0, 0, 0)), (111, (.aload_n 0, 1, 0, 0, 0, 0, 0)), (112, (.sipush (1029), 3, 0, 0, 0, 1029, 0)), (115, (.invokevirtual 371, 3, 250, 2, 1, 0, 0)), (118, (.ifCond .ne (8), 3, 0, 126, 0, 0, 0)), (121, (.iload 4, 2, 4, 0, 0, 0, 0)), (123, (.goto (4), 3, 0, 127, 0, 0, 0)), (126, (.iload_n 3, 1, 3, 0, 0, 0, 0)), (127, (.istore_n 3, 1, 3, 0, 0, 0, 0)), (128, (.iinc 4 (1), 3, 4, 0, 0, 1, 0)), (131, (.goto (-100), 3, 0, 31, 0, 0, 0)), (134, (.iload_n 1, 1, 1, 0, 0, 0, 0)), (135, (.ifCond .ne (7), 3, 0, 142, 0, 0, 0)), (138, (.iload_n 2, 1, 2, 0, 0, 0, 0)), (139, (.goto (23), 3, 0, 162, 0, 0, 0)), (142, (.iload_n 1, 1, 1, 0, 0, 0, 0)), (143, (.iconst 1, 1, 0, 0, 0, 1, 0)), (144, (.if_icmp .ne (7), 3, 0, 151, 0, 0, 0)), (147, (.iload_n 3, 1, 3, 0, 0, 0, 0)), (148, (.goto (14), 3, 0, 162, 0, 0, 0)), (151, (.aload_n 0, 1, 0, 0, 0, 0, 0)), (152, (.aload_n 0, 1, 0, 0, 0, 0, 0)), (153, (.sipush (1029), 3, 0, 0, 0, 1029, 0)), (156, (.invokevirtual 371, 3, 250, 2, 1, 0, 0)), (159, (.invokevirtual 374, 3, 252, 2, 1, 0, 0)), (162, (.ireturn, 1, 0, 0, 0, 0, 0))]
def cd_273 : List (Nat × Ent) := [(0, (.iload_n 1, 1, 1, 0, 0, 0, 0)), (1, (.iconst 4, 1, 0, 0, 0, 4, 0)), (2, (.if_icmp .ne (14), 3, 0, 16, 0, 0, 0)), (5, (.aload_n 0, 1, 0, 0, 0, 0, 0)), (6, (.sipush (1029), 3, 0, 0, 0, 1029, 0)), (9, (.iconst 0, 1, 0, 0, 0, 0, 0)), (10, (.invokevirtual 405, 3, 269, 3, 1, 0, 0)), (13, (.pop, 1, 0, 0, 0, 0, 0)), (14, (.iconst 1, 1, 0, 0, 0, 1, 0)), (15, (.ireturn, 1, 0, 0, 1, 0, 0)), (16, (.iload_n 1, 1, 1, 0, 0, 0, 0)), (17, (.ifCond .ne (15), 3, 0, 32, 0, 0, 0)), (20, (.aload_n 0, 1, 0, 0, 0, 0, 0)), (21, (.sipush (1029), 3, 0, 0, 0, 1029, 0)), (24, (.iload_n 2, 1, 2, 0, 0, 0, 0)), (25, (.iload_n 3, 1, 3, 0, 0, 0, 0)), (26, (.invokevirtual 383, 3, 256, 4, 1, 0, 0)), (29, (.goto (44), 3, 0, 73, 0, 0, 0)), (32, (.iload_n 1, 1, 1, 0, 0, 0, 0)), (33, (.iconst 1, 1, 0, 0, 0, 1, 0)), (34, (.if_icmp .ne (15), 3, 0, 49, 0, 0, 0)), (37, (.aload_n 0, 1, 0, 0, 0, 0, 0)), (38, (.sipush (1029), 3, 0, 0, 0, 1029, 0)), (41, (.iload_n 2, 1, 2, 0, 0, 0, 0)), (42, (.iload_n 3, 1, 3, 0, 0, 0, 0)), (43, (.invokevirtual 393, 3, 262, 4, 1, 0, 0)), (46, (.goto (27), 3, 0, 73, 0, 0, 0)), (49, (.iload_n 1, 1, 1, 0, 0, 0, 0)), (50, (.iconst 2, 1, 0, 0, 0, 2, 0)), (51, (.if_icmp .ne (14), 3, 0, 65, 0, 0, 0)), (54, (.aload_n 0, 1, 0, 0, 0, 0, 0)), (55, (.sipush (1029), 3, 0, 0, 0, 1029, 0)), (58, (.iload_n 2, 1, 2, 0, 0, 0, 0)), (59, (.invokevirtual 399, 3, 265, 3, 1, 0, 0)), (62, (.goto (11), 3, 0, 73, 0, 0, 0)), (65, (.aload_n 0, 1, 0, 0, 0, 0, 0)), (66, (.sipush (1029), 3, 0, 0, 0, 1029, 0)), (69, (.iload_n 2, 1, 2, 0, 0, 0, 0)), (70, (.invokevirtual 340, 3, 238, 3, 1, 0, 0)), (73, (.istore 4, 2, 4, 0, 0, 0, 0)), (75, (.iload 4, 2, 4, 0, 0, 0, 0)), (77, (.ifCond .eq (19), 3, 0, 96, 0, 0, 0)), (80, (.iload_n 1, 1, 1, 0, 0, 0, 0)), (81, (.ifCond .ne (15), 3, 0, 96, 0, 0, 0)), (84, (.aload_n 0, 1, 0, 0, 0, 0, 0)), (85, (.sipush (1029), 3, 0, 0, 0, 1029, 0)), (88, (.iload_n 2, 1, 2, 0, 0, 0, 0)), (89, (.iload_n 3, 1, 3, 0, 0, 0, 0)), (90, (.invokevirtual 389, 3, 260, 4, 0, 0, 0)), (93, (.goto (67), 3, 0, 160, 0, 0, 0)), (96, (.iload 4, 2, 4, 0, 0, 0, 0)), (98, (.ifCond .eq (21), 3, 0, 119, 0, 0, 0)), (101, (.iload_n 1, 1, 1, 0, 0, 0, 0)), (102, (.iconst 1, 1, 0, 0, 0, 1, 0)), (103, (.if_icmp .ne (16), 3, 0, 119, 0, 0, 0)), (106, (.aload_n 0, 1, 0, 0, 0, 0, 0)), (107, (.sipush (1029), 3, 0, 0, 0, 1029, 0)), (110, (.iload_n 2, 1, 2, 0, 0, 0, 0)), (111, (.iload_n 3, 1, 3, 0, 0, 0, 0)), (112, (.invokevirtual 396, 3, 263, 4, 1, 0, 0)), (115, (.pop, 1, 0, 0, 0, 0, 0)), (116, (.goto (44), 3, 0, 160, 0, 0, 0)), (119, (.iload 4, 2, 4, 0, 0, 0, 0)), (121, (.ifCond .eq (25), 3, 0, 146, 0, 0, 0)), (124, (.iload_n 1, 1, 1, 0, 0, 0, 0)), (125, (.iconst 2, 1, 0, 0, 0, 2, 0)), (126, (.if_icmp .ne (20), 3, 0, 146, 0, 0, 0)), (129, (.aload_n 0, 1, 0, 0, 0, 0, 0)), (130, (.getfield 133, 3, 12, 25, 0, 0, 0)), (133, (.sipush (1054), 3, 0, 0, 0, 1054, 0)), (136, (.iload_n 2, 1, 2, 0, 0, 0, 0)), (137, (.iadd, 1, 0, 0, 0, 0, 0)), (138, (.dup2, 1, 0, 0, 0, 0, 0)), (139, (.iaload, 1, 0, 0, 0, 0, 0)), (140, (.iconst 1, 1, 0, 0, 0, 1, 0)), (141, (.iadd, 1, 0, 0, 0, 0, 0)), (142, (.iastore, 1, 0, 0, 0, 0, 0)), (143, (.goto (17), 3, 0, 160, 0, 0, 0)), (146, (.iload 4, 2, 4, 0, 0, 0, 0)), (148, (.ifCond .eq (12), 3, 0, 160, 0, 0, 0)), (151, (.aload_n 0, 1, 0, 0, 0, 0, 0)), (152, (.sipush (1029), 3, 0, 0, 0, 1029, 0)), (155, (.iload_n 2, 1, 2, 0, 0, 0, 0)), (156, (.invokevirtual 402, 3, 267, 3, 1, 0, 0)), (159, (.pop, 1, 0, 0, 0, 0, 0)), (160, (.iload 4, 2, 4, 0, 0, 0, 0)), (162, (.ireturn, 1, 0, 0, 1, 0, 0))]
def cd_274 : List (Nat × Ent) := [(0, (.aload_n 0, 1, 0, 0, 0, 0, 0)), (1, (.iconst 0, 1, 0, 0, 0, 0, 0)), (2, (.putfield 1, 3, 12, 0, 0, 0, 0)), (5, (.aload_n 0, 1, 0, 0, 0, 0, 0)), (6, (.iconst 0, 1, 0, 0, 0, 0, 0)), (7, (.iload_n 1, 1, 1, 0, 0, 0, 0)), (8, (.invokevirtual 340, 3, 238, 3, 1, 0, 0)), (11, (.ifCond .ne (5), 3, 0, 16, 0, 0, 0)), (14, (.iconst (-1), 1, 0, 0, 0, (-1), 0)), (15, (.ireturn, 1, 0, 0, 0, 0, 0)), (16, (.aload_n 0, 1, 0, 0, 0, 0, 0)), (17, (.iconst 0, 1, 0, 0, 0, 0, 0)), (18, (.sipush (1029), 3, 0, 0, 0, 1029, 0)), (21, (.invokevirtual 328, 3, 259, 3, 0, 0, 0)), (24, (.iconst 1, 1, 0, 0, 0, 1, 0)), (25, (.istore_n 2, 1, 2, 0, 0, 0, 0)), (26, (.iload_n 2, 1, 2, 0, 0, 0, 0)), (27, (.bipush (40), 2, 0, 0, 0, 40, 0)), (29, (.if_icmp .gt (31), 3, 0, 60, 0, 0, 0)), (32, (.aload_n 0, 1, 0, 0, 0, 0, 0)), (33, (.sipush (1029), 3, 0, 0, 0, 1029, 0)), (36, (.iconst 0, 1, 0, 0, 0, 0, 0)), (37, (.invokevirtual 405, 3, 269, 3, 1, 0, 0)), (40, (.pop, 1, 0, 0, 0, 0, 0)), (41, (.aload_n 0, 1, 0, 0, 0, 0, 0)), (42, (.sipush (1029), 3, 0, 0, 0, 1029, 0)), (45, (.iload_n 1, 1, 1, 0, 0, 0, 0)), (46, (.invokevirtual 340, 3, 238, 3, 1, 0, 0)), (49, (.ifCond .ne (5), 3, 0, 54, 0, 0, 0)), (52, (.iload_n 2, 1, 2, 0, 0, 0, 0)), (53, (.ireturn, 1, 0, 0, 0, 0, 0)), (54, (.iinc 2 (1), 3, 2, 0, 0, 1, 0)), (57, (.goto (-31), 3, 0, 26, 0, 0, 0)), (60, (.iconst (-1), 1, 0, 0, 0, (-1), 0)), (61, (.ireturn, 1, 0, 0, 0, 0, 0))]
def cd_275 : List (Nat × Ent) := [(0, (.aload_n 0, 1, 0, 0, 0, 0, 0)), (1, (.iconst 0, 1, 0, 0, 0, 0, 0)), (2, (.putfield 1, 3, 12, 0, 0, 0, 0)), (5, (.aload_n 0, 1, 0, 0, 0, 0, 0)), (6, (.aload_n 0, 1, 0, 0, 0, 0, 0)), (7, (.iconst 0, 1, 0, 0, 0, 0, 0)), (8, (.invokevirtual 371, 3, 250, 2, 1, 0, 0)), (11, (.invokevirtual 411, 3, 276, 2, 1, 0, 0)), (14, (.ireturn, 1, 0, 0, 0, 0, 0))]
def cd_276 : List (Nat × Ent) := [(0, (.iconst 0, 1, 0, 0, 0, 0, 0)), (1, (.istore_n 2, 1, 2, 0, 0, 0, 0)), (2, (.iconst 0, 1, 0, 0, 0, 0, 0)), (3, (.istore_n 3, 1, 3, 0, 0, 0, 0)), (4, (.iload_n 3, 1, 3, 0, 0, 0, 0)), (5, (.aload_n 0, 1, 0, 0, 0, 0, 0)), (6, (.invokevirtual 315, 3, 197, 1, 1, 0, 0)), (9, (.if_icmp .ge (70), 3, 0, 79, 0, 0, 0)), (12, (.iconst 0, 1, 0, 0, 0, 0, 0)), (13, (.istore 4, 2, 4, 0, 0, 0, 0)), (15, (.iload 4, 2, 4, 0, 0, 0, 0)), (17, (.iload_n 3, 1, 3, 0, 0, 0, 0)), (18, (.if_icmp .ge (55), 3, 0, 73, 0, 0, 0)), (21, (.iload_n 2, 1, 2, 0, 0, 0, 0)), (22, (.aload_n 0, 1, 0, 0, 0, 0, 0)), (23, (.getfield 103, 3, 12, 10, 0, 0, 0)), (26, (.bipush (56), 2, 0, 0, 0, 56, 0)), (28, (.bipush (6), 2, 0, 0, 0, 6, 0)), (30, (.iload_n 3, 1, 3, 0, 0, 0, 0)), (31, (.imul, 1, 0, 0, 0, 0, 0)), (32, (.iadd, 1, 0, 0, 0, 0, 0)), (33, (.iload 4, 2, 4, 0, 0, 0, 0)), (35, (.iadd, 1, 0, 0, 0, 0, 0)), (36, (.iaload, 1, 0, 0, 0, 0, 0)), (37, (.iconst 1, 1, 0, 0, 0, 1, 0)), (38, (.if_icmp .ne (26), 3, 0, 64, 0, 0, 0)), (41, (.iload_n 1, 1, 1, 0, 0, 0, 0)), (42, (.iload_n 3, 1, 3, 0, 0, 0, 0)), (43, (.ishr, 1, 0, 0, 0, 0, 0)), (44, (.iconst 1, 1, 0, 0, 0, 1, 0)), (45, (.iand, 1, 0, 0, 0, 0, 0)), (46, (.iconst 1, 1, 0, 0, 0, 1, 0)), (47, (.if_icmp .ne (17), 3, 0, 64, 0, 0, 0)), (50, (.iload_n 1, 1, 1, 0, 0, 0, 0)), (51, (.iload 4, 2, 4, 0, 0, 0, 0)), (53, (.ishr, 1, 0, 0, 0, 0, 0)), (54, (.iconst 1, 1, 0, 0, 0, 1, 0)), (55, (.iand, 1, 0, 0, 0, 0, 0)), (56, (.iconst 1, 1, 0, 0, 0, 1, 0)), (57, (.if_icmp .ne (7), 3, 0, 64, 0, 0, 0)), (60, (.iconst 1, 1, 0, 0, 0, 1, 0)), (61, (.goto (4), 3, 0, 65, 0, 0, 0)), (64, (.iconst 0, 1, 0, 0, 0, 0, 0)), (65, (.iadd, 1, 0, 0, 0, 0, 0)), (66, (.istore_n 2, 1, 2, 0, 0, 0, 0)), (67, (.iinc 4 (1), 3, 4, 0, 0, 1, 0)), (70, (.goto (-55), 3, 0, 15, 0, 0, 0)), (73, (.iinc 3 (1), 3, 3, 0, 0, 1, 0)), (76, (.goto (-72), 3, 0, 4, 0, 0, 0)), (79, (.iload_n 2, 1, 2, 0, 0, 0, 0)), (80, (.ireturn, 1, 0, 0, 0, 0, 0))]
def cd_277 : List (Nat × Ent) := [(0, (.aload_n 0, 1, 0, 0, 0, 0, 0)), (1, (.iconst 0, 1, 0, 0, 0, 0, 0)), (2, (.putfield 1, 3, 12, 0, 0, 0, 0)), (5, (.iload_n 1, 1, 1, 0, 0, 0, 0)), (6, (.iconst 0, 1, 0, 0, 0, 0, 0)), (7, (.iconst 1, 1, 0, 0, 0, 1, 0)), (8, (.invokestatic 233, 3, 222, 3, 1, 0, 0)), (11, (.ifCond .ne (5), 3, 0, 16, 0, 0, 0)), (14, (.iconst (-1), 1, 0, 0, 0, (-1), 0)), (15, (.ireturn, 1, 0, 0, 0, 0, 0)), (16, (.aload_n 0, 1, 0, 0, 0, 0, 0)), (17, (.iconst 0, 1, 0, 0, 0, 0, 0)), (18, (.invokevirtual 371, 3, 250, 2, 1, 0, 0)), (21, (.istore_n 2, 1, 2, 0, 0, 0, 0)), (22, (.iconst (-1), 1, 0, 0, 0, (-1), 0)), (23, (.istore_n 3, 1, 3, 0, 0, 0, 0)), (24, (.iconst 0, 1, 0, 0, 0, 0, 0)), (25, (.istore 4, 2, 4, 0, 0, 0, 0)), (27, (.iload 4, 2, 4, 0, 0, 0, 0)), (29, (.iconst 1, 1, 0, 0, 0, 1, 0)), (30, (.aload_n 0, 1, 0, 0, 0, 0, 0)), (31, (.invokevirtual 315, 3, 197, 1, 1, 0, 0)), (34, (.ishl, 1, 0, 0, 0, 0, 0)), (35, (.if_icmp .ge (68), 3, 0, 103, 0, 0, 0)), (38, (.iload 4, 2, 4, 0, 0, 0, 0)), (40, (.iload_n 2, 1, 2, 0, 0, 0, 0)), (41, (.iconst (-1), 1, 0, 0, 0, (-1), 0)), (42, (.ixor, 1, 0, 0, 0, 0, 0)), (43, (.iand, 1, 0, 0, 0, 0, 0)), (44, (.ifCond .ne (20), 3, 0, 64, 0, 0, 0)), (47, (.aload_n 0, 1, 0, 0, 0, 0, 0)), (48, (.iload_n 2, 1, 2, 0, 0, 0, 0)), (49, (.iload 4, 2, 4, 0, 0, 0, 0)), (51, (.iconst (-1), 1, 0, 0, 0, (-1), 0)), (52, (.ixor, 1, 0, 0, 0, 0, 0)), (53, (.iand, 1, 0, 0, 0, 0, 0)), (54, (.invokevirtual 411, 3, 276, 2, 1, 0, 0)), (57, (.ifCond .ne (7), 3, 0, 64, 0, 0, 0)), (60, (.iconst 1, 1, 0, 0, 0, 1, 0)), (61, (.goto (4), 3, 0, 65, 0, 0, 0)), (64, (.iconst 0, 1, 0, 0, 0, 0, 0)), (65, (.istore 5, 2, 5, 0, 0, 0, 0)), (67, (.iload 5, 2, 5, 0, 0, 0, 0)), (69, (.ifCond .eq (26), 3, 0, 95, 0, 0, 0)), (72, (.iload_n 3, 1, 3, 0, 0, 0, 0)), (73, (.ifCond .lt (17), 3, 0, 90, 0, 0, 0)), (76, (.aload_n 0, 1, 0, 0, 0, 0, 0)), (77, (.iload 4, 2, 4, 0, 0, 0, 0)), (79, (.invokevirtual 374, 3, 252, 2, 1, 0, 0)), (82, (.aload_n 0, 1, 0, 0, 0, 0, 0)), (83, (.iload_n 3, 1, 3, 0, 0, 0, 0)), (84, (.invokevirtual 374, 3, 252, 2, 1, 0, 0)), (87, (.if_icmp .ge (8), 3, 0, 95, 0, 0, 0)), (90, (.iload 4, 2, 4, 0, 0, 0, 0)), (92, (.goto (4), 3, 0, 96, 0, 0, 0)), (95, (.iload_n 3, 1, 3, 0, 0, 0, 0)), (96, (.istore_n 3, 1, 3, 0, 0, 0, 0)), (97, (.iinc 4 (1), 3, 4, 0, 0, 1, 0)), (100, (.goto (-73), 3, 0, 27, 0, 0, 0)), (103, (.iload_n 1, 1, 1, 0, 0, 0, 0)), (104, (.ifCond .ne (11), 3, 0, 115, 0, 0, 0)), (107, (.aload_n 0, 1, 0, 0, 0, 0, 0)), (108, (.iload_n 3, 1, 3, 0, 0, 0, 0)), (109, (.invokevirtual 374, 3, 252, 2, 1, 0, 0)), (112, (.goto (4), 3, 0, 116, 0, 0, 0)), (115, (.iload_n 3, 1, 3, 0, 0, 0, 0)), (116, (.ireturn, 1, 0, 0, 0, 0, 0))]
def cd_278 : List (Nat × Ent) := [(0, (.aload_n 0, 1, 0, 0, 0, 0, 0)), (1, (.iconst 0, 1, 0, 0, 0, 0, 0)), (2, (.putfield 1, 3, 12, 0, 0, 0, 0)), (5, (.iload_n 1, 1, 1, 0, 0, 0, 0)), (6, (.iconst 1, 1, 0, 0, 0, 1, 0)), (7, (.bipush (6), 2, 0, 0, 0, 6, 0)), (9, (.invokestatic 233, 3, 222, 3, 1, 0, 0)), (12, (.ifCond .eq (15), 3, 0, 27, 0, 0, 0)), (15, (.iload_n 2, 1, 2, 0, 0, 0, 0)), (16, (.iconst 0, 1, 0, 0, 0, 0, 0)), (17, (.aload_n 0, 1, 0, 0, 0, 0, 0)), (18, (.invokevirtual 334, 3, 248, 1, 1, 0, 0)), (21, (.invokestatic 233, 3, 222, 3, 1, 0, 0)), (24, (.ifCond .ne (6), 3, 0, 30, 0, 0, 0)), (27, (.bipush (-2), 2, 0, 0, 0, (-2), 0)), (29, (.ireturn, 1, 0, 0, 0, 0, 0)), (30, (.aload_n 0, 1, 0, 0, 0, 0, 0)), (31, (.invokevirtual 426, 3, 279, 1, 0, 0, 0)), (34, (.aload_n 0, 1, 0, 0, 0, 0, 0)), (35, (.iconst (-1), 1, 0, 0, 0, (-1), 0)), (36, (.putfield 417, 3, 12, 32, 0, 0, 0)), (39, (.aload_n 0, 1, 0, 0, 0, 0, 0)), (40, (.iconst 0, 1, 0, 0, 0, 0, 0)), (41, (.iload_n 1, 1, 1, 0, 0, 0, 0)), (42, (.invokevirtual 423, 3, 280, 3, 0, 0, 0)), (45, (.iload_n 2, 1, 2, 0, 0, 0, 0)), (46, (.ifCond .ne (8), 3, 0, 54, 0, 0, 0)), (49, (.aload_n 0, 1, 0, 0, 0, 0, 0)), (50, (.getfield 417, 3, 12, 32, 0, 0, 0)), (53, (.ireturn, 1, 0, 0, 0, 0, 0)), (54, (.iconst (-1), 1, 0, 0, 0, (-1), 0)), (55, (.istore_n 3, 1, 3, 0, 0, 0, 0)), (56, (.iconst 0, 1, 0, 0, 0, 0, 0)), (57, (.istore 4, 2, 4, 0, 0, 0, 0)), (59, (.iload 4, 2, 4, 0, 0, 0, 0)), (61, (.aload_n 0, 1, 0, 0, 0, 0, 0)), (62, (.getfield 414, 3, 12, 31, 0, 0, 0)), (65, (.if_icmp .ge (34), 3, 0, 99, 0, 0, 0)), (68, (.aload_n 0, 1, 0, 0, 0, 0, 0)), (69, (.getfield 140, 3, 12, 28, 0, 0, 0)), (72, (.iload 4, 2, 4, 0, 0, 0, 0)), (74, (.iaload, 1, 0, 0, 0, 0, 0)), (75, (.iload_n 2, 1, 2, 0, 0, 0, 0)), (76, (.iconst 1, 1, 0, 0, 0, 1, 0)), (77, (.isub, 1, 0, 0, 0, 0, 0)), (78, (.if_icmp .ne (13), 3, 0, 91, 0, 0, 0)), (81, (.aload_n 0, 1, 0, 0, 0, 0, 0)), (82, (.getfield 146, 3, 12, 30, 0, 0, 0)), (85, (.iload 4, 2, 4, 0, 0, 0, 0)), (87, (.iaload, 1, 0, 0, 0, 0, 0)), (88, (.goto (4), 3, 0, 92, 0, 0, 0)), (91, (.iload_n 3, 1, 3, 0, 0, 0, 0)), (92, (.istore_n 3, 1, 3, 0, 0, 0, 0)), (93, (.iinc 4 (1), 3, 4, 0, 0, 1, 0)), (96, (.goto (-37), 3, 0, 59, 0, 0, 0)), (99, (.iload_n 3, 1, 3, 0, 0, 0, 0)), (100, (.ireturn, 1, 0, 0, 0, 0, 0))]
def cd_279 : List (Nat × Ent) := [(0, (.aload_n 0, 1, 0, 0, 0, 0, 0)), (1, (.iconst 0, 1, 0, 0, 0, 0, 0)), (2, (.putfield 414, 3, 12, 31, 0, 0, 0)), (5, (.iconst 0, 1, 0, 0, 0, 0, 0)), (6, (.istore_n 1, 1, 1, 0, 0, 0, 0)), (7, (.iload_n 1, 1, 1, 0, 0, 0, 0)), (8, (.aload_n 0, 1, 0, 0, 0, 0, 0)), (9, (.invokevirtual 334, 3, 248, 1, 1, 0, 0)), (12, (.if_icmp .ge (49), 3, 0, 61, 0, 0, 0)), (15, (.aload_n 0, 1, 0, 0, 0, 0, 0)), (16, (.getfield 133, 3, 12, 25, 0, 0, 0)), (19, (.bipush (37), 2, 0, 0, 0, 37, 0)), (21, (.iload_n 1, 1, 1, 0, 0, 0, 0)), (22, (.iadd, 1, 0, 0, 0, 0, 0)), (23, (.iaload, 1, 0, 0, 0, 0, 0)), (24, (.ifCond .ne (31), 3, 0, 55, 0, 0, 0)), (27, (.aload_n 0, 1, 0, 0, 0, 0, 0)), (28, (.getfield 414, 3, 12, 31, 0, 0, 0)), (31, (.iconst 4, 1, 0, 0, 0, 4, 0)), (32, (.if_icmp .ge (23), 3, 0, 55, 0, 0, 0)), (35, (.aload_n 0, 1, 0, 0, 0, 0, 0)), (36, (.getfield 140, 3, 12, 28, 0, 0, 0)), (39, (.aload_n 0, 1, 0, 0, 0, 0, 0)), (40, (.getfield 414, 3, 12, 31, 0, 0, 0)), (43, (.iload_n 1, 1, 1, 0, 0, 0, 0)), (44, (.iastore, 1, 0, 0, 0, 0, 0)), (45, (.aload_n 0, 1, 0, 0, 0, 0, 0)), (46, (.dup, 1, 0, 0, 0, 0, 0)), (47, (.getfield 414, 3, 12, 31, 0, 0, 0)), (50, (.iconst 1, 1, 0, 0, 0, 1, 0)), (51, (.iadd, 1, 0, 0, 0, 0, 0)), (52, (.putfield 414, 3, 12, 31, 0, 0, 0)), (55, (.iinc 1 (1), 3, 1, 0, 0, 1, 0)), (58, (.goto (-51), 3, 0, 7, 0, 0, 0)), (61, (.return_, 1, 0, 0, 0, 0, 0))]
def cd_280 : List (Nat × Ent) := [(0, (.iload_n 1, 1, 1, 0, 0, 0, 0)), (1, (.aload_n 0, 1, 0, 0, 0, 0, 0)), (2, (.getfield 414, 3, 12, 31, 0, 0, 0)), (5, (.if_icmp .ne (9), 3, 0, 14, 0, 0, 0)), (8, (.aload_n 0, 1, 0, 0, 0, 0, 0)), (9, (.iload_n 2, 1, 2, 0, 0, 0, 0)), (10, (.invokevirtual 420, 3, 281, 2, 0, 0, 0)), (13, (.return_, 1, 0, 0, 0, 0, 0)), (14, (.iconst 0, 1, 0, 0, 0, 0, 0)), (15, (.istore_n 3, 1, 3, 0, 0, 0, 0)), (16, (.iload_n 3, 1, 3, 0, 0, 0, 0)), (17, (.aload_n 0, 1, 0, 0, 0, 0, 0)), (18, (.invokevirtual 315, 3, 197, 1, 1, 0, 0)), (21, (.if_icmp .ge (33), 3, 0, 54, 0, 0, 0)), (24, (.aload_n 0, 1, 0, 0, 0, 0, 0)), (25, (.iconst 0, 1, 0, 0, 0, 0, 0)), (26, (.iload_n 3, 1, 3, 0, 0, 0, 0)), (27, (.invokevirtual 340, 3, 238, 3, 1, 0, 0)), (30, (.ifCond .eq (18), 3, 0, 48, 0, 0, 0)), (33, (.aload_n 0, 1, 0, 0, 0, 0, 0)), (34, (.getfield 143, 3, 12, 29, 0, 0, 0)), (37, (.iload_n 1, 1, 1, 0, 0, 0, 0)), (38, (.iload_n 3, 1, 3, 0, 0, 0, 0)), (39, (.iastore, 1, 0, 0, 0, 0, 0)), (40, (.aload_n 0, 1, 0, 0, 0, 0, 0)), (41, (.iload_n 1, 1, 1, 0, 0, 0, 0)), (42, (.iconst 1, 1, 0, 0, 0, 1, 0)), (43, (.iadd, 1, 0, 0, 0, 0, 0)), (44, (.iload_n 2, 1, 2, 0, 0, 0, 0)), (45, (.invokevirtual 423, 3, 280, 3, 0, 0, 0)), (48, (.iinc 3 (1), 3, 3, 0, 0, 1, 0)), (51, (.goto (-35), 3, 0, 16, 0, 0, 0)), (54, (.aload_n 0, 1, 0, 0, 0, 0, 0)), (55, (.getfield 143, 3, 12, 29, 0, 0, 0)), (58, (.iload_n 1, 1, 1, 0, 0, 0, 0)), (59, (.iconst (-1), 1, 0, 0, 0, (-1), 0)), (60, (.iastore, 1, 0, 0, 0, 0, 0)), (61, (.aload_n 0, 1, 0, 0, 0, 0, 0)), (62, (.iload_n 1, 1, 1, 0, 0, 0, 0)), (63, (.iconst 1, 1, 0, 0, 0, 1, 0)), (64, (.iadd, 1, 0, 0, 0, 0, 0)), (65, (.iload_n 2, 1, 2, 0, 0, 0, 0)), (66, (.invokevirtual 423, 3, 280, 3, 0, 0, 0)), (69, (.return_, 1, 0, 0, 0, 0, 0))]
def cd_281 : List (Nat × Ent) := [(0, (.aload_n 0, 1, 0, 0, 0, 0, 0)), (1, (.iconst 0, 1, 0, 0, 0, 0, 0)), (2, (.sipush (1029), 3, 0, 0, 0, 1029, 0)), (5, (.invokevirtual 328, 3, 259, 3, 0, 0, 0)), (8, (.iconst 0, 1, 0, 0, 0, 0, 0)), (9, (.istore_n 2, 1, 2, 0, 0, 0, 0)), (10, (.iload_n 2, 1, 2, 0, 0, 0, 0)), (11, (.iload_n 1, 1, 1, 0, 0, 0, 0)), (12, (.if_icmp .ge (85), 3, 0, 97, 0, 0, 0)), (15, (.iconst 0, 1, 0, 0, 0, 0, 0)), (16, (.istore_n 3, 1, 3, 0, 0, 0, 0)), (17, (.iload_n 3, 1, 3, 0, 0, 0, 0)), (18, (.aload_n 0, 1, 0, 0, 0, 0, 0)), (19, (.getfield 414, 3, 12, 31, 0, 0, 0)), (22, (.if_icmp .ge (60), 3, 0, 82, 0, 0, 0)), (25, (.aload_n 0, 1, 0, 0, 0, 0, 0)), (26, (.getfield 143, 3, 12, 29, 0, 0, 0)), (29, (.iload_n 3, 1, 3, 0, 0, 0, 0)), (30, (.iaload, 1, 0, 0, 0, 0, 0)), (31, (.ifCond .lt (45), 3, 0, 76, 0, 0, 0)), (34, (.aload_n 0, 1, 0, 0, 0, 0, 0)), (35, (.sipush (1029), 3, 0, 0, 0, 1029, 0)), (38, (.aload_n 0, 1, 0, 0, 0, 0, 0)), (39, (.getfield 140, 3, 12, 28, 0, 0, 0)), (42, (.iload_n 3, 1, 3, 0, 0, 0, 0)), (43, (.iaload, 1, 0, 0, 0, 0, 0)), (44, (.aload_n 0, 1, 0, 0, 0, 0, 0)), (45, (.getfield 143, 3, 12, 29, 0, 0, 0)), (48, (.iload_n 3, 1, 3, 0, 0, 0, 0)), (49, (.iaload, 1, 0, 0, 0, 0, 0)), (50, (.invokevirtual 393, 3, 262, 4, 1, 0, 0)), (53, (.ifCond .eq (23), 3, 0, 76, 0, 0, 0)), (56, (.aload_n 0, 1, 0, 0, 0, 0, 0)), (57, (.sipush (1029), 3, 0, 0, 0, 1029, 0)), (60, (.aload_n 0, 1, 0, 0, 0, 0, 0)), (61, (.getfield 140, 3, 12, 28, 0, 0, 0)), (64, (.iload_n 3, 1, 3, 0, 0, 0, 0)), (65, (.iaload, 1, 0, 0, 0, 0, 0)), (66, (.aload_n 0, 1, 0, 0, 0, 0, 0)), (67, (.getfield 143, 3, 12, 29, 0, 0, 0)), (70, (.iload_n 3, 1, 3, 0, 0, 0, 0)), (71, (.iaload, 1, 0, 0, 0, 0, 0)), (72, (.invokevirtual 396, 3, 263, 4, 1, 0, 0)), (75, (.pop, 1, 0, 0, 0, 0, 0)), (76, (.iinc 3 (1), 3, 3, 0, 0, 1, 0)), (79, (.goto (-62), 3, 0, 17, 0, 0, 0)), (82, (.aload_n 0, 1, 0, 0, 0, 0, 0)), (83, (.sipush (1029), 3, 0, 0, 0, 1029, 0)), (86, (.iconst 0, 1, 0, 0, 0, 0, 0)), (87, (.invokevirtual 405, 3, 269, 3, 1, 0, 0)), (90, (.pop, 1, 0, 0, 0, 0, 0)), (91, (.iinc 2 (1), 3, 2, 0, 0, 1, 0)), (94, (.goto (-84), 3, 0, 10, 0, 0, 0)), (97, (.aload_n 0, 1, 0, 0, 0, 0, 0)), (98, (.aload_n 0, 1, 0, 0, 0, 0, 0)), (99, (.sipush (1029), 3, 0, 0, 0, 1029, 0)), (102, (.invokevirtual 371, 3, 250, 2, 1, 0, 0)), (105, (.invokevirtual 374, 3, 252, 2, 1, 0, 0)), (108, (.istore_n 2, 1, 2, 0, 0, 0, 0)), (109, (.iload_n 2, 1, 2, 0, 0, 0, 0)), (110, (.aload_n 0, 1, 0, 0, 0, 0, 0)), (111, (.getfield 417, 3, 12, 32, 0, 0, 0)), (114, (.if_icmp .le (36), 3, 0, 150, 0, 0, 0)), (117, (.aload_n 0, 1, 0, 0, 0, 0, 0)), (118, (.iload_n 2, 1, 2, 0, 0, 0, 0)), (119, (.putfield 417, 3, 12, 32, 0, 0, 0)), (122, (.iconst 0, 1, 0, 0, 0, 0, 0)), (123, (.istore_n 3, 1, 3, 0, 0, 0, 0)), (124, (.iload_n 3, 1, 3, 0, 0, 0, 0)), (125, (.aload_n 0, 1, 0, 0, 0, 0, 0)), (126, (.getfield 414, 3, 12, 31, 0, 0, 0)), (129, (.if_icmp .ge (21), 3, 0, 150, 0, 0, 0)), (132, (.aload_n 0, 1, 0, 0, 0, 0, 0)), (133, (.getfield 146, 3, 12, 30, 0, 0, 0)), (136, (.iload_n 3, 1, 3, 0, 0, 0, 0)), (137, (.aload_n 0, 1, 0, 0, 0, 0, 0)), (138, (.getfield 143, 3, 12, 29, 0, 0, 0)), (141, (.iload_n 3, 1, 3, 0, 0, 0, 0)), (142, (.iaload, 1, 0, 0, 0, 0, 0)), (143, (.iastore, 1, 0, 0, 0, 0, 0)), (144, (.iinc 3 (1), 3, 3, 0, 0, 1, 0)), (147, (.goto (-23), 3, 0, 124, 0, 0, 0)), (150, (.return_, 1, 0, 0, 0, 0, 0))]
def cd_282 : List (Nat × Ent) := [(0, (.aload_n 0, 1, 0, 0, 0, 0, 0)), (1, (.iconst 0, 1, 0, 0, 0, 0, 0)), (2, (.putfield 1, 3, 12, 0, 0, 0, 0)), (5, (.iload_n 1, 1, 1, 0, 0, 0, 0)), (6, (.iconst (-1), 1, 0, 0, 0, (-1), 0)), (7, (.if_icmp .eq (14), 3, 0, 21, 0, 0, 0)), (10, (.aload_n 0, 1, 0, 0, 0, 0, 0)), (11, (.iload_n 1, 1, 1, 0, 0, 0, 0)), (12, (.invokevirtual 337, 3, 237, 2, 1, 0, 0)), (15, (.ifCond .ne (6), 3, 0, 21, 0, 0, 0)), (18, (.bipush (-2), 2, 0, 0, 0, (-2), 0)), (20, (.ireturn, 1, 0, 0, 0, 0, 0)), (21, (.iconst 0, 1, 0, 0, 0, 0, 0)), (22, (.istore_n 2, 1, 2, 0, 0, 0, 0)), (23, (.iconst 0, 1, 0, 0, 0, 0, 0)), (24, (.istore_n 3, 1, 3, 0, 0, 0, 0)), (25, (.iconst 0, 1, 0, 0, 0, 0, 0)), (26, (.istore 4, 2, 4, 0, 0, 0, 0)), (28, (.iload 4, 2, 4, 0, 0, 0, 0)), (30, (.aload_n 0, 1, 0, 0, 0, 0, 0)), (31, (.invokevirtual 331, 3, 255, 1, 1, 0, 0)), (34, (.if_icmp .ge (27), 3, 0, 61, 0, 0, 0)), (37, (.iload_n 2, 1, 2, 0, 0, 0, 0)), (38, (.aload_n 0, 1, 0, 0, 0, 0, 0)), (39, (.iconst 0, 1, 0, 0, 0, 0, 0)), (40, (.iload 4, 2, 4, 0, 0, 0, 0)), (42, (.invokevirtual 377, 3, 257, 3, 1, 0, 0)), (45, (.ifCond .eq (7), 3, 0, 52, 0, 0, 0)), (48, (.iconst 1, 1, 0, 0, 0, 1, 0)), (49, (.goto (4), 3, 0, 53, 0, 0, 0)), (52, (.iconst 0, 1, 0, 0, 0, 0, 0)), (53, (.iadd, 1, 0, 0, 0, 0, 0)), (54, (.istore_n 2, 1, 2, 0, 0, 0, 0)), (55, (.iinc 4 (1), 3, 4, 0, 0, 1, 0)), (58, (.goto (-30), 3, 0, 28, 0, 0, 0)), (61, (.iconst 0, 1, 0, 0, 0, 0, 0)), (62, (.istore 4, 2, 4, 0, 0, 0, 0)), (64, (.iload 4, 2, 4, 0, 0, 0, 0)), (66, (.aload_n 0, 1, 0, 0, 0, 0, 0)), (67, (.invokevirtual 315, 3, 197, 1, 1, 0, 0)), (70, (.if_icmp .ge (75), 3, 0, 145, 0, 0, 0)), (73, (.iload_n 3, 1, 3, 0, 0, 0, 0)), (74, (.aload_n 0, 1, 0, 0, 0, 0, 0)), (75, (.getfield 133, 3, 12, 25, 0, 0, 0)), (78, (.iconst 1, 1, 0, 0, 0, 1, 0)), (79, (.iload 4, 2, 4, 0, 0, 0, 0)), (81, (.iadd, 1, 0, 0, 0, 0, 0)), (82, (.iaload, 1, 0, 0, 0, 0, 0)), (83, (.ifCond .ne (7), 3, 0, 90, 0, 0, 0)), (86, (.iconst 1, 1, 0, 0, 0, 1, 0)), (87, (.goto (4), 3, 0, 91, 0, 0, 0)), (90, (.iconst 0, 1, 0, 0, 0, 0, 0)), (91, (.iadd, 1, 0, 0, 0, 0, 0)), (92, (.istore_n 3, 1, 3, 0, 0, 0, 0)), (93, (.iconst 0, 1, 0, 0, 0, 0, 0)), (94, (.istore 5, 2, 5, 0, 0, 0, 0)), (96, (.iload 5, 2, 5, 0, 0, 0, 0)), (98, (.aload_n 0, 1, 0, 0, 0, 0, 0)), (99, (.invokevirtual 331, 3, 255, 1, 1, 0, 0)), (102, (.if_icmp .ge (37), 3, 0, 139, 0, 0, 0)), (105, (.aload_n 0, 1, 0, 0, 0, 0, 0)), (106, (.getfield 149, 3, 12, 33, 0, 0, 0)), (109, (.bipush (6), 2, 0, 0, 0, 6, 0)), (111, (.iload 4, 2, 4, 0, 0, 0, 0)), (113, (.imul, 1, 0, 0, 0, 0, 0)), (114, (.iload 5, 2, 5, 0, 0, 0, 0)), (116, (.iadd, 1, 0, 0, 0, 0, 0)), (117, (.aload_n 0, 1, 0, 0, 0, 0, 0)), (118, (.iload 4, 2, 4, 0, 0, 0, 0)), (120, (.iload 5, 2, 5, 0, 0, 0, 0)), (122, (.aload_n 0, 1, 0, 0, 0, 0, 0)), (123, (.iload 4, 2, 4, 0, 0, 0, 0)), (125, (.iconst 1, 1, 0, 0, 0, 1, 0)), (126, (.invokevirtual 319, 3, 198, 3, 1, 0, 0)), (129, (.invokevirtual 439, 3, 283, 4, 1, 0, 0)), (132, (.iastore, 1, 0, 0, 0, 0, 0)), (133, (.iinc 5 (1), 3, 5, 0, 0, 1, 0)), (136, (.goto (-40), 3, 0, 96, 0, 0, 0)), (139, (.iinc 4 (1), 3, 4, 0, 0, 1, 0)), (142, (.goto (-78), 3, 0, 64, 0, 0, 0)), (145, (.aload_n 0, 1, 0, 0, 0, 0, 0)), (146, (.iload_n 2, 1, 2, 0, 0, 0, 0)), (147, (.iload_n 3, 1, 3, 0, 0, 0, 0)), (148, (.if_icmp .ge (7), 3, 0, 155, 0, 0, 0)), (151, (.iload_n 2, 1, 2, 0, 0, 0, 0)), (152, (.goto (4), 3, 0, 156, 0, 0, 0)), (155, (.iload_n 3, 1, 3, 0, 0, 0, 0)), (156, (.putfield 429, 3, 12, 37, 0, 0, 0)), (159, (.aload_n 0, 1, 0, 0, 0, 0, 0)), (160, (.iconst (-1), 1, 0, 0, 0, (-1), 0)), (161, (.putfield 432, 3, 12, 36, 0, 0, 0)), (164, (.aload_n 0, 1, 0, 0, 0, 0, 0)), (165, (.iconst 0, 1, 0, 0, 0, 0, 0)), (166, (.iconst 0, 1, 0, 0, 0, 0, 0)), (167, (.iconst 0, 1, 0, 0, 0, 0, 0)), (168, (.iconst 0, 1, 0, 0, 0, 0, 0)), (169, (.invokevirtual 435, 3, 284, 5, 0, 0, 0)), (172, (.iload_n 1, 1, 1, 0, 0, 0, 0)), (173, (.ifCond .ge (10), 3, 0, 183, 0, 0, 0)), (176, (.aload_n 0, 1, 0, 0, 0, 0, 0)), (177, (.getfield 432, 3, 12, 36, 0, 0, 0)), (180, (.goto (9), 3, 0, 189, 0, 0, 0)), (183, (.aload_n 0, 1, 0, 0, 0, 0, 0)), (184, (.getfield 155, 3, 12, 35, 0, 0, 0)), (187, (.iload_n 1, 1, 1, 0, 0, 0, 0)), (188, (.iaload, 1, 0, 0, 0, 0, 0)), (189, (.ireturn, 1, 0, 0, 0, 0, 0))]
def cd_283 : List (Nat × Ent) := [(0, (.iload_n 3, 1, 3, 0, 0, 0, 0)), (1, (.istore 4, 2, 4, 0, 0, 0, 0)), (3, (.iconst 1, 1, 0, 0, 0, 1, 0)), (4, (.istore 5, 2, 5, 0, 0, 0, 0)), (6, (.iload 5, 2, 5, 0, 0, 0, 0)), (8, (.bipush (40), 2, 0, 0, 0, 40, 0)), (10, (.if_icmp .gt (42), 3, 0, 52, 0, 0, 0)), (13, (.iload 4, 2, 4, 0, 0, 0, 0)), (15, (.aload_n 0, 1, 0, 0, 0, 0, 0)), (16, (.iload_n 1, 1, 1, 0, 0, 0, 0)), (17, (.iload_n 2, 1, 2, 0, 0, 0, 0)), (18, (.iload 4, 2, 4, 0, 0, 0, 0)), (20, (.aload_n 0, 1, 0, 0, 0, 0, 0)), (21, (.getfield 133, 3, 12, 25, 0, 0, 0)), (24, (.iconst 0, 1, 0, 0, 0, 0, 0)), (25, (.iaload, 1, 0, 0, 0, 0, 0)), (26, (.iload 5, 2, 5, 0, 0, 0, 0)), (28, (.iadd, 1, 0, 0, 0, 0, 0)), (29, (.iconst 1, 1, 0, 0, 0, 1, 0)), (30, (.isub, 1, 0, 0, 0, 0, 0)), (31, (.iconst 0, 1, 0, 0, 0, 0, 0)), (32, (.invokevirtual 357, 3, 242, 6, 1, 0, 0)), (35, (.isub, 1, 0, 0, 0, 0, 0)), (36, (.istore 4, 2, 4, 0, 0, 0, 0)), (38, (.iload 4, 2, 4, 0, 0, 0, 0)), (40, (.ifCond .gt (6), 3, 0, 46, 0, 0, 0)), (43, (.iload 5, 2, 5, 0, 0, 0, 0)), (45, (.ireturn, 1, 0, 0, 0, 0, 0)), (46, (.iinc 5 (1), 3, 5, 0, 0, 1, 0)), (49, (.goto (-43), 3, 0, 6, 0, 0, 0)), (52, (.bipush (41), 2, 0, 0, 0, 41, 0)), (54, (.ireturn, 1, 0, 0, 0, 0, 0))]
def cd_284 : List (Nat × Ent) := [(0, (.iload_n 1, 1, 1, 0, 0, 0, 0)), (1, (.aload_n 0, 1, 0, 0, 0, 0, 0)), (2, (.invokevirtual 315, 3, 197, 1, 1, 0, 0)), (5, (.if_icmp .ne (56), 3, 0, 61, 0, 0, 0)), (8, (.iload_n 3, 1, 3, 0, 0, 0, 0)), (9, (.aload_n 0, 1, 0, 0, 0, 0, 0)), (10, (.getfield 429, 3, 12, 37, 0, 0, 0)), (13, (.if_icmp .ne (47), 3, 0, 60, 0, 0, 0)), (16, (.iload 4, 2, 4, 0, 0, 0, 0)), (18, (.aload_n 0, 1, 0, 0, 0, 0, 0)), (19, (.getfield 432, 3, 12, 36, 0, 0, 0)), (22, (.if_icmp .le (38), 3, 0, 60, 0, 0, 0)), (25, (.aload_n 0, 1, 0, 0, 0, 0, 0)), (26, (.iload 4, 2, 4, 0, 0, 0, 0)), (28, (.putfield 432, 3, 12, 36, 0, 0, 0)), (31, (.iconst 0, 1, 0, 0, 0, 0, 0)), (32, (.istore 5, 2, 5, 0, 0, 0, 0)), (34, (.iload 5, 2, 5, 0, 0, 0, 0)), (36, (.iload_n 1, 1, 1, 0, 0, 0, 0)), (37, (.if_icmp .ge (23), 3, 0, 60, 0, 0, 0)), (40, (.aload_n 0, 1, 0, 0, 0, 0, 0)), (41, (.getfield 155, 3, 12, 35, 0, 0, 0)), (44, (.iload 5, 2, 5, 0, 0, 0, 0)), (46, (.aload_n 0, 1, 0, 0, 0, 0, 0)), (47, (.getfield 152, 3, 12, 34, 0, 0, 0)), (50, (.iload 5, 2, 5, 0, 0, 0, 0)), (52, (.iaload, 1, 0, 0, 0, 0, 0)), (53, (.iastore, 1, 0, 0, 0, 0, 0)), (54, (.iinc 5 (1), 3, 5, 0, 0, 1, 0)), (57, (.goto (-23), 3, 0, 34, 0, 0, 0)), (60, (.return_, 1, 0, 0, 0, 0, 0)), (61, (.aload_n 0, 1, 0, 0, 0, 0, 0)), (62, (.getfield 152, 3, 12, 34, 0, 0, 0)), (65, (.iload_n 1, 1, 1, 0, 0, 0, 0)), (66, (.iconst (-1), 1, 0, 0, 0, (-1), 0)), (67, (.iastore, 1, 0, 0, 0, 0, 0)), (68, (.iconst 0, 1, 0, 0, 0, 0, 0)), (69, (.istore 5, 2, 5, 0, 0, 0, 0)), (71, (.iload 5, 2, 5, 0, 0, 0, 0)), (73, (.aload_n 0, 1, 0, 0, 0, 0, 0)), (74, (.invokevirtual 331, 3, 255, 1, 1, 0, 0)), (77, (.if_icmp .ge (78), 3, 0, 155, 0, 0, 0)), (80, (.aload_n 0, 1, 0, 0, 0, 0, 0)), (81, (.getfield 133, 3, 12, 25, 0, 0, 0)), (84, (.iconst 1, 1, 0, 0, 0, 1, 0)), (85, (.iload_n 1, 1, 1, 0, 0, 0, 0)), (86, (.iadd, 1, 0, 0, 0, 0, 0)), (87, (.iaload, 1, 0, 0, 0, 0, 0)), (88, (.ifCond .ne (67), 3, 0, 155, 0, 0, 0)), (91, (.iload_n 2, 1, 2, 0, 0, 0, 0)), (92, (.iload 5, 2, 5, 0, 0, 0, 0)), (94, (.ishr, 1, 0, 0, 0, 0, 0)), (95, (.iconst 1, 1, 0, 0, 0, 1, 0)), (96, (.iand, 1, 0, 0, 0, 0, 0)), (97, (.ifCond .ne (52), 3, 0, 149, 0, 0, 0)), (100, (.aload_n 0, 1, 0, 0, 0, 0, 0)), (101, (.iconst 0, 1, 0, 0, 0, 0, 0)), (102, (.iload 5, 2, 5, 0, 0, 0, 0)), (104, (.invokevirtual 377, 3, 257, 3, 1, 0, 0)), (107, (.ifCond .eq (42), 3, 0, 149, 0, 0, 0)), (110, (.aload_n 0, 1, 0, 0, 0, 0, 0)), (111, (.getfield 152, 3, 12, 34, 0, 0, 0)), (114, (.iload_n 1, 1, 1, 0, 0, 0, 0)), (115, (.iload 5, 2, 5, 0, 0, 0, 0)), (117, (.iastore, 1, 0, 0, 0, 0, 0)), (118, (.aload_n 0, 1, 0, 0, 0, 0, 0)), (119, (.iload_n 1, 1, 1, 0, 0, 0, 0)), (120, (.iconst 1, 1, 0, 0, 0, 1, 0)), (121, (.iadd, 1, 0, 0, 0, 0, 0)), (122, (.iload_n 2, 1, 2, 0, 0, 0, 0)), (123, (.iconst 1, 1, 0, 0, 0, 1, 0)), (124, (.iload 5, 2, 5, 0, 0, 0, 0)), (126, (.ishl, 1, 0, 0, 0, 0, 0)), (127, (.ior, 1, 0, 0, 0, 0, 0)), (128, (.iload_n 3, 1, 3, 0, 0, 0, 0)), (129, (.iconst 1, 1, 0, 0, 0, 1, 0)), (130, (.iadd, 1, 0, 0, 0, 0, 0)), (131, (.iload 4, 2, 4, 0, 0, 0, 0)), (133, (.aload_n 0, 1, 0, 0, 0, 0, 0)), (134, (.getfield 149, 3, 12, 33, 0, 0, 0)), (137, (.bipush (6), 2, 0, 0, 0, 6, 0)), (139, (.iload_n 1, 1, 1, 0, 0, 0, 0)), (140, (.imul, 1, 0, 0, 0, 0, 0)), (141, (.iload 5, 2, 5, 0, 0, 0, 0)), (143, (.iadd, 1, 0, 0, 0, 0, 0)), (144, (.iaload, 1, 0, 0, 0, 0, 0)), (145, (.iadd, 1, 0, 0, 0, 0, 0)), (146, (.invokevirtual 435, 3, 284, 5, 0, 0, 0)), (149, (.iinc 5 (1), 3, 5, 0, 0, 1, 0)), (152, (.goto (-81), 3, 0, 71, 0, 0, 0)), (155, (.aload_n 0, 1, 0, 0, 0, 0, 0)), (156, (.getfield 152, 3, 12, 34, 0, 0, 0)), (159, (.iload_n 1, 1, 1, 0, 0, 0, 0)), (160, (.iconst (-1), 1, 0, 0, 0, (-1), 0)), (161, (.iastore, 1, 0, 0, 0, 0, 0)), (162, (.aload_n 0, 1, 0, 0, 0, 0, 0)), (163, (.iload_n 1, 1, 1, 0, 0, 0, 0)), (164, (.iconst 1, 1, 0, 0, 0, 1, 0)), (165, (.iadd, 1, 0, 0, 0, 0, 0)), (166, (.iload_n 2, 1, 2, 0, 0, 0, 0)), (167, (.iload_n 3, 1, 3, 0, 0, 0, 0)), (168, (.iload 4, 2, 4, 0, 0, 0, 0)), (170, (.invokevirtual 435, 3, 284, 5, 0, 0, 0)), (173, (.return_, 1, 0, 0, 0, 0, 0))]
def cd_285 : List (Nat × Ent) := [(0, (.aload_n 0, 1, 0, 0, 0, 0, 0)), (1, (.iconst 0, 1, 0, 0, 0, 0, 0)), (2, (.putfield 1, 3, 12, 0, 0, 0, 0)), (5, (.aload_n 0, 1, 0, 0, 0, 0, 0)), (6, (.iload_n 1, 1, 1, 0, 0, 0, 0)), (7, (.invokevirtual 337, 3, 237, 2, 1, 0, 0)), (10, (.ifCond .eq (21), 3, 0, 31, 0, 0, 0)), (13, (.aload_n 0, 1, 0, 0, 0, 0, 0)), (14, (.iload_n 2, 1, 2, 0, 0, 0, 0)), (15, (.invokevirtual 380, 3, 254, 2, 1, 0, 0)), (18, (.ifCond .eq (13), 3, 0, 31, 0, 0, 0)), (21, (.iload_n 3, 1, 3, 0, 0, 0, 0)), (22, (.iconst 1, 1, 0, 0, 0, 1, 0)), (23, (.bipush (30), 2, 0, 0, 0, 30, 0)), (25, (.invokestatic 233, 3, 222, 3, 1, 0, 0)), (28, (.ifCond .ne (5), 3, 0, 33, 0, 0, 0)), (31, (.iconst (-1), 1, 0, 0, 0, (-1), 0)), (32, (.ireturn, 1, 0, 0, 0, 0, 0)), (33, (.iconst 1, 1, 0, 0, 0, 1, 0)), (34, (.istore 4, 2, 4, 0, 0, 0, 0)), (36, (.iload 4, 2, 4, 0, 0, 0, 0)), (38, (.bipush (40), 2, 0, 0, 0, 40, 0)), (40, (.if_icmp .gt (24), 3, 0, 64, 0, 0, 0)), (43, (.aload_n 0, 1, 0, 0, 0, 0, 0)), (44, (.iload_n 1, 1, 1, 0, 0, 0, 0)), (45, (.iload_n 2, 1, 2, 0, 0, 0, 0)), (46, (.iload 4, 2, 4, 0, 0, 0, 0)), (48, (.invokevirtual 439, 3, 283, 4, 1, 0, 0)), (51, (.iload_n 3, 1, 3, 0, 0, 0, 0)), (52, (.if_icmp .le (6), 3, 0, 58, 0, 0, 0)), (55, (.iload 4, 2, 4, 0, 0, 0, 0)), (57, (.ireturn, 1, 0, 0, 0, 0, 0)), (58, (.iinc 4 (1), 3, 4, 0, 0, 1, 0)), (61, (.goto (-25), 3, 0, 36, 0, 0, 0)), (64, (.iconst (-1), 1, 0, 0, 0, (-1), 0)), (65, (.ireturn, 1, 0, 0, 0, 0, 0))]
def cd_286 : List (Nat × Ent) := [(0, (.aload_n 0, 1, 0, 0, 0, 0, 0)), (1, (.iconst 0, 1, 0, 0, 0, 0, 0)), (2, (.putfield 1, 3, 12, 0, 0, 0, 0)), (5, (.aload_n 0, 1, 0, 0, 0, 0, 0)), (6, (.iconst 0, 1, 0, 0, 0, 0, 0)), (7, (.iload_n 1, 1, 1, 0, 0, 0, 0)), (8, (.invokevirtual 340, 3, 238, 3, 1, 0, 0)), (11, (.ifCond .eq (13), 3, 0, 24, 0, 0, 0)), (14, (.iload_n 2, 1, 2, 0, 0, 0, 0)), (15, (.iconst 1, 1, 0, 0, 0, 1, 0)), (16, (.bipush (8), 2, 0, 0, 0, 8, 0)), (18, (.invokestatic 233, 3, 222, 3, 1, 0, 0)), (21, (.ifCond .ne (5), 3, 0, 26, 0, 0, 0)), (24, (.iconst (-1), 1, 0, 0, 0, (-1), 0)), (25, (.ireturn, 1, 0, 0, 0, 0, 0)), (26, (.lconst 1, 1, 0, 0, 0, 0, 1)), (27, (.lstore_n 3, 1, 3, 0, 0, 0, 0)), (28, (.iconst 0, 1, 0, 0, 0, 0, 0)), (29, (.istore 5, 2, 5, 0, 0, 0, 0)), (31, (.iload 5, 2, 5, 0, 0, 0, 0)), (33, (.iload_n 2, 1, 2, 0, 0, 0, 0)), (34, (.if_icmp .ge (15), 3, 0, 49, 0, 0, 0)), (37, (.lload_n 3, 1, 3, 0, 0, 0, 0)), (38, (.ldc2_w 184, 3, 0, 0, 0, 0, 10)), (41, (.lmul, 1, 0, 0, 0, 0, 0)), (42, (.lstore_n 3, 1, 3, 0, 0, 0, 0)), (43, (.iinc 5 (1), 3, 5, 0, 0, 1, 0)), (46, (.goto (-15), 3, 0, 31, 0, 0, 0)), (49, (.aload_n 0, 1, 0, 0, 0, 0, 0)), (50, (.iload_n 1, 1, 1, 0, 0, 0, 0)), (51, (.aload_n 0, 1, 0, 0, 0, 0, 0)), (52, (.getfield 133, 3, 12, 25, 0, 0, 0)), (55, (.bipush (19), 2, 0, 0, 0, 19, 0)), (57, (.iload_n 1, 1, 1, 0, 0, 0, 0)), (58, (.iadd, 1, 0, 0, 0, 0, 0)), (59, (.iaload, 1, 0, 0, 0, 0, 0)), (60, (.aload_n 0, 1, 0, 0, 0, 0, 0)), (61, (.getfield 133, 3, 12, 25, 0, 0, 0)), (64, (.bipush (25), 2, 0, 0, 0, 25, 0)), (66, (.iload_n 1, 1, 1, 0, 0, 0, 0)), (67, (.iadd, 1, 0, 0, 0, 0, 0)), (68, (.iaload, 1, 0, 0, 0, 0, 0)), (69, (.aload_n 0, 1, 0, 0, 0, 0, 0)), (70, (.getfield 133, 3, 12, 25, 0, 0, 0)), (73, (.bipush (7), 2, 0, 0, 0, 7, 0)), (75, (.iload_n 1, 1, 1, 0, 0, 0, 0)), (76, (.iadd, 1, 0, 0, 0, 0, 0)), (77, (.iaload, 1, 0, 0, 0, 0, 0)), (78, (.aload_n 0, 1, 0, 0, 0, 0, 0)), (79, (.getfield 133, 3, 12, 25, 0, 0, 0)), (82, (.iconst 0, 1, 0, 0, 0, 0, 0)), (83, (.iaload, 1, 0, 0, 0, 0, 0)), (84, (.iload_n 2, 1, 2, 0, 0, 0, 0)), (85, (.invokevirtual 442, 3, 287, 7, 2, 0, 0)), (88, (.ldc2_w 446, 3, 0, 0, 0, 0, 1000000)), (91, (.lmul, 1, 0, 0, 0, 0, 0)), (92, (.lload_n 3, 1, 3, 0, 0, 0, 0)), (93, (.ldiv, 1, 0, 0, 0, 0, 0)), (94, (.l2i, 1, 0, 0, 0, 0, 0)), (95, (.ireturn, 1, 0, 0, 0, 0, 0))]
def cd_287 : List (Nat × Ent) := [(0, (.iload 4, 2, 4, 0, 0, 0, 0)), (2, (.ifCond .gt (5), 3, 0, 7, 0, 0, 0)), (5, (.lconst 0, 1, 0, 0, 0, 0, 0)), (6, (.lreturn, 1, 0, 0, 0, 0, 0)), (7, (.iload 6, 2, 6, 0, 0, 0, 0)), (9, (.ifCond .ne (5), 3, 0, 14, 0, 0, 0)), (12, (.lconst 1, 1, 0, 0, 0, 0, 1)), (13, (.lreturn, 1, 0, 0, 0, 0, 0)), (14, (.lconst 0, 1, 0, 0, 0, 0, 0)), (15, (.lstore 7, 2, 7, 0, 0, 0, 0)), (17, (.iconst 0, 1, 0, 0, 0, 0, 0)), (18, (.istore 9, 2, 9, 0, 0, 0, 0)), (20, (.iload 9, 2, 9, 0, 0, 0, 0)), (22, (.iconst 2, 1, 0, 0, 0, 2, 0)), (23, (.if_icmp .ge (107), 3, 0, 130, 0, 0, 0)), (26, (.iload 9, 2, 9, 0, 0, 0, 0)), (28, (.iconst 1, 1, 0, 0, 0, 1, 0)), (29, (.if_icmp .ne (12), 3, 0, 41, 0, 0, 0)), (32, (.aload_n 0, 1, 0, 0, 0, 0, 0)), (33, (.getfield 103, 3, 12, 10, 0, 0, 0)), (36, (.iconst 5, 1, 0, 0, 0, 5, 0)), (37, (.iaload, 1, 0, 0, 0, 0, 0)), (38, (.goto (12), 3, 0, 50, 0, 0, 0)), (41, (.bipush (10), 2, 0, 0, 0, 10, 0)), (43, (.aload_n 0, 1, 0, 0, 0, 0, 0)), (44, (.getfield 103, 3, 12, 10, 0, 0, 0)), (47, (.iconst 5, 1, 0, 0, 0, 5, 0)), (48, (.iaload, 1, 0, 0, 0, 0, 0)), (49, (.isub, 1, 0, 0, 0, 0, 0)), (50, (.istore 10, 2, 10, 0, 0, 0, 0)), (52, (.aload_n 0, 1, 0, 0, 0, 0, 0)), (53, (.iload_n 1, 1, 1, 0, 0, 0, 0)), (54, (.iload_n 2, 1, 2, 0, 0, 0, 0)), (55, (.iload 4, 2, 4, 0, 0, 0, 0)), (57, (.iload 5, 2, 5, 0, 0, 0, 0)), (59, (.iload 9, 2, 9, 0, 0, 0, 0)), (61, (.iconst 1, 1, 0, 0, 0, 1, 0)), (62, (.if_icmp .ne (7), 3, 0, 69, 0, 0, 0)), (65, (.iconst 1, 1, 0, 0, 0, 1, 0)), (66, (.goto (4), 3, 0, 70, 0, 0, 0)), (69, (.iconst 0, 1, 0, 0, 0, 0, 0)), (70, (.invokevirtual 357, 3, 242, 6, 1, 0, 0)), (73, (.iload_n 3, 1, 3, 0, 0, 0, 0)), (74, (.isub, 1, 0, 0, 0, 0, 0)), (75, (.istore 11, 2, 11, 0, 0, 0, 0)), (77, (.lload 7, 2, 7, 0, 0, 0, 0)), (79, (.iload 10, 2, 10, 0, 0, 0, 0)), (81, (.ifCond .ne (7), 3, 0, 88, 0, 0, 0)), (84, (.lconst 0, 1, 0, 0, 0, 0, 0)), (85, (.goto (36), 3, 0, 121, 0, 0, 0)), (88, (.iload 10, 2, 10, 0, 0, 0, 0)), (90, (.i2l, 1, 0, 0, 0, 0, 0)), (91, (.aload_n 0, 1, 0, 0, 0, 0, 0)), (92, (.iload_n 1, 1, 1, 0, 0, 0, 0)), (93, (.iload_n 2, 1, 2, 0, 0, 0, 0)), (94, (.iload_n 3, 1, 3, 0, 0, 0, 0)), (95, (.iload 4, 2, 4, 0, 0, 0, 0)), (97, (.iload 11, 2, 11, 0, 0, 0, 0)), (99, (.ifCond .ge (7), 3, 0, 106, 0, 0, 0)), (102, (.iconst 0, 1, 0, 0, 0, 0, 0)), (103, (.goto (5), 3, 0, 108, 0, 0, 0)), (106, (.iload 11, 2, 11, 0, 0, 0, 0)), (108, (.isub, 1, 0, 0, 0, 0, 0)), (109, (.iload 5, 2, 5, 0, 0, 0, 0)), (111, (.iconst 1, 1, 0, 0, 0, 1, 0)), (112, (.iadd, 1, 0, 0, 0, 0, 0)), (113, (.iload 6, 2, 6, 0, 0, 0, 0)), (115, (.iconst 1, 1, 0, 0, 0, 1, 0)), (116, (.isub, 1, 0, 0, 0, 0, 0)), (117, (.invokevirtual 442, 3, 287, 7, 2, 0, 0)), (120, (.lmul, 1, 0, 0, 0, 0, 0)), (121, (.ladd, 1, 0, 0, 0, 0, 0)), (122, (.lstore 7, 2, 7, 0, 0, 0, 0)), (124, (.iinc 9 (1), 3, 9, 0, 0, 1, 0)), (127, (.goto (-107), 3, 0, 20, 0, 0, 0)), (130, (.lload 7, 2, 7, 0, 0, 0, 0)), (132, (.lreturn, 1, 0, 0, 0, 0, 0))]
def cd_288 : List (Nat × Ent) := [(0, (.aload_n 0, 1, 0, 0, 0, 0, 0)), (1, (.iconst 0, 1, 0, 0, 0, 0, 0)), (2, (.putfield 1, 3, 12, 0, 0, 0, 0)), (5, (.iload_n 1, 1, 1, 0, 0, 0, 0)), (6, (.iconst 1, 1, 0, 0, 0, 1, 0)), (7, (.bipush (30), 2, 0, 0, 0, 30, 0)), (9, (.invokestatic 233, 3, 222, 3, 1, 0, 0)), (12, (.ifCond .ne (5), 3, 0, 17, 0, 0, 0)), (15, (.iconst (-1), 1, 0, 0, 0, (-1), 0)), (16, (.ireturn, 1, 0, 0, 0, 0, 0)), (17, (.iconst (-1), 1, 0, 0, 0, (-1), 0)), (18, (.istore_n 2, 1, 2, 0, 0, 0, 0)), (19, (.aload_n 0, 1, 0, 0, 0, 0, 0)), (20, (.iconst (-1), 1, 0, 0, 0, (-1), 0)), (21, (.iload_n 1, 1, 1, 0, 0, 0, 0)), (22, (.invokevirtual 448, 3, 289, 3, 1, 0, 0)), (25, (.istore_n 3, 1, 3, 0, 0, 0, 0)), (26, (.iconst 0, 1, 0, 0, 0, 0, 0)), (27, (.istore 4, 2, 4, 0, 0, 0, 0)), (29, (.iload 4, 2, 4, 0, 0, 0, 0)), (31, (.aload_n 0, 1, 0, 0, 0, 0, 0)), (32, (.invokevirtual 315, 3, 197, 1, 1, 0, 0)), (35, (.if_icmp .ge (58), 3, 0, 93, 0, 0, 0)), (38, (.aload_n 0, 1, 0, 0, 0, 0, 0)), (39, (.iconst 0, 1, 0, 0, 0, 0, 0)), (40, (.iload 4, 2, 4, 0, 0, 0, 0)), (42, (.invokevirtual 399, 3, 265, 3, 1, 0, 0)), (45, (.ifCond .eq (13), 3, 0, 58, 0, 0, 0)), (48, (.aload_n 0, 1, 0, 0, 0, 0, 0)), (49, (.iload 4, 2, 4, 0, 0, 0, 0)), (51, (.iload_n 1, 1, 1, 0, 0, 0, 0)), (52, (.invokevirtual 448, 3, 289, 3, 1, 0, 0)), (55, (.goto (4), 3, 0, 59, 0, 0, 0)), (58, (.iconst (-1), 1, 0, 0, 0, (-1), 0)), (59, (.istore 5, 2, 5, 0, 0, 0, 0)), (61, (.iload 5, 2, 5, 0, 0, 0, 0)), (63, (.iload_n 3, 1, 3, 0, 0, 0, 0)), (64, (.if_icmp .le (8), 3, 0, 72, 0, 0, 0)), (67, (.iload 4, 2, 4, 0, 0, 0, 0)), (69, (.goto (4), 3, 0, 73, 0, 0, 0)), (72, (.iload_n 2, 1, 2, 0, 0, 0, 0)), (73, (.istore_n 2, 1, 2, 0, 0, 0, 0)), (74, (.iload 5, 2, 5, 0, 0, 0, 0)), (76, (.iload_n 3, 1, 3, 0, 0, 0, 0)), (77, (.if_icmp .le (8), 3, 0, 85, 0, 0, 0)), (80, (.iload 5, 2, 5, 0, 0, 0, 0)), (82, (.goto (4), 3, 0, 86, 0, 0, 0)), (85, (.iload_n 3, 1, 3, 0, 0, 0, 0)), (86, (.istore_n 3, 1, 3, 0, 0, 0, 0)), (87, (.iinc 4 (1), 3, 4, 0, 0, 1, 0)), (90, (.goto (-61), 3, 0, 29, 0, 0, 0)), (93, (.iload_n 2, 1, 2, 0, 0, 0, 0)), (94, (.ireturn, 1, 0, 0, 0, 0, 0))]
def cd_289 : List (Nat × Ent) := [(0, (.aload_n 0, 1, 0, 0, 0, 0, 0)), (1, (.iconst 0, 1, 0, 0, 0, 0, 0)), (2, (.sipush (1029), 3, 0, 0, 0, 1029, 0)), (5, (.invokevirtual 328, 3, 259, 3, 0, 0, 0)), (8, (.iload_n 1, 1, 1, 0, 0, 0, 0)), (9, (.ifCond .lt (17), 3, 0, 26, 0, 0, 0)), (12, (.aload_n 0, 1, 0, 0, 0, 0, 0)), (13, (.getfield 133, 3, 12, 25, 0, 0, 0)), (16, (.sipush (1054), 3, 0, 0, 0, 1054, 0)), (19, (.iload_n 1, 1, 1, 0, 0, 0, 0)), (20, (.iadd, 1, 0, 0, 0, 0, 0)), (21, (.dup2, 1, 0, 0, 0, 0, 0)), (22, (.iaload, 1, 0, 0, 0, 0, 0)), (23, (.iconst 1, 1, 0, 0, 0, 1, 0)), (24, (.iadd, 1, 0, 0, 0, 0, 0)), (25, (.iastore, 1, 0, 0, 0, 0, 0)), (26, (.iconst 0, 1, 0, 0, 0, 0, 0)), (27, (.istore_n 3, 1, 3, 0, 0, 0, 0)), (28, (.iload_n 3, 1, 3, 0, 0, 0, 0)), (29, (.iload_n 2, 1, 2, 0, 0, 0, 0)), (30, (.if_icmp .ge (18), 3, 0, 48, 0, 0, 0)), (33, (.aload_n 0, 1, 0, 0, 0, 0, 0)), (34, (.sipush (1029), 3, 0, 0, 0, 1029, 0)), (37, (.iconst 0, 1, 0, 0, 0, 0, 0)), (38, (.invokevirtual 405, 3, 269, 3, 1, 0, 0)), (41, (.pop, 1, 0, 0, 0, 0, 0)), (42, (.iinc 3 (1), 3, 3, 0, 0, 1, 0)), (45, (.goto (-17), 3, 0, 28, 0, 0, 0)), (48, (.aload_n 0, 1, 0, 0, 0, 0, 0)), (49, (.aload_n 0, 1, 0, 0, 0, 0, 0)), (50, (.sipush (1029), 3, 0, 0, 0, 1029, 0)), (53, (.invokevirtual 371, 3, 250, 2, 1, 0, 0)), (56, (.invokevirtual 374, 3, 252, 2, 1, 0, 0)), (59, (.ireturn, 1, 0, 0, 0, 0, 0))]
def cd_290 : List (Nat × Ent) := [(0, (.aload_n 0, 1, 0, 0, 0, 0, 0)), (1, (.iconst 0, 1, 0, 0, 0, 0, 0)), (2, (.putfield 1, 3, 12, 0, 0, 0, 0)), (5, (.aload_n 0, 1, 0, 0, 0, 0, 0)), (6, (.iconst 0, 1, 0, 0, 0, 0, 0)), (7, (.iload_n 1, 1, 1, 0, 0, 0, 0)), (8, (.invokevirtual 340, 3, 238, 3, 1, 0, 0)), (11, (.ifCond .eq (13), 3, 0, 24, 0, 0, 0)), (14, (.iload_n 2, 1, 2, 0, 0, 0, 0)), (15, (.iconst 0, 1, 0, 0, 0, 0, 0)), (16, (.bipush (20), 2, 0, 0, 0, 20, 0)), (18, (.invokestatic 233, 3, 222, 3, 1, 0, 0)), (21, (.ifCond .ne (5), 3, 0, 26, 0, 0, 0)), (24, (.iconst 0, 1, 0, 0, 0, 0, 0)), (25, (.ireturn, 1, 0, 0, 1, 0, 0)), (26, (.aload_n 0, 1, 0, 0, 0, 0, 0)), (27, (.getfield 133, 3, 12, 25, 0, 0, 0)), (30, (.bipush (43), 2, 0, 0, 0, 43, 0)), (32, (.iload_n 1, 1, 1, 0, 0, 0, 0)), (33, (.iadd, 1, 0, 0, 0, 0, 0)), (34, (.iload_n 2, 1, 2, 0, 0, 0, 0)), (35, (.iastore, 1, 0, 0, 0, 0, 0)), (36, (.iconst 1, 1, 0, 0, 0, 1, 0)), (37, (.ireturn, 1, 0, 0, 1, 0, 0))]
def cd_291 : List (Nat × Ent) := [(0, (.aload_n 0, 1, 0, 0, 0, 0, 0)), (1, (.iconst 0, 1, 0, 0, 0, 0, 0)), (2, (.putfield 1, 3, 12, 0, 0, 0, 0)), (5, (.iload_n 1, 1, 1, 0, 0, 0, 0)), (6, (.iconst 0, 1, 0, 0, 0, 0, 0)), (7, (.iconst 2, 1, 0, 0, 0, 2, 0)), (8, (.invokestatic 233, 3, 222, 3, 1, 0, 0)), (11, (.ifCond .ne (5), 3, 0, 16, 0, 0, 0)), (14, (.iconst (-1), 1, 0, 0, 0, (-1), 0)), (15, (.ireturn, 1, 0, 0, 0, 0, 0)), (16, (.iconst 0, 1, 0, 0, 0, 0, 0)), (17, (.istore_n 2, 1, 2, 0, 0, 0, 0)), (18, (.iconst 1, 1, 0, 0, 0, 1, 0)), (19, (.aload_n 0, 1, 0, 0, 0, 0, 0)), (20, (.invokevirtual 334, 3, 248, 1, 1, 0, 0)), (23, (.ishl, 1, 0, 0, 0, 0, 0)), (24, (.iconst 1, 1, 0, 0, 0, 1, 0)), (25, (.isub, 1, 0, 0, 0, 0, 0)), (26, (.istore_n 3, 1, 3, 0, 0, 0, 0)), (27, (.iconst 0, 1, 0, 0, 0, 0, 0)), (28, (.istore 4, 2, 4, 0, 0, 0, 0)), (30, (.iconst 0, 1, 0, 0, 0, 0, 0)), (31, (.istore 5, 2, 5, 0, 0, 0, 0)), (33, (.iload 5, 2, 5, 0, 0, 0, 0)), (35, (.iconst 1, 1, 0, 0, 0, 1, 0)), (36, (.aload_n 0, 1, 0, 0, 0, 0, 0)), (37, (.invokevirtual 334, 3, 248, 1, 1, 0, 0)), (40, (.ishl, 1, 0, 0, 0, 0, 0)), (41, (.if_icmp .ge (33), 3, 0, 74, 0, 0, 0)), (44, (.aload_n 0, 1, 0, 0, 0, 0, 0)), (45, (.iload 5, 2, 5, 0, 0, 0, 0)), (47, (.invokevirtual 457, 3, 292, 2, 1, 0, 0)), (50, (.ifCond .eq (18), 3, 0, 68, 0, 0, 0)), (53, (.iinc 2 (1), 3, 2, 0, 0, 1, 0)), (56, (.iload_n 3, 1, 3, 0, 0, 0, 0)), (57, (.iload 5, 2, 5, 0, 0, 0, 0)), (59, (.iand, 1, 0, 0, 0, 0, 0)), (60, (.istore_n 3, 1, 3, 0, 0, 0, 0)), (61, (.iload 4, 2, 4, 0, 0, 0, 0)), (63, (.iload 5, 2, 5, 0, 0, 0, 0)), (65, (.ior, 1, 0, 0, 0, 0, 0)), (66, (.istore 4, 2, 4, 0, 0, 0, 0)), (68, (.iinc 5 (1), 3, 5, 0, 0, 1, 0)), (71, (.goto (-38), 3, 0, 33, 0, 0, 0)), (74, (.iload_n 1, 1, 1, 0, 0, 0, 0)), (75, (.ifCond .ne (7), 3, 0, 82, 0, 0, 0)), (78, (.iload_n 2, 1, 2, 0, 0, 0, 0)), (79, (.goto (22), 3, 0, 101, 0, 0, 0)), (82, (.iload_n 2, 1, 2, 0, 0, 0, 0)), (83, (.ifCond .ne (7), 3, 0, 90, 0, 0, 0)), (86, (.iconst (-1), 1, 0, 0, 0, (-1), 0)), (87, (.goto (14), 3, 0, 101, 0, 0, 0)), (90, (.iload_n 1, 1, 1, 0, 0, 0, 0)), (91, (.iconst 1, 1, 0, 0, 0, 1, 0)), (92, (.if_icmp .ne (7), 3, 0, 99, 0, 0, 0)), (95, (.iload_n 3, 1, 3, 0, 0, 0, 0)), (96, (.goto (5), 3, 0, 101, 0, 0, 0)), (99, (.iload 4, 2, 4, 0, 0, 0, 0)), (101, (.ireturn, 1, 0, 0, 0, 0, 0))]
def cd_292 : List (Nat × Ent) := [(0, (.iload_n 1, 1, 1, 0, 0, 0, 0)), (1, (.aload_n 0, 1, 0, 0, 0, 0, 0)), (2, (.invokevirtual 451, 3, 293, 1, 1, 0, 0)), (5, (.iconst (-1), 1, 0, 0, 0, (-1), 0)), (6, (.ixor, 1, 0, 0, 0, 0, 0)), (7, (.iand, 1, 0, 0, 0, 0, 0)), (8, (.ifCond .ne (7), 3, 0, 15, 0, 0, 0)), (11, (.iconst 1, 1, 0, 0, 0, 1, 0)), (12, (.goto (4), 3, 0, 16, 0, 0, 0)), (15, (.iconst 0, 1, 0, 0, 0, 0, 0)), (16, (.istore_n 2, 1, 2, 0, 0, 0, 0)), (17, (.iconst 0, 1, 0, 0, 0, 0, 0)), (18, (.istore_n 3, 1, 3, 0, 0, 0, 0)), (19, (.iload_n 3, 1, 3, 0, 0, 0, 0)), (20, (.aload_n 0, 1, 0, 0, 0, 0, 0)), (21, (.invokevirtual 315, 3, 197, 1, 1, 0, 0)), (24, (.if_icmp .ge (49), 3, 0, 73, 0, 0, 0)), (27, (.iload_n 2, 1, 2, 0, 0, 0, 0)), (28, (.ifCond .eq (45), 3, 0, 73, 0, 0, 0)), (31, (.aload_n 0, 1, 0, 0, 0, 0, 0)), (32, (.getfield 133, 3, 12, 25, 0, 0, 0)), (35, (.bipush (43), 2, 0, 0, 0, 43, 0)), (37, (.iload_n 3, 1, 3, 0, 0, 0, 0)), (38, (.iadd, 1, 0, 0, 0, 0, 0)), (39, (.iaload, 1, 0, 0, 0, 0, 0)), (40, (.ifCond .lt (21), 3, 0, 61, 0, 0, 0)), (43, (.aload_n 0, 1, 0, 0, 0, 0, 0)), (44, (.iload_n 3, 1, 3, 0, 0, 0, 0)), (45, (.iload_n 1, 1, 1, 0, 0, 0, 0)), (46, (.invokevirtual 454, 3, 294, 3, 1, 0, 0)), (49, (.aload_n 0, 1, 0, 0, 0, 0, 0)), (50, (.getfield 133, 3, 12, 25, 0, 0, 0)), (53, (.bipush (43), 2, 0, 0, 0, 43, 0)), (55, (.iload_n 3, 1, 3, 0, 0, 0, 0)), (56, (.iadd, 1, 0, 0, 0, 0, 0)), (57, (.iaload, 1, 0, 0, 0, 0, 0)), (58, (.if_icmp .ne (7), 3, 0, 65, 0, 0, 0)), (61, (.iconst 1, 1, 0, 0, 0, 1, 0)), (62, (.goto (4), 3, 0, 66, 0, 0, 0)), (65, (.iconst 0, 1, 0, 0, 0, 0, 0)), (66, (.istore_n 2, 1, 2, 0, 0, 0, 0)), (67, (.iinc 3 (1), 3, 3, 0, 0, 1, 0)), (70, (.goto (-51), 3, 0, 19, 0, 0, 0)), (73, (.iload_n 2, 1, 2, 0, 0, 0, 0)), (74, (.ireturn, 1, 0, 0, 1, 0, 0))]
def cd_293 : List (Nat × Ent) := [(0, (.iconst 0, 1, 0, 0, 0, 0, 0)), (1, (.istore_n 1, 1, 1, 0, 0, 0, 0)), (2, (.iconst 0, 1, 0, 0, 0, 0, 0)), (3, (.istore_n 2, 1, 2, 0, 0, 0, 0)), (4, (.iload_n 2, 1, 2, 0, 0, 0, 0)), (5, (.aload_n 0, 1, 0, 0, 0, 0, 0)), (6, (.invokevirtual 334, 3, 248, 1, 1, 0, 0)), (9, (.if_icmp .ge (31), 3, 0, 40, 0, 0, 0)), (12, (.iload_n 1, 1, 1, 0, 0, 0, 0)), (13, (.aload_n 0, 1, 0, 0, 0, 0, 0)), (14, (.getfield 133, 3, 12, 25, 0, 0, 0)), (17, (.bipush (31), 2, 0, 0, 0, 31, 0)), (19, (.iload_n 2, 1, 2, 0, 0, 0, 0)), (20, (.iadd, 1, 0, 0, 0, 0, 0)), (21, (.iaload, 1, 0, 0, 0, 0, 0)), (22, (.ifCond .lt (9), 3, 0, 31, 0, 0, 0)), (25, (.iconst 1, 1, 0, 0, 0, 1, 0)), (26, (.iload_n 2, 1, 2, 0, 0, 0, 0)), (27, (.ishl, 1, 0, 0, 0, 0, 0)), (28, (.goto (4), 3, 0, 32, 0, 0, 0)), (31, (.iconst 0, 1, 0, 0, 0, 0, 0)), (32, (.ior, 1, 0, 0, 0, 0, 0)), (33, (.istore_n 1, 1, 1, 0, 0, 0, 0)), (34, (.iinc 2 (1), 3, 2, 0, 0, 1, 0)), (37, (.goto (-33), 3, 0, 4, 0, 0, 0)), (40, (.iload_n 1, 1, 1, 0, 0, 0, 0)), (41, (.ireturn, 1, 0, 0, 0, 0, 0))]
def cd_294 : List (Nat × Ent) := [(0, (.aload_n 0, 1, 0, 0, 0, 0, 0)), (1, (.iconst 0, 1, 0, 0, 0, 0, 0)), (2, (.iload_n 1, 1, 1, 0, 0, 0, 0)), (3, (.invokevirtual 340, 3, 238, 3, 1, 0, 0)), (6, (.ifCond .ne (5), 3, 0, 11, 0, 0, 0)), (9, (.iconst 0, 1, 0, 0, 0, 0, 0)), (10, (.ireturn, 1, 0, 0, 0, 0, 0)), (11, (.aload_n 0, 1, 0, 0, 0, 0, 0)), (12, (.iconst 0, 1, 0, 0, 0, 0, 0)), (13, (.iload_n 1, 1, 1, 0, 0, 0, 0)), (14, (.iconst 0, 1, 0, 0, 0, 0, 0)), (15, (.invokevirtual 365, 3, 270, 4, 1, 0, 0)), (18, (.istore_n 3, 1, 3, 0, 0, 0, 0)), (19, (.iconst 0, 1, 0, 0, 0, 0, 0)), (20, (.istore 4, 2, 4, 0, 0, 0, 0)), (22, (.iload 4, 2, 4, 0, 0, 0, 0)), (24, (.aload_n 0, 1, 0, 0, 0, 0, 0)), (25, (.invokevirtual 334, 3, 248, 1, 1, 0, 0)), (28, (.if_icmp .ge (41), 3, 0, 69, 0, 0, 0)), (31, (.iload_n 3, 1, 3, 0, 0, 0, 0)), (32, (.iload_n 2, 1, 2, 0, 0, 0, 0)), (33, (.iload 4, 2, 4, 0, 0, 0, 0)), (35, (.ishr, 1, 0, 0, 0, 0, 0)), (36, (.iconst 1, 1, 0, 0, 0, 1, 0)), (37, (.iand, 1, 0, 0, 0, 0, 0)), (38, (.iconst 1, 1, 0, 0, 0, 1, 0)), (39, (.if_icmp .ne (21), 3, 0, 60, 0, 0, 0)), (42, (.aload_n 0, 1, 0, 0, 0, 0, 0)), (43, (.getfield 133, 3, 12, 25, 0, 0, 0)), (46, (.bipush (31), 2, 0, 0, 0, 31, 0)), (48, (.iload 4, 2, 4, 0, 0, 0, 0)), (50, (.iadd, 1, 0, 0, 0, 0, 0)), (51, (.iaload, 1, 0, 0, 0, 0, 0)), (52, (.iload_n 1, 1, 1, 0, 0, 0, 0)), (53, (.if_icmp .ne (7), 3, 0, 60, 0, 0, 0)), (56, (.iconst 1, 1, 0, 0, 0, 1, 0)), (57, (.goto (4), 3, 0, 61, 0, 0, 0)), (60, (.iconst 0, 1, 0, 0, 0, 0, 0)), (61, (.isub, 1, 0, 0, 0, 0, 0)), (62, (.istore_n 3, 1, 3, 0, 0, 0, 0)), (63, (.iinc 4 (1), 3, 4, 0, 0, 1, 0)), (66, (.goto (-44), 3, 0, 22, 0, 0, 0)), (69, (.iload_n 3, 1, 3, 0, 0, 0, 0)), (70, (.ifCond .ge (7), 3, 0, 77, 0, 0, 0)), (73, (.iconst 0, 1, 0, 0, 0, 0, 0)), (74, (.goto (4), 3, 0, 78, 0, 0, 0)), (77, (.iload_n 3, 1, 3, 0, 0, 0, 0)), (78, (.ireturn, 1, 0, 0, 0, 0, 0))]
def cd_295 : List (Nat × Ent) := [(0, (.aload_n 0, 1, 0, 0, 0, 0, 0)), (1, (.iconst 0, 1, 0, 0, 0, 0, 0)), (2, (.putfield 1, 3, 12, 0, 0, 0, 0)), (5, (.iconst 0, 1, 0, 0, 0, 0, 0)), (6, (.istore_n 1, 1, 1, 0, 0, 0, 0)), (7, (.iconst 0, 1, 0, 0, 0, 0, 0)), (8, (.istore_n 2, 1, 2, 0, 0, 0, 0)), (9, (.iload_n 2, 1, 2, 0, 0, 0, 0)), (10, (.iconst 1, 1, 0, 0, 0, 1, 0)), (11, (.aload_n 0, 1, 0, 0, 0, 0, 0)), (12, (.invokevirtual 334, 3, 248, 1, 1, 0, 0)), (15, (.ishl, 1, 0, 0, 0, 0, 0)), (16, (.if_icmp .ge (25), 3, 0, 41, 0, 0, 0)), (19, (.iload_n 1, 1, 1, 0, 0, 0, 0)), (20, (.aload_n 0, 1, 0, 0, 0, 0, 0)), (21, (.iload_n 2, 1, 2, 0, 0, 0, 0)), (22, (.invokevirtual 457, 3, 292, 2, 1, 0, 0)), (25, (.ifCond .eq (7), 3, 0, 32, 0, 0, 0)), (28, (.iconst 1, 1, 0, 0, 0, 1, 0)), (29, (.goto (4), 3, 0, 33, 0, 0, 0)), (32, (.iconst 0, 1, 0, 0, 0, 0, 0)), (33, (.iadd, 1, 0, 0, 0, 0, 0)), (34, (.istore_n 1, 1, 1, 0, 0, 0, 0)), (35, (.iinc 2 (1), 3, 2, 0, 0, 1, 0)), (38, (.goto (-29), 3, 0, 9, 0, 0, 0)), (41, (.iconst (-1), 1, 0, 0, 0, (-1), 0)), (42, (.istore_n 2, 1, 2, 0, 0, 0, 0)), (43, (.iconst 0, 1, 0, 0, 0, 0, 0)), (44, (.istore_n 3, 1, 3, 0, 0, 0, 0)), (45, (.iload_n 3, 1, 3, 0, 0, 0, 0)), (46, (.aload_n 0, 1, 0, 0, 0, 0, 0)), (47, (.invokevirtual 315, 3, 197, 1, 1, 0, 0)), (50, (.if_icmp .ge (66), 3, 0, 116, 0, 0, 0)), (53, (.aload_n 0, 1, 0, 0, 0, 0, 0)), (54, (.iconst 0, 1, 0, 0, 0, 0, 0)), (55, (.iload_n 3, 1, 3, 0, 0, 0, 0)), (56, (.invokevirtual 340, 3, 238, 3, 1, 0, 0)), (59, (.ifCond .eq (23), 3, 0, 82, 0, 0, 0)), (62, (.aload_n 0, 1, 0, 0, 0, 0, 0)), (63, (.getfield 133, 3, 12, 25, 0, 0, 0)), (66, (.bipush (43), 2, 0, 0, 0, 43, 0)), (68, (.iload_n 3, 1, 3, 0, 0, 0, 0)), (69, (.iadd, 1, 0, 0, 0, 0, 0)), (70, (.iaload, 1, 0, 0, 0, 0, 0)), (71, (.ifCond .ge (11), 3, 0, 82, 0, 0, 0)), (74, (.aload_n 0, 1, 0, 0, 0, 0, 0)), (75, (.iload_n 3, 1, 3, 0, 0, 0, 0)), (76, (.invokevirtual 460, 3, 296, 2, 1, 0, 0)), (79, (.goto (4), 3, 0, 83, 0, 0, 0)), (82, (.iload_n 1, 1, 1, 0, 0, 0, 0)), (83, (.istore 4, 2, 4, 0, 0, 0, 0)), (85, (.iload 4, 2, 4, 0, 0, 0, 0)), (87, (.iload_n 1, 1, 1, 0, 0, 0, 0)), (88, (.if_icmp .ge (7), 3, 0, 95, 0, 0, 0)), (91, (.iload_n 3, 1, 3, 0, 0, 0, 0)), (92, (.goto (4), 3, 0, 96, 0, 0, 0)), (95, (.iload_n 2, 1, 2, 0, 0, 0, 0)), (96, (.istore_n 2, 1, 2, 0, 0, 0, 0)), (97, (.iload 4, 2, 4, 0, 0, 0, 0)), (99, (.iload_n 1, 1, 1, 0, 0, 0, 0)), (100, (.if_icmp .ge (8), 3, 0, 108, 0, 0, 0)), (103, (.iload 4, 2, 4, 0, 0, 0, 0)), (105, (.goto (4), 3, 0, 109, 0, 0, 0)), (108, (.iload_n 1, 1, 1, 0, 0, 0, 0)), (109, (.istore_n 1, 1, 1, 0, 0, 0, 0)), (110, (.iinc 3 (1), 3, 3, 0, 0, 1, 0)), (113, (.goto (-68), 3, 0, 45, 0, 0, 0)), (116, (.iload_n 2, 1, 2, 0, 0, 0, 0)), (117, (.ireturn, 1, 0, 0, 0, 0, 0))]
def cd_296 : List (Nat × Ent) := [(0, (.iconst 0, 1, 0, 0, 0, 0, 0)), (1, (.istore_n 2, 1, 2, 0, 0, 0, 0)), (2, (.iload_n 2, 1, 2, 0, 0, 0, 0)), (3, (.bipush (20), 2, 0, 0, 0, 20, 0)), (5, (.if_icmp .gt (16), 3, 0, 21, 0, 0, 0)), (8, (.aload_n 0, 1, 0, 0, 0, 0, 0)), (9, (.getfield 158, 3, 12, 38, 0, 0, 0)), (12, (.iload_n 2, 1, 2, 0, 0, 0, 0)), (13, (.iconst 0, 1, 0, 0, 0, 0, 0)), (14, (.iastore, 1, 0, 0, 0, 0, 0)), (15, (.iinc 2 (1), 3, 2, 0, 0, 1, 0)), (18, (.goto (-16), 3, 0, 2, 0, 0, 0)), (21, (.iconst 0, 1, 0, 0, 0, 0, 0)), (22, (.istore_n 2, 1, 2, 0, 0, 0, 0)), (23, (.iconst 0, 1, 0, 0, 0, 0, 0)), (24, (.istore_n 3, 1, 3, 0, 0, 0, 0)), (25, (.iload_n 3, 1, 3, 0, 0, 0, 0)), (26, (.iconst 1, 1, 0, 0, 0, 1, 0)), (27, (.aload_n 0, 1, 0, 0, 0, 0, 0)), (28, (.invokevirtual 334, 3, 248, 1, 1, 0, 0)), (31, (.ishl, 1, 0, 0, 0, 0, 0)), (32, (.if_icmp .ge (59), 3, 0, 91, 0, 0, 0)), (35, (.aload_n 0, 1, 0, 0, 0, 0, 0)), (36, (.iload_n 3, 1, 3, 0, 0, 0, 0)), (37, (.invokevirtual 457, 3, 292, 2, 1, 0, 0)), (40, (.ifCond .eq (45), 3, 0, 85, 0, 0, 0)), (43, (.aload_n 0, 1, 0, 0, 0, 0, 0)), (44, (.iload_n 1, 1, 1, 0, 0, 0, 0)), (45, (.iload_n 3, 1, 3, 0, 0, 0, 0)), (46, (.invokevirtual 454, 3, 294, 3, 1, 0, 0)), (49, (.istore 4, 2, 4, 0, 0, 0, 0)), (51, (.aload_n 0, 1, 0, 0, 0, 0, 0)), (52, (.getfield 158, 3, 12, 38, 0, 0, 0)), (55, (.iload 4, 2, 4, 0, 0, 0, 0)), (57, (.dup2, 1, 0, 0, 0, 0, 0)), (58, (.iaload, 1, 0, 0, 0, 0, 0)), (59, (.iconst 1, 1, 0, 0, 0, 1, 0)), (60, (.iadd, 1, 0, 0, 0, 0, 0)), (61, (.iastore, 1, 0, 0, 0, 0, 0)), (62, (.aload_n 0, 1, 0, 0, 0, 0, 0)), (63, (.getfield 158, 3, 12, 38, 0, 0, 0)), (66, (.iload 4, 2, 4, 0, 0, 0, 0)), (68, (.iaload, 1, 0, 0, 0, 0, 0)), (69, (.iload_n 2, 1, 2, 0, 0, 0, 0)), (70, (.if_icmp .le (13), 3, 0, 83, 0, 0, 0)), (73, (.aload_n 0, 1, 0, 0, 0, 0, 0)), (74, (.getfield 158, 3, 12, 38, 0, 0, 0)), (77, (.iload 4, 2, 4, 0, 0, 0, 0)), (79, (.iaload, 1, 0, 0, 0, 0, 0)), (80, (.goto (4), 3, 0, 84, 0, 0, 0)), (83, (.iload_n 2, 1, 2, 0, 0, 0, 0)), (84, (.istore_n 2, 1, 2, 0, 0, 0, 0)), (85, (.iinc 3 (1), 3, 3, 0, 0, 1, 0)), (88, (.goto (-63), 3, 0, 25, 0, 0, 0)), (91, (.iload_n 2, 1, 2, 0, 0, 0, 0)), (92, (.ireturn, 1, 0, 0, 0, 0, 0))]
def cd_297 : List (Nat × Ent) := [(0, (.iload_n 1, 1, 1, 0, 0, 0, 0)), (1, (.iconst 0, 1, 0, 0, 0, 0, 0)), (2, (.bipush (9), 2, 0, 0, 0, 9, 0)), (4, (.invokestatic 233, 3, 222, 3, 1, 0, 0)), (7, (.ifCond .eq (33), 3, 0, 40, 0, 0, 0)), (10, (.iload_n 2, 1, 2, 0, 0, 0, 0)), (11, (.iconst 0, 1, 0, 0, 0, 0, 0)), (12, (.bipush (9), 2, 0, 0, 0, 9, 0)), (14, (.invokestatic 233, 3, 222, 3, 1, 0, 0)), (17, (.ifCond .eq (23), 3, 0, 40, 0, 0, 0)), (20, (.iload_n 3, 1, 3, 0, 0, 0, 0)), (21, (.iconst 0, 1, 0, 0, 0, 0, 0)), (22, (.bipush (9), 2, 0, 0, 0, 9, 0)), (24, (.invokestatic 233, 3, 222, 3, 1, 0, 0)), (27, (.ifCond .eq (13), 3, 0, 40, 0, 0, 0)), (30, (.iload 4, 2, 4, 0, 0, 0, 0)), (32, (.iconst (-1), 1, 0, 0, 0, (-1), 0)), (33, (.if_icmp .lt (7), 3, 0, 40, 0, 0, 0)), (36, (.iconst 1, 1, 0, 0, 0, 1, 0)), (37, (.goto (4), 3, 0, 41, 0, 0, 0)), (40, (.iconst 0, 1, 0, 0, 0, 0, 0)), (41, (.istore 5, 2, 5, 0, 0, 0, 0)), (43, (.iconst 0, 1, 0, 0, 0, 0, 0)), (44, (.istore 6, 2, 6, 0, 0, 0, 0)), (46, (.iconst (-1), 1, 0, 0, 0, (-1), 0)), (47, (.istore 7, 2, 7, 0, 0, 0, 0)), (49, (.iconst 0, 1, 0, 0, 0, 0, 0)), (50, (.istore 8, 2, 8, 0, 0, 0, 0)), (52, (.iload 8, 2, 8, 0, 0, 0, 0)), (54, (.iconst 4, 1, 0, 0, 0, 4, 0)), (55, (.if_icmp .ge (131), 3, 0, 186, 0, 0, 0)), (58, (.iload 5, 2, 5, 0, 0, 0, 0)), (60, (.ifCond .eq (126), 3, 0, 186, 0, 0, 0)), (63, (.iload 8, 2, 8, 0, 0, 0, 0)), (65, (.iconst 2, 1, 0, 0, 0, 2, 0)), (66, (.idiv, 1, 0, 0, 0, 0, 0)), (67, (.istore 9, 2, 9, 0, 0, 0, 0)), (69, (.iload 8, 2, 8, 0, 0, 0, 0)), (71, (.iconst 2, 1, 0, 0, 0, 2, 0)), (72, (.irem, 1, 0, 0, 0, 0, 0)), (73, (.istore 10, 2, 10, 0, 0, 0, 0)), (75, (.iconst 1, 1, 0, 0, 0, 1, 0)), (76, (.iload 9, 2, 9, 0, 0, 0, 0)), (78, (.isub, 1, 0, 0, 0, 0, 0)), (79, (.iload 10, 2, 10, 0, 0, 0, 0)), (81, (.iload_n 1, 1, 1, 0, 0, 0, 0)), (82, (.iload_n 2, 1, 2, 0, 0, 0, 0)), (83, (.iload_n 3, 1, 3, 0, 0, 0, 0)), (84, (.invokestatic 463, 3, 298, 5, 1, 0, 0)), (87, (.iload 9, 2, 9, 0, 0, 0, 0)), (89, (.iload 10, 2, 10, 0, 0, 0, 0)), (91, (.iload_n 1, 1, 1, 0, 0, 0, 0)), (92, (.iload_n 2, 1, 2, 0, 0, 0, 0)), (93, (.iload_n 3, 1, 3, 0, 0, 0, 0)), (94, (.invokestatic 463, 3, 298, 5, 1, 0, 0)), (97, (.if_icmp .gt (7), 3, 0, 104, 0, 0, 0)), (100, (.iconst 1, 1, 0, 0, 0, 1, 0)), (101, (.goto (4), 3, 0, 105, 0, 0, 0)), (104, (.iconst 0, 1, 0, 0, 0, 0, 0)), (105, (.istore 11, 2, 11, 0, 0, 0, 0)), (107, (.iload 11, 2, 11, 0, 0, 0, 0)), (109, (.ifCond .eq (32), 3, 0, 141, 0, 0, 0)), (112, (.iconst 1, 1, 0, 0, 0, 1, 0)), (113, (.iload 10, 2, 10, 0, 0, 0, 0)), (115, (.isub, 1, 0, 0, 0, 0, 0)), (116, (.iload 9, 2, 9, 0, 0, 0, 0)), (118, (.iload_n 1, 1, 1, 0, 0, 0, 0)), (119, (.iload_n 2, 1, 2, 0, 0, 0, 0)), (120, (.iload_n 3, 1, 3, 0, 0, 0, 0)), (121, (.invokestatic 463, 3, 298, 5, 1, 0, 0)), (124, (.iload 10, 2, 10, 0, 0, 0, 0)), (126, (.iload 9, 2, 9, 0, 0, 0, 0)), (128, (.iload_n 1, 1, 1, 0, 0, 0, 0)), (129, (.iload_n 2, 1, 2, 0, 0, 0, 0)), (130, (.iload_n 3, 1, 3, 0, 0, 0, 0)), (131, (.invokestatic 463, 3, 298, 5, 1, 0, 0)), (134, (.if_icmp .gt (7), 3, 0, 141, 0, 0, 0)), (137, (.iconst 1, 1, 0, 0, 0, 1, 0)), (138, (.goto (4), 3, 0, 142, 0, 0, 0)), (141, (.iconst 0, 1, 0, 0, 0, 0, 0)), (142, (.istore 11, 2, 11, 0, 0, 0, 0)), (144, (.iload 11, 2, 11, 0, 0, 0, 0)), (146, (.ifCond .eq (15), 3, 0, 161, 0, 0, 0)), (149, (.iload 6, 2, 6, 0, 0, 0, 0)), (151, (.iload 4, 2, 4, 0, 0, 0, 0)), (153, (.if_icmp .ne (8), 3, 0, 161, 0, 0, 0)), (156, (.iload 8, 2, 8, 0, 0, 0, 0)), (158, (.goto (5), 3, 0, 163, 0, 0, 0)), (161, (.iload 7, 2, 7, 0, 0, 0, 0)), (163, (.istore 7, 2, 7, 0, 0, 0, 0)), (165, (.iload 6, 2, 6, 0, 0, 0, 0)), (167, (.iload 11, 2, 11, 0, 0, 0, 0)), (169, (.ifCond .eq (7), 3, 0, 176, 0, 0, 0)), (172, (.iconst 1, 1, 0, 0, 0, 1, 0)), (173, (.goto (4), 3, 0, 177, 0, 0, 0)), (176, (.iconst 0, 1, 0, 0, 0, 0, 0)), (177, (.iadd, 1, 0, 0, 0, 0, 0)), (178, (.istore 6, 2, 6, 0, 0, 0, 0)), (180, (.iinc 8 (1), 3, 8, 0, 0, 1, 0)), (183, (.goto (-131), 3, 0, 52, 0, 0, 0)), (186, (.aload_n 0, 1, 0, 0, 0, 0, 0)), (187, (.iload 5, 2, 5, 0, 0, 0, 0)), (189, (.ifCond .eq (17), 3, 0, 206, 0, 0, 0)), (192, (.iload 4, 2, 4, 0, 0, 0, 0)), (194, (.ifCond .lt (8), 3, 0, 202, 0, 0, 0)), (197, (.iload 7, 2, 7, 0, 0, 0, 0)), (199, (.ifCond .lt (7), 3, 0, 206, 0, 0, 0)), (202, (.iconst 0, 1, 0, 0, 0, 0, 0)), (203, (.goto (4), 3, 0, 207, 0, 0, 0)), (206, (.iconst 1, 1, 0, 0, 0, 1, 0)), (207, (.putfield 1, 3, 12, 0, 0, 0, 0)), (210, (.aload_n 0, 1, 0, 0, 0, 0, 0)), (211, (.getfield 1, 3, 12, 0, 0, 0, 0)), (214, (.ifCond .le (7), 3, 0, 221, 0, 0, 0)), (217, (.iconst 0, 1, 0, 0, 0, 0, 0)), (218, (.goto (15), 3, 0, 233, 0, 0, 0)), (221, (.iload 4, 2, 4, 0, 0, 0, 0)), (223, (.ifCond .ge (8), 3, 0, 231, 0, 0, 0)), (226, (.iload 6, 2, 6, 0, 0, 0, 0)), (228, (.goto (5), 3, 0, 233, 0, 0, 0)), (231, (.iload 7, 2, 7, 0, 0, 0, 0)), (233, (.ireturn, 1, 0, 0, 0, 0, 0))]
def cd_298 : List (Nat × Ent) := [(0, (.iload_n 0, 1, 0, 0, 0, 0, 0)), (1, (.ifCond .ne (15), 3, 0, 16, 0, 0, 0)), (4, (.iload_n 1, 1, 1, 0, 0, 0, 0)), (5, (.ifCond .ne (7), 3, 0, 12, 0, 0, 0)), (8, (.iload_n 2, 1, 2, 0, 0, 0, 0)), (9, (.goto (18), 3, 0, 27, 0, 0, 0)), (12, (.iconst 0, 1, 0, 0, 0, 0, 0)), (13, (.goto (14), 3, 0, 27, 0, 0, 0)), (16, (.iload_n 1, 1, 1, 0, 0, 0, 0)), (17, (.ifCond .ne (7), 3, 0, 24, 0, 0, 0)), (20, (.iload_n 3, 1, 3, 0, 0, 0, 0)), (21, (.goto (6), 3, 0, 27, 0, 0, 0)), (24, (.iload 4, 2, 4, 0, 0, 0, 0)), (26, (.ineg, 1, 0, 0, 0, 0, 0)), (27, (.ireturn, 1, 0, 0, 0, 0, 0))]
def cd_299 : List (Nat × Ent) := [(0, (.aload_n 0, 1, 0, 0, 0, 0, 0)), (1, (.iconst 0, 1, 0, 0, 0, 0, 0)), (2, (.putfield 1, 3, 12, 0, 0, 0, 0)), (5, (.iload_n 1, 1, 1, 0, 0, 0, 0)), (6, (.iconst 0, 1, 0, 0, 0, 0, 0)), (7, (.sipush (9999), 3, 0, 0, 0, 9999, 0)), (10, (.invokestatic 233, 3, 222, 3, 1, 0, 0)), (13, (.ifCond .eq (22), 3, 0, 35, 0, 0, 0)), (16, (.iload_n 2, 1, 2, 0, 0, 0, 0)), (17, (.iconst 1, 1, 0, 0, 0, 1, 0)), (18, (.bipush (60), 2, 0, 0, 0, 60, 0)), (20, (.invokestatic 233, 3, 222, 3, 1, 0, 0)), (23, (.ifCond .eq (12), 3, 0, 35, 0, 0, 0)), (26, (.iload_n 3, 1, 3, 0, 0, 0, 0)), (27, (.iconst 0, 1, 0, 0, 0, 0, 0)), (28, (.iconst 2, 1, 0, 0, 0, 2, 0)), (29, (.invokestatic 233, 3, 222, 3, 1, 0, 0)), (32, (.ifCond .ne (5), 3, 0, 37, 0, 0, 0)), (35, (.iconst (-1), 1, 0, 0, 0, (-1), 0)), (36, (.ireturn, 1, 0, 0, 0, 0, 0)), (37, (.aload_n 0, 1, 0, 0, 0, 0, 0)), (38, (.iconst 0, 1, 0, 0, 0, 0, 0)), (39, (.sipush (1078), 3, 0, 0, 0, 1078, 0)), (42, (.invokevirtual 328, 3, 259, 3, 0, 0, 0)), (45, (.aload_n 0, 1, 0, 0, 0, 0, 0)), (46, (.iload_n 1, 1, 1, 0, 0, 0, 0)), (47, (.i2l, 1, 0, 0, 0, 0, 0)), (48, (.putfield 467, 3, 12, 39, 0, 0, 0)), (51, (.iconst 0, 1, 0, 0, 0, 0, 0)), (52, (.istore 4, 2, 4, 0, 0, 0, 0)), (54, (.iconst 0, 1, 0, 0, 0, 0, 0)), (55, (.istore 5, 2, 5, 0, 0, 0, 0)), (57, (.iconst 0, 1, 0, 0, 0, 0, 0)), (58, (.istore 6, 2, 6, 0, 0, 0, 0)), (60, (.iconst 0, 1, 0, 0, 0, 0, 0)), (61, (.istore 7, 2, 7, 0, 0, 0, 0)), (63, (.iload 7, 2, 7, 0, 0, 0, 0)), (65, (.iload_n 2, 1, 2, 0, 0, 0, 0)), (66, (.if_icmp .ge (34), 3, 0, 100, 0, 0, 0)), (69, (.iload 5, 2, 5, 0, 0, 0, 0)), (71, (.aload_n 0, 1, 0, 0, 0, 0, 0)), (72, (.invokevirtual 482, 3, 300, 1, 1, 0, 0)), (75, (.iadd, 1, 0, 0, 0, 0, 0)), (76, (.istore 5, 2, 5, 0, 0, 0, 0)), (78, (.iload 4, 2, 4, 0, 0, 0, 0)), (80, (.aload_n 0, 1, 0, 0, 0, 0, 0)), (81, (.aload_n 0, 1, 0, 0, 0, 0, 0)), (82, (.sipush (1078), 3, 0, 0, 0, 1078, 0)), (85, (.invokevirtual 371, 3, 250, 2, 1, 0, 0)), (88, (.invokevirtual 374, 3, 252, 2, 1, 0, 0)), (91, (.iadd, 1, 0, 0, 0, 0, 0)), (92, (.istore 4, 2, 4, 0, 0, 0, 0)), (94, (.iinc 7 (1), 3, 7, 0, 0, 1, 0)), (97, (.goto (-34), 3, 0, 63, 0, 0, 0)), (100, (.iconst 0, 1, 0, 0, 0, 0, 0)), (101, (.istore 7, 2, 7, 0, 0, 0, 0)), (103, (.iload 7, 2, 7, 0, 0, 0, 0)), (105, (.aload_n 0, 1, 0, 0, 0, 0, 0)), (106, (.invokevirtual 334, 3, 248, 1, 1, 0, 0)), (109, (.if_icmp .ge (25), 3, 0, 134, 0, 0, 0)), (112, (.iload 6, 2, 6, 0, 0, 0, 0)), (114, (.aload_n 0, 1, 0, 0, 0, 0, 0)), (115, (.getfield 133, 3, 12, 25, 0, 0, 0)), (118, (.sipush (1115), 3, 0, 0, 0, 1115, 0)), (121, (.iload 7, 2, 7, 0, 0, 0, 0)), (123, (.iadd, 1, 0, 0, 0, 0, 0)), (124, (.iaload, 1, 0, 0, 0, 0, 0)), (125, (.iadd, 1, 0, 0, 0, 0, 0)), (126, (.istore 6, 2, 6, 0, 0, 0, 0)), (128, (.iinc 7 (1), 3, 7, 0, 0, 1, 0)), (131, (.goto (-28), 3, 0, 103, 0, 0, 0)), (134, (.iload_n 3, 1, 3, 0, 0, 0, 0)), (135, (.ifCond .ne (8), 3, 0, 143, 0, 0, 0)), (138, (.iload 4, 2, 4, 0, 0, 0, 0)), (140, (.goto (15), 3, 0, 155, 0, 0, 0)), (143, (.iload_n 3, 1, 3, 0, 0, 0, 0)), (144, (.iconst 1, 1, 0, 0, 0, 1, 0)), (145, (.if_icmp .ne (8), 3, 0, 153, 0, 0, 0)), (148, (.iload 5, 2, 5, 0, 0, 0, 0)), (150, (.goto (5), 3, 0, 155, 0, 0, 0)), (153, (.iload 6, 2, 6, 0, 0, 0, 0)), (155, (.ireturn, 1, 0, 0, 0, 0, 0))]
def cd_300 : List (Nat × Ent) := [(0, (.aload_n 0, 1, 0, 0, 0, 0, 0)), (1, (.invokevirtual 315, 3, 197, 1, 1, 0, 0)), (4, (.ifCond .le (49), 3, 0, 53, 0, 0, 0)), (7, (.aload_n 0, 1, 0, 0, 0, 0, 0)), (8, (.invokevirtual 331, 3, 255, 1, 1, 0, 0)), (11, (.ifCond .le (42), 3, 0, 53, 0, 0, 0)), (14, (.aload_n 0, 1, 0, 0, 0, 0, 0)), (15, (.aload_n 0, 1, 0, 0, 0, 0, 0)), (16, (.invokevirtual 315, 3, 197, 1, 1, 0, 0)), (19, (.invokevirtual 479, 3, 301, 2, 1, 0, 0)), (22, (.istore_n 1, 1, 1, 0, 0, 0, 0)), (23, (.aload_n 0, 1, 0, 0, 0, 0, 0)), (24, (.aload_n 0, 1, 0, 0, 0, 0, 0)), (25, (.invokevirtual 331, 3, 255, 1, 1, 0, 0)), (28, (.invokevirtual 479, 3, 301, 2, 1, 0, 0)), (31, (.istore_n 2, 1, 2, 0, 0, 0, 0)), (32, (.aload_n 0, 1, 0, 0, 0, 0, 0)), (33, (.sipush (1078), 3, 0, 0, 0, 1078, 0)), (36, (.iload_n 1, 1, 1, 0, 0, 0, 0)), (37, (.iload_n 2, 1, 2, 0, 0, 0, 0)), (38, (.invokevirtual 383, 3, 256, 4, 1, 0, 0)), (41, (.ifCond .eq (12), 3, 0, 53, 0, 0, 0)), (44, (.aload_n 0, 1, 0, 0, 0, 0, 0)), (45, (.sipush (1078), 3, 0, 0, 0, 1078, 0)), (48, (.iload_n 1, 1, 1, 0, 0, 0, 0)), (49, (.iload_n 2, 1, 2, 0, 0, 0, 0)), (50, (.invokevirtual 389, 3, 260, 4, 0, 0, 0)), (53, (.iconst 0, 1, 0, 0, 0, 0, 0)), (54, (.istore_n 1, 1, 1, 0, 0, 0, 0)), (55, (.iload_n 1, 1, 1, 0, 0, 0, 0)), (56, (.aload_n 0, 1, 0, 0, 0, 0, 0)), (57, (.invokevirtual 334, 3, 248, 1, 1, 0, 0)), (60, (.if_icmp .ge (47), 3, 0, 107, 0, 0, 0)), (63, (.aload_n 0, 1, 0, 0, 0, 0, 0)), (64, (.invokevirtual 315, 3, 197, 1, 1, 0, 0)), (67, (.ifCond .le (40), 3, 0, 107, 0, 0, 0)), (70, (.aload_n 0, 1, 0, 0, 0, 0, 0)), (71, (.aload_n 0, 1, 0, 0, 0, 0, 0)), (72, (.invokevirtual 315, 3, 197, 1, 1, 0, 0)), (75, (.invokevirtual 479, 3, 301, 2, 1, 0, 0)), (78, (.istore_n 2, 1, 2, 0, 0, 0, 0)), (79, (.aload_n 0, 1, 0, 0, 0, 0, 0)), (80, (.sipush (1078), 3, 0, 0, 0, 1078, 0)), (83, (.iload_n 1, 1, 1, 0, 0, 0, 0)), (84, (.iload_n 2, 1, 2, 0, 0, 0, 0)), (85, (.invokevirtual 393, 3, 262, 4, 1, 0, 0)), (88, (.ifCond .eq (13), 3, 0, 101, 0, 0, 0)), (91, (.aload_n 0, 1, 0, 0, 0, 0, 0)), (92, (.sipush (1078), 3, 0, 0, 0, 1078, 0)), (95, (.iload_n 1, 1, 1, 0, 0, 0, 0)), (96, (.iload_n 2, 1, 2, 0, 0, 0, 0)), (97, (.invokevirtual 396, 3, 263, 4, 1, 0, 0)), (100, (.pop, 1, 0, 0, 0, 0, 0)), (101, (.iinc 1 (1), 3, 1, 0, 0, 1, 0)), (104, (.goto (-49), 3, 0, 55, 0, 0, 0)), (107, (.aload_n 0, 1, 0, 0, 0, 0, 0)), (108, (.sipush (1078), 3, 0, 0, 0, 1078, 0)), (111, (.aload_n 0, 1, 0, 0, 0, 0, 0)), (112, (.bipush (10), 2, 0, 0, 0, 10, 0)), (114, (.invokevirtual 479, 3, 301, 2, 1, 0, 0)), (117, (.aload_n 0, 1, 0, 0, 0, 0, 0)), (118, (.getfield 103, 3, 12, 10, 0, 0, 0)), (121, (.iconst 5, 1, 0, 0, 0, 5, 0)), (122, (.iaload, 1, 0, 0, 0, 0, 0)), (123, (.if_icmp .ge (7), 3, 0, 130, 0, 0, 0)), (126, (.iconst 1, 1, 0, 0, 0, 1, 0)), (127, (.goto (4), 3, 0, 131, 0, 0, 0)), (130, (.iconst 0, 1, 0, 0, 0, 0, 0)), (131, (.invokevirtual 405, 3, 269, 3, 1, 0, 0)), (134, (.ireturn, 1, 0, 0, 0, 0, 0))]
def cd_301 : List (Nat × Ent) := [(0, (.aload_n 0, 1, 0, 0, 0, 0, 0)), (1, (.aload_n 0, 1, 0, 0, 0, 0, 0)), (2, (.getfield 467, 3, 12, 39, 0, 0, 0)), (5, (.ldc2_w 471, 3, 0, 0, 0, 0, 1103515245)), (8, (.lmul, 1, 0, 0, 0, 0, 0)), (9, (.ldc2_w 473, 3, 0, 0, 0, 0, 12345)), (12, (.ladd, 1, 0, 0, 0, 0, 0)), (13, (.ldc2_w 475, 3, 0, 0, 0, 0, 2147483648)), (16, (.lrem, 1, 0, 0, 0, 0, 0)), (17, (.putfield 467, 3, 12, 39, 0, 0, 0)), (20, (.aload_n 0, 1, 0, 0, 0, 0, 0)), (21, (.getfield 467, 3, 12, 39, 0, 0, 0)), (24, (.ldc2_w 477, 3, 0, 0, 0, 0, 65536)), (27, (.ldiv, 1, 0, 0, 0, 0, 0)), (28, (.iload_n 1, 1, 1, 0, 0, 0, 0)), (29, (.i2l, 1, 0, 0, 0, 0, 0)), (30, (.lrem, 1, 0, 0, 0, 0, 0)), (31, (.l2i, 1, 0, 0, 0, 0, 0)), (32, (.ireturn, 1, 0, 0, 0, 0, 0))]
def cd_302 : List (Nat × Ent) := [(0, (.aload_n 0, 1, 0, 0, 0, 0, 0)), (1, (.iconst 0, 1, 0, 0, 0, 0, 0)), (2, (.putfield 1, 3, 12, 0, 0, 0, 0)), (5, (.iload_n 1, 1, 1, 0, 0, 0, 0)), (6, (.iconst 0, 1, 0, 0, 0, 0, 0)), (7, (.iconst 3, 1, 0, 0, 0, 3, 0)), (8, (.invokestatic 233, 3, 222, 3, 1, 0, 0)), (11, (.ifCond .eq (16), 3, 0, 27, 0, 0, 0)), (14, (.iload_n 2, 1, 2, 0, 0, 0, 0)), (15, (.ifCond .eq (14), 3, 0, 29, 0, 0, 0)), (18, (.aload_n 0, 1, 0, 0, 0, 0, 0)), (19, (.getfield 136, 3, 12, 27, 0, 0, 0)), (22, (.iload_n 1, 1, 1, 0, 0, 0, 0)), (23, (.baload, 1, 0, 0, 0, 0, 0)), (24, (.ifCond .ne (5), 3, 0, 29, 0, 0, 0)), (27, (.iconst 0, 1, 0, 0, 0, 0, 0)), (28, (.ireturn, 1, 0, 0, 1, 0, 0)), (29, (.aload_n 0, 1, 0, 0, 0, 0, 0)), (30, (.getfield 136, 3, 12, 27, 0, 0, 0)), (33, (.iload_n 1, 1, 1, 0, 0, 0, 0)), (34, (.iconst 1, 1, 0, 0, 0, 1, 0)), (35, (.bastore, 1, 0, 0, 0, 0, 0)), (36, (.aload_n 0, 1, 0, 0, 0, 0, 0)), (37, (.iload_n 2, 1, 2, 0, 0, 0, 0)), (38, (.ifCond .eq (12), 3, 0, 50, 0, 0, 0)), (41, (.bipush (49), 2, 0, 0, 0, 49, 0)), (43, (.iconst 1, 1, 0, 0, 0, 1, 0)), (44, (.iload_n 1, 1, 1, 0, 0, 0, 0)), (45, (.iadd, 1, 0, 0, 0, 0, 0)), (46, (.imul, 1, 0, 0, 0, 0, 0)), (47, (.goto (4), 3, 0, 51, 0, 0, 0)), (50, (.iconst 0, 1, 0, 0, 0, 0, 0)), (51, (.iload_n 2, 1, 2, 0, 0, 0, 0)), (52, (.ifCond .eq (7), 3, 0, 59, 0, 0, 0)), (55, (.iconst 0, 1, 0, 0, 0, 0, 0)), (56, (.goto (9), 3, 0, 65, 0, 0, 0)), (59, (.bipush (49), 2, 0, 0, 0, 49, 0)), (61, (.iconst 1, 1, 0, 0, 0, 1, 0)), (62, (.iload_n 1, 1, 1, 0, 0, 0, 0)), (63, (.iadd, 1, 0, 0, 0, 0, 0)), (64, (.imul, 1, 0, 0, 0, 0, 0)), (65, (.invokevirtual 328, 3, 259, 3, 0, 0, 0)), (68, (.aload_n 0, 1, 0, 0, 0, 0, 0)), (69, (.iload_n 2, 1, 2, 0, 0, 0, 0)), (70, (.ifCond .eq (7), 3, 0, 77, 0, 0, 0)), (73, (.iconst 0, 1, 0, 0, 0, 0, 0)), (74, (.goto (7), 3, 0, 81, 0, 0, 0)), (77, (.aload_n 0, 1, 0, 0, 0, 0, 0)), (78, (.getfield 325, 3, 12, 26, 0, 0, 0)), (81, (.putfield 325, 3, 12, 26, 0, 0, 0)), (84, (.iconst 1, 1, 0, 0, 0, 1, 0)), (85, (.ireturn, 1, 0, 0, 1, 0, 0))]
def cd_303 : List (Nat × Ent) := [(0, (.aload_n 0, 1, 0, 0, 0, 0, 0)), (1, (.iconst 0, 1, 0, 0, 0, 0, 0)), (2, (.putfield 1, 3, 12, 0, 0, 0, 0)), (5, (.iload_n 1, 1, 1, 0, 0, 0, 0)), (6, (.tableswitch (136) (0) (12) #[66, 66, 66, 66, 73, 80, 92, 98, 104, 114, 121, 126, 131], 66, 0, 0, 0, 0, 0)), (72, (.aload_n 0, 1, 0, 0, 0, 0, 0)), (73, (.getfield 103, 3, 12, 10, 0, 0, 0)), (76, (.iload_n 1, 1, 1, 0, 0, 0, 0)), (77, (.iaload, 1, 0, 0, 0, 0, 0)), (78, (.ireturn, 1, 0, 0, 0, 0, 0)), (79, (.aload_n 0, 1, 0, 0, 0, 0, 0)), (80, (.getfield 133, 3, 12, 25, 0, 0, 0)), (83, (.iconst 0, 1, 0, 0, 0, 0, 0)), (84, (.iaload, 1, 0, 0, 0, 0, 0)), (85, (.ireturn, 1, 0, 0, 0, 0, 0)), (86, (.aload_n 0, 1, 0, 0, 0, 0, 0)), (87, (.aload_n 0, 1, 0, 0, 0, 0, 0)), (88, (.getfield 133, 3, 12, 25, 0, 0, 0)), (91, (.iconst 0, 1, 0, 0, 0, 0, 0)), (92, (.iaload, 1, 0, 0, 0, 0, 0)), (93, (.iconst 0, 1, 0, 0, 0, 0, 0)), (94, (.invokevirtual 350, 3, 243, 3, 1, 0, 0)), (97, (.ireturn, 1, 0, 0, 0, 0, 0)), (98, (.aload_n 0, 1, 0, 0, 0, 0, 0)), (99, (.iconst 1, 1, 0, 0, 0, 1, 0)), (100, (.invokevirtual 485, 3, 304, 2, 1, 0, 0)), (103, (.ireturn, 1, 0, 0, 0, 0, 0)), (104, (.aload_n 0, 1, 0, 0, 0, 0, 0)), (105, (.iconst 2, 1, 0, 0, 0, 2, 0)), (106, (.invokevirtual 485, 3, 304, 2, 1, 0, 0)), (109, (.ireturn, 1, 0, 0, 0, 0, 0)), (110, (.aload_n 0, 1, 0, 0, 0, 0, 0)), (111, (.aload_n 0, 1, 0, 0, 0, 0, 0)), (112, (.iconst 0, 1, 0, 0, 0, 0, 0)), (113, (.invokevirtual 371, 3, 250, 2, 1, 0, 0)), (116, (.invokevirtual 374, 3, 252, 2, 1, 0, 0)), (119, (.ireturn, 1, 0, 0, 0, 0, 0)), (120, (.aload_n 0, 1, 0, 0, 0, 0, 0)), (121, (.getfield 124, 3, 12, 22, 0, 0, 0)), (124, (.iconst 0, 1, 0, 0, 0, 0, 0)), (125, (.iaload, 1, 0, 0, 0, 0, 0)), (126, (.ireturn, 1, 0, 0, 0, 0, 0)), (127, (.aload_n 0, 1, 0, 0, 0, 0, 0)), (128, (.invokevirtual 488, 3, 305, 1, 1, 0, 0)), (131, (.ireturn, 1, 0, 0, 0, 0, 0)), (132, (.aload_n 0, 1, 0, 0, 0, 0, 0)), (133, (.getfield 325, 3, 12, 26, 0, 0, 0)), (136, (.ireturn, 1, 0, 0, 0, 0, 0)), (137, (.aload_n 0, 1, 0, 0, 0, 0, 0)), (138, (.getfield 11, 3, 12, 2, 0, 0, 0)), (141, (.ireturn, 1, 0, 0, 0, 0, 0)), (142, (.iconst (-1), 1, 0, 0, 0, (-1), 0)), (143, (.ireturn, 1, 0, 0, 0, 0, 0))]
def cd_304 : List (Nat × Ent) := [(0, (.iconst 0, 1, 0, 0, 0, 0, 0)), (1, (.istore_n 2, 1, 2, 0, 0, 0, 0)), (2, (.iconst 0, 1, 0, 0, 0, 0, 0)), (3, (.istore_n 3, 1, 3, 0, 0, 0, 0)), (4, (.iload_n 3, 1, 3, 0, 0, 0, 0)), (5, (.aload_n 0, 1, 0, 0, 0, 0, 0)), (6, (.invokevirtual 315, 3, 197, 1, 1, 0, 0)), (9, (.if_icmp .ge (31), 3, 0, 40, 0, 0, 0)), (12, (.iload_n 2, 1, 2, 0, 0, 0, 0)), (13, (.aload_n 0, 1, 0, 0, 0, 0, 0)), (14, (.getfield 133, 3, 12, 25, 0, 0, 0)), (17, (.iconst 1, 1, 0, 0, 0, 1, 0)), (18, (.iload_n 3, 1, 3, 0, 0, 0, 0)), (19, (.iadd, 1, 0, 0, 0, 0, 0)), (20, (.iaload, 1, 0, 0, 0, 0, 0)), (21, (.iload_n 1, 1, 1, 0, 0, 0, 0)), (22, (.if_icmp .ne (9), 3, 0, 31, 0, 0, 0)), (25, (.iconst 1, 1, 0, 0, 0, 1, 0)), (26, (.iload_n 3, 1, 3, 0, 0, 0, 0)), (27, (.ishl, 1, 0, 0, 0, 0, 0)), (28, (.goto (4), 3, 0, 32, 0, 0, 0)), (31, (.iconst 0, 1, 0, 0, 0, 0, 0)), (32, (.ior, 1, 0, 0, 0, 0, 0)), (33, (.istore_n 2, 1, 2, 0, 0, 0, 0)), (34, (.iinc 3 (1), 3, 3, 0, 0, 1, 0)), (37, (.goto (-33), 3, 0, 4, 0, 0, 0)), (40, (.iload_n 2, 1, 2, 0, 0, 0, 0)), (41, (.ireturn, 1, 0, 0, 0, 0, 0))]
def cd_305 : List (Nat × Ent) := [(0, (.iconst 0, 1, 0, 0, 0, 0, 0)), (1, (.istore_n 1, 1, 1, 0, 0, 0, 0)), (2, (.iconst 0, 1, 0, 0, 0, 0, 0)), (3, (.istore_n 2, 1, 2, 0, 0, 0, 0)), (4, (.iload_n 2, 1, 2, 0, 0, 0, 0)), (5, (.aload_n 0, 1, 0, 0, 0, 0, 0)), (6, (.invokevirtual 315, 3, 197, 1, 1, 0, 0)), (9, (.if_icmp .ge (29), 3, 0, 38, 0, 0, 0)), (12, (.iload_n 1, 1, 1, 0, 0, 0, 0)), (13, (.aload_n 0, 1, 0, 0, 0, 0, 0)), (14, (.getfield 133, 3, 12, 25, 0, 0, 0)), (17, (.bipush (43), 2, 0, 0, 0, 43, 0)), (19, (.iload_n 2, 1, 2, 0, 0, 0, 0)), (20, (.iadd, 1, 0, 0, 0, 0, 0)), (21, (.iaload, 1, 0, 0, 0, 0, 0)), (22, (.ifCond .lt (7), 3, 0, 29, 0, 0, 0)), (25, (.iconst 1, 1, 0, 0, 0, 1, 0)), (26, (.goto (4), 3, 0, 30, 0, 0, 0)), (29, (.iconst 0, 1, 0, 0, 0, 0, 0)), (30, (.iadd, 1, 0, 0, 0, 0, 0)), (31, (.istore_n 1, 1, 1, 0, 0, 0, 0)), (32, (.iinc 2 (1), 3, 2, 0, 0, 1, 0)), (35, (.goto (-31), 3, 0, 4, 0, 0, 0)), (38, (.iload_n 1, 1, 1, 0, 0, 0, 0)), (39, (.ireturn, 1, 0, 0, 0, 0, 0))]
def codL : List (List (Nat × Ent)) := [cd_0, cd_1, cd_2, cd_3, cd_4, cd_5, cd_6, cd_7, cd_8, cd_9, cd_10, cd_11, cd_12, cd_13, cd_14, cd_15, cd_16, cd_17, cd_18, cd_19, cd_20, cd_21, cd_22, cd_23, cd_24, cd_25, cd_26, cd_27, cd_28, cd_29, cd_30, cd_31, cd_32, cd_33, cd_34, cd_35, cd_36, cd_37, cd_38, cd_39, cd_40, cd_41, cd_42, cd_43, cd_44, cd_45, cd_46, cd_47, cd_48, cd_49, cd_50, cd_51, cd_52, cd_53, cd_54, cd_55, cd_56, cd_57, cd_58, cd_59, cd_60, cd_61, cd_62, cd_63, cd_64, cd_65, cd_66, cd_67, cd_68, cd_69, cd_70, cd_71, cd_72, cd_73, cd_74, cd_75, cd_76, cd_77, cd_78, cd_79, cd_80, cd_81, cd_82, cd_83, cd_84, cd_85, cd_86, cd_87, cd_88, cd_89, cd_90, cd_91, cd_92, cd_93, cd_94, cd_95, cd_96, cd_97, cd_98, cd_99, cd_100, cd_101, cd_102, cd_103, cd_104, cd_105, cd_106, cd_107, cd_108, cd_109, cd_110, cd_111, cd_112, cd_113, cd_114, cd_115, cd_116, cd_117, cd_118, cd_119, cd_120, cd_121, cd_122, cd_123, cd_124, cd_125, cd_126, cd_127, cd_128, cd_129, cd_130, cd_131, cd_132, cd_133, cd_134, cd_135, cd_136, cd_137, cd_138, cd_139, cd_140, cd_141, cd_142, cd_143, cd_144, cd_145, cd_146, cd_147, cd_148, cd_149, cd_150, cd_151, cd_152, cd_153, cd_154, cd_155, cd_156, cd_157, cd_158, cd_159, cd_160, cd_161, cd_162, cd_163, cd_164, cd_165, cd_166, cd_167, cd_168, cd_169, cd_170, cd_171, cd_172, cd_173, cd_174, cd_175, cd_176, cd_177, cd_178, cd_179, cd_180, cd_181, cd_182, cd_183, cd_184, cd_185, cd_186, cd_187, cd_188, cd_189, cd_190, cd_191, cd_192, cd_193, cd_194, cd_195, cd_196, cd_197, cd_198, cd_199, cd_200, cd_201, cd_202, cd_203, cd_204, cd_205, cd_206, cd_207, cd_208, cd_209, cd_210, cd_211, cd_212, cd_213, cd_214, cd_215, cd_216, cd_217, cd_218, cd_219, cd_220, cd_221, cd_222, cd_223, cd_224, cd_225, cd_226, cd_227, cd_228, cd_229, cd_230, cd_231, cd_232, cd_233, cd_234, cd_235, cd_236, cd_237, cd_238, cd_239, cd_240, cd_241, cd_242, cd_243, cd_244, cd_245, cd_246, cd_247, cd_248, cd_249, cd_250, cd_251, cd_252, cd_253, cd_254, cd_255, cd_256, cd_257, cd_258, cd_259, cd_260, cd_261, cd_262, cd_263, cd_264, cd_265, cd_266, cd_267, cd_268, cd_269, cd_270, cd_271, cd_272, cd_273, cd_274, cd_275, cd_276, cd_277, cd_278, cd_279, cd_280, cd_281, cd_282, cd_283, cd_284, cd_285, cd_286, cd_287, cd_288, cd_289, cd_290, cd_291, cd_292, cd_293, cd_294, cd_295, cd_296, cd_297, cd_298, cd_299, cd_300, cd_301, cd_302, cd_303, cd_304, cd_305]
def mdL : List MD := [(⟨"IceParliament$Yard", "clear", "()V"⟩, prog_11_method_2_code, 1, (Option.none : Option Jvm.ClassFile.FieldType), 9, 9),
  (⟨"IceParliament$Roll", "clear", "()V"⟩, prog_6_method_2_code, 1, (Option.none : Option Jvm.ClassFile.FieldType), 4, 4),
  (⟨"java/util/Arrays", "fill", "([II)V"⟩, prog_30_method_103_code, 4, (Option.none : Option Jvm.ClassFile.FieldType), 18, 99),
  (⟨"IceParliament$Law", "clear", "()V"⟩, prog_3_method_2_code, 1, (Option.none : Option Jvm.ClassFile.FieldType), 1, 1),
  (⟨"IceParliament$Law", "add", "(I)V"⟩, prog_3_method_3_code, 2, (Option.none : Option Jvm.ClassFile.FieldType), 1, 1),
  (⟨"IceParliament$State", "clear", "()V"⟩, prog_8_method_2_code, 1, (Option.none : Option Jvm.ClassFile.FieldType), 6, 6),
  (⟨"IceParliament", "feed", "(JJJ)I"⟩, prog_1_method_2_code, 7, (Option.some Jvm.ClassFile.FieldType.int), 11, 11),
  (⟨"IceParliament$Tape", "append", "(J)V"⟩, prog_9_method_2_code, 5, (Option.none : Option Jvm.ClassFile.FieldType), 7, 7),
  (⟨"IceParliament", "yard", "()I"⟩, prog_1_method_3_code, 2, (Option.some Jvm.ClassFile.FieldType.int), 11, 11),
  (⟨"IceParliament$YardReader", "read", "()I"⟩, prog_12_method_2_code, 2, (Option.some Jvm.ClassFile.FieldType.int), 10, 10),
  (⟨"IceParliament$Tape", "rewind", "()V"⟩, prog_9_method_4_code, 1, (Option.none : Option Jvm.ClassFile.FieldType), 7, 7),
  (⟨"IceParliament$Tape", "advance", "()V"⟩, prog_9_method_5_code, 1, (Option.none : Option Jvm.ClassFile.FieldType), 7, 7),
  (⟨"IceParliament$Tape", "takeLetters", "()V"⟩, prog_9_method_6_code, 1, (Option.none : Option Jvm.ClassFile.FieldType), 7, 7),
  (⟨"IceParliament$Tape", "takeDigits", "()V"⟩, prog_9_method_7_code, 1, (Option.none : Option Jvm.ClassFile.FieldType), 7, 7),
  (⟨"java/lang/String", "indexOf", "(I)I"⟩, prog_23_method_79_code, 2, (Option.some Jvm.ClassFile.FieldType.int), 13, 40),
  (⟨"java/lang/String", "indexOf", "(II)I"⟩, prog_23_method_80_code, 3, (Option.some Jvm.ClassFile.FieldType.int), 13, 40),
  (⟨"java/lang/String", "isLatin1", "()Z"⟩, prog_23_method_154_code, 1, (Option.some Jvm.ClassFile.FieldType.boolean), 13, 40),
  (⟨"java/lang/String", "length", "()I"⟩, prog_23_method_54_code, 1, (Option.some Jvm.ClassFile.FieldType.int), 13, 40),
  (⟨"java/lang/String", "coder", "()B"⟩, prog_23_method_152_code, 1, (Option.some Jvm.ClassFile.FieldType.byte), 13, 40),
  (⟨"java/lang/StringLatin1", "indexOf", "([BIII)I"⟩, prog_24_method_22_code, 4, (Option.some Jvm.ClassFile.FieldType.int), 14, 99),
  (⟨"java/lang/StringLatin1", "canEncode", "(I)Z"⟩, prog_24_method_4_code, 1, (Option.some Jvm.ClassFile.FieldType.boolean), 14, 99),
  (⟨"java/lang/Math", "max", "(II)I"⟩, prog_21_method_65_code, 2, (Option.some Jvm.ClassFile.FieldType.int), 16, 99),
  (⟨"java/lang/Math", "min", "(II)I"⟩, prog_21_method_69_code, 2, (Option.some Jvm.ClassFile.FieldType.int), 16, 99),
  (⟨"java/lang/StringLatin1", "indexOfChar", "([BIII)I"⟩, prog_24_method_23_code, 6, (Option.some Jvm.ClassFile.FieldType.int), 14, 99),
  (⟨"java/lang/StringUTF16", "indexOf", "([BIII)I"⟩, prog_25_method_40_code, 4, (Option.some Jvm.ClassFile.FieldType.int), 15, 99),
  (⟨"java/lang/StringUTF16", "indexOfChar", "([BIII)I"⟩, prog_25_method_47_code, 4, (Option.some Jvm.ClassFile.FieldType.int), 15, 99),
  (⟨"java/lang/StringUTF16", "checkBoundsBeginEnd", "(II[B)V"⟩, prog_25_method_93_code, 3, (Option.none : Option Jvm.ClassFile.FieldType), 15, 99),
  (⟨"java/lang/StringUTF16", "length", "([B)I"⟩, prog_25_method_6_code, 1, (Option.some Jvm.ClassFile.FieldType.int), 15, 99),
  (⟨"java/lang/String", "checkBoundsBeginEnd", "(III)V"⟩, prog_23_method_158_code, 3, (Option.none : Option Jvm.ClassFile.FieldType), 13, 99),
  (⟨"jdk/internal/util/Preconditions", "checkFromToIndex", "(IIILjava/util/function/BiFunction;)I"⟩, prog_32_method_12_code, 4, (Option.some Jvm.ClassFile.FieldType.int), 19, 99),
  (⟨"java/lang/StringUTF16", "indexOfCharUnsafe", "([BIII)I"⟩, prog_25_method_48_code, 5, (Option.some Jvm.ClassFile.FieldType.int), 15, 99),
  (⟨"java/lang/StringUTF16", "getChar", "([BI)C"⟩, prog_25_method_5_code, 2, (Option.some Jvm.ClassFile.FieldType.char), 15, 99),
  (⟨"java/lang/StringUTF16", "indexOfSupplementary", "([BIII)I"⟩, prog_25_method_49_code, 7, (Option.some Jvm.ClassFile.FieldType.int), 15, 99),
  (⟨"IceParliament$Tape", "atEnd", "()Z"⟩, prog_9_method_8_code, 1, (Option.some Jvm.ClassFile.FieldType.boolean), 7, 7),
  (⟨"IceParliament$YardReader", "readLine", "()Z"⟩, prog_12_method_3_code, 1, (Option.some Jvm.ClassFile.FieldType.boolean), 10, 10),
  (⟨"IceParliament$Tape", "isWord", "(Ljava/lang/String;)Z"⟩, prog_9_method_11_code, 4, (Option.some Jvm.ClassFile.FieldType.boolean), 7, 7),
  (⟨"java/lang/String", "charAt", "(I)C"⟩, prog_23_method_56_code, 2, (Option.some Jvm.ClassFile.FieldType.char), 13, 40),
  (⟨"java/lang/StringLatin1", "charAt", "([BI)C"⟩, prog_24_method_2_code, 2, (Option.some Jvm.ClassFile.FieldType.char), 14, 99),
  (⟨"java/lang/String", "checkIndex", "(II)V"⟩, prog_23_method_155_code, 2, (Option.none : Option Jvm.ClassFile.FieldType), 13, 99),
  (⟨"jdk/internal/util/Preconditions", "checkIndex", "(IILjava/util/function/BiFunction;)I"⟩, prog_32_method_11_code, 3, (Option.some Jvm.ClassFile.FieldType.int), 19, 99),
  (⟨"java/lang/StringUTF16", "charAt", "([BI)C"⟩, prog_25_method_83_code, 2, (Option.some Jvm.ClassFile.FieldType.char), 15, 99),
  (⟨"java/lang/StringUTF16", "checkIndex", "(I[B)V"⟩, prog_25_method_91_code, 2, (Option.none : Option Jvm.ClassFile.FieldType), 15, 99),
  (⟨"IceParliament$YardReader", "readSpot", "()Z"⟩, prog_12_method_4_code, 2, (Option.some Jvm.ClassFile.FieldType.boolean), 10, 10),
  (⟨"IceParliament$YardReader", "takeHead", "(LIceParliament$Roll;)Z"⟩, prog_12_method_7_code, 2, (Option.some Jvm.ClassFile.FieldType.boolean), 10, 10),
  (⟨"IceParliament$Roll", "isFull", "()Z"⟩, prog_6_method_4_code, 1, (Option.some Jvm.ClassFile.FieldType.boolean), 4, 4),
  (⟨"IceParliament$Tape", "wrong", "(I)Z"⟩, prog_9_method_13_code, 2, (Option.some Jvm.ClassFile.FieldType.boolean), 7, 7),
  (⟨"IceParliament$Tape", "takeNewName", "(LIceParliament$Yard;LIceParliament$Roll;)Z"⟩, prog_9_method_18_code, 3, (Option.some Jvm.ClassFile.FieldType.boolean), 7, 7),
  (⟨"IceParliament$Tape", "isName", "()Z"⟩, prog_9_method_12_code, 5, (Option.some Jvm.ClassFile.FieldType.boolean), 7, 7),
  (⟨"IceParliament$Yard", "knows", "(J)Z"⟩, prog_11_method_4_code, 3, (Option.some Jvm.ClassFile.FieldType.boolean), 9, 9),
  (⟨"IceParliament$Roll", "find", "(J)I"⟩, prog_6_method_6_code, 4, (Option.some Jvm.ClassFile.FieldType.int), 4, 4),
  (⟨"IceParliament$Roll", "add", "(J)V"⟩, prog_6_method_5_code, 3, (Option.none : Option Jvm.ClassFile.FieldType), 4, 4),
  (⟨"IceParliament$Tape", "takeNumber", "(Ljava/lang/String;II[II)Z"⟩, prog_9_method_17_code, 6, (Option.some Jvm.ClassFile.FieldType.boolean), 7, 7),
  (⟨"IceParliament$Tape", "takeWord", "(Ljava/lang/String;)Z"⟩, prog_9_method_14_code, 2, (Option.some Jvm.ClassFile.FieldType.boolean), 7, 7),
  (⟨"IceParliament$Tape", "seeNumber", "(II)Z"⟩, prog_9_method_16_code, 3, (Option.some Jvm.ClassFile.FieldType.boolean), 7, 7),
  (⟨"IceParliament$Tape", "takeSign", "(C)Z"⟩, prog_9_method_15_code, 2, (Option.some Jvm.ClassFile.FieldType.boolean), 7, 7),
  (⟨"IceParliament$Tape", "isSign", "(C)Z"⟩, prog_9_method_10_code, 2, (Option.some Jvm.ClassFile.FieldType.boolean), 7, 7),
  (⟨"IceParliament$YardReader", "readCarver", "()Z"⟩, prog_12_method_5_code, 2, (Option.some Jvm.ClassFile.FieldType.boolean), 10, 10),
  (⟨"IceParliament$YardReader", "takeSide", "(I)Z"⟩, prog_12_method_8_code, 3, (Option.some Jvm.ClassFile.FieldType.boolean), 10, 10),
  (⟨"IceParliament$YardReader", "readAct", "()Z"⟩, prog_12_method_6_code, 2, (Option.some Jvm.ClassFile.FieldType.boolean), 10, 10),
  (⟨"IceParliament$YardReader", "takeKind", "(I)Z"⟩, prog_12_method_9_code, 2, (Option.some Jvm.ClassFile.FieldType.boolean), 10, 10),
  (⟨"IceParliament$YardReader", "takeMover", "(I)Z"⟩, prog_12_method_10_code, 2, (Option.some Jvm.ClassFile.FieldType.boolean), 10, 10),
  (⟨"IceParliament$Tape", "seeName", "(LIceParliament$Roll;)Z"⟩, prog_9_method_19_code, 2, (Option.some Jvm.ClassFile.FieldType.boolean), 7, 7),
  (⟨"IceParliament$YardReader", "readClash", "()Z"⟩, prog_12_method_11_code, 3, (Option.some Jvm.ClassFile.FieldType.boolean), 10, 10),
  (⟨"IceParliament$Tape", "takeName", "(LIceParliament$Roll;)Z"⟩, prog_9_method_20_code, 2, (Option.some Jvm.ClassFile.FieldType.boolean), 7, 7),
  (⟨"IceParliament", "has", "(II)Z"⟩, prog_1_method_38_code, 2, (Option.some Jvm.ClassFile.FieldType.boolean), 11, 99),
  (⟨"IceParliament$Yard", "addClash", "(II)V"⟩, prog_11_method_5_code, 3, (Option.none : Option Jvm.ClassFile.FieldType), 9, 9),
  (⟨"IceParliament$YardReader", "readNights", "()Z"⟩, prog_12_method_12_code, 2, (Option.some Jvm.ClassFile.FieldType.boolean), 10, 10),
  (⟨"IceParliament$Tape", "isNumber", "()Z"⟩, prog_9_method_9_code, 1, (Option.some Jvm.ClassFile.FieldType.boolean), 7, 7),
  (⟨"IceParliament$Yard", "addNight", "(I)V"⟩, prog_11_method_6_code, 2, (Option.none : Option Jvm.ClassFile.FieldType), 9, 9),
  (⟨"IceParliament$YardReader", "readMild", "()Z"⟩, prog_12_method_13_code, 1, (Option.some Jvm.ClassFile.FieldType.boolean), 10, 10),
  (⟨"IceParliament$LawReader", "readInto", "(LIceParliament$Law;Z)Z"⟩, prog_4_method_2_code, 5, (Option.some Jvm.ClassFile.FieldType.boolean), 2, 2),
  (⟨"IceParliament$LawReader", "takeOpenings", "()Z"⟩, prog_4_method_3_code, 3, (Option.some Jvm.ClassFile.FieldType.boolean), 2, 2),
  (⟨"IceParliament$LawReader", "push", "(I)V"⟩, prog_4_method_11_code, 2, (Option.none : Option Jvm.ClassFile.FieldType), 2, 2),
  (⟨"IceParliament$LawReader", "takeLeaf", "()Z"⟩, prog_4_method_4_code, 2, (Option.some Jvm.ClassFile.FieldType.boolean), 2, 2),
  (⟨"IceParliament$LawReader", "factHere", "()I"⟩, prog_4_method_5_code, 1, (Option.some Jvm.ClassFile.FieldType.int), 2, 2),
  (⟨"IceParliament$LawReader", "closeNots", "()V"⟩, prog_4_method_13_code, 1, (Option.none : Option Jvm.ClassFile.FieldType), 2, 2),
  (⟨"IceParliament$LawReader", "takeClosings", "()V"⟩, prog_4_method_6_code, 2, (Option.none : Option Jvm.ClassFile.FieldType), 2, 2),
  (⟨"IceParliament$LawReader", "settle", "(I)V"⟩, prog_4_method_12_code, 2, (Option.none : Option Jvm.ClassFile.FieldType), 2, 2),
  (⟨"IceParliament$LawReader", "rankOf", "(I)I"⟩, prog_4_method_10_code, 1, (Option.some Jvm.ClassFile.FieldType.int), 2, 99),
  (⟨"IceParliament$LawReader", "joinHere", "()I"⟩, prog_4_method_7_code, 1, (Option.some Jvm.ClassFile.FieldType.int), 2, 2),
  (⟨"IceParliament$LawReader", "takeEnd", "()Z"⟩, prog_4_method_9_code, 1, (Option.some Jvm.ClassFile.FieldType.boolean), 2, 2),
  (⟨"IceParliament$LawReader", "takeJoin", "(I)Z"⟩, prog_4_method_8_code, 4, (Option.some Jvm.ClassFile.FieldType.boolean), 2, 2),
  (⟨"IceParliament$Tape", "clear", "()V"⟩, prog_9_method_3_code, 1, (Option.none : Option Jvm.ClassFile.FieldType), 7, 7),
  (⟨"IceParliament$Yard", "copyFrom", "(LIceParliament$Yard;)V"⟩, prog_11_method_3_code, 2, (Option.none : Option Jvm.ClassFile.FieldType), 9, 9),
  (⟨"IceParliament$Roll", "copyFrom", "(LIceParliament$Roll;)V"⟩, prog_6_method_3_code, 2, (Option.none : Option Jvm.ClassFile.FieldType), 4, 4),
  (⟨"IceParliament$Law", "copyFrom", "(LIceParliament$Law;)V"⟩, prog_3_method_4_code, 2, (Option.none : Option Jvm.ClassFile.FieldType), 1, 1),
  (⟨"IceParliament$Session", "clear", "()V"⟩, prog_7_method_2_code, 1, (Option.none : Option Jvm.ClassFile.FieldType), 5, 5),
  (⟨"IceParliament", "session", "()I"⟩, prog_1_method_4_code, 2, (Option.some Jvm.ClassFile.FieldType.int), 11, 11),
  (⟨"IceParliament$Session", "read", "(LIceParliament$Tape;LIceParliament$Yard;)I"⟩, prog_7_method_4_code, 4, (Option.some Jvm.ClassFile.FieldType.int), 5, 5),
  (⟨"IceParliament$Session", "readLine", "(LIceParliament$Tape;LIceParliament$Yard;)Z"⟩, prog_7_method_5_code, 4, (Option.some Jvm.ClassFile.FieldType.boolean), 5, 5),
  (⟨"IceParliament$Session", "deedHere", "(LIceParliament$Tape;)I"⟩, prog_7_method_6_code, 1, (Option.some Jvm.ClassFile.FieldType.int), 5, 99),
  (⟨"IceParliament$Session", "takeNames", "(LIceParliament$Tape;LIceParliament$Yard;I)Z"⟩, prog_7_method_7_code, 4, (Option.some Jvm.ClassFile.FieldType.boolean), 5, 5),
  (⟨"IceParliament$Session", "copyFrom", "(LIceParliament$Session;)V"⟩, prog_7_method_3_code, 2, (Option.none : Option Jvm.ClassFile.FieldType), 5, 5),
  (⟨"IceParliament", "act", "(II)I"⟩, prog_1_method_5_code, 3, (Option.some Jvm.ClassFile.FieldType.int), 11, 11),
  (⟨"IceParliament", "isAct", "(I)Z"⟩, prog_1_method_37_code, 2, (Option.some Jvm.ClassFile.FieldType.boolean), 11, 11),
  (⟨"IceParliament$Yard", "doneBy", "(I)I"⟩, prog_11_method_8_code, 2, (Option.some Jvm.ClassFile.FieldType.int), 9, 9),
  (⟨"IceParliament$State", "isInForce", "(I)Z"⟩, prog_8_method_7_code, 2, (Option.some Jvm.ClassFile.FieldType.boolean), 6, 6),
  (⟨"IceParliament$State", "isUp", "(I)Z"⟩, prog_8_method_5_code, 2, (Option.some Jvm.ClassFile.FieldType.boolean), 6, 6),
  (⟨"IceParliament$State", "up", "()I"⟩, prog_8_method_4_code, 1, (Option.some Jvm.ClassFile.FieldType.int), 6, 6),
  (⟨"IceParliament$State", "isDone", "(I)Z"⟩, prog_8_method_6_code, 2, (Option.some Jvm.ClassFile.FieldType.boolean), 6, 6),
  (⟨"IceParliament$State", "meltsTonight", "(II)I"⟩, prog_8_method_19_code, 3, (Option.some Jvm.ClassFile.FieldType.int), 6, 6),
  (⟨"IceParliament$Yard", "warmthOf", "(I)I"⟩, prog_11_method_7_code, 2, (Option.some Jvm.ClassFile.FieldType.int), 9, 9),
  (⟨"java/lang/Math", "floorMod", "(II)I"⟩, prog_21_method_50_code, 3, (Option.some Jvm.ClassFile.FieldType.int), 16, 99),
  (⟨"IceParliament$Yard", "meltingOf", "(IIIII)I"⟩, prog_11_method_9_code, 7, (Option.some Jvm.ClassFile.FieldType.int), 9, 9),
  (⟨"IceParliament$Law", "valueOf", "(III)I"⟩, prog_3_method_5_code, 7, (Option.some Jvm.ClassFile.FieldType.int), 1, 1),
  (⟨"IceParliament$Law", "pick", "(IIII)I"⟩, prog_3_method_6_code, 4, (Option.some Jvm.ClassFile.FieldType.int), 1, 99),
  (⟨"IceParliament$Law", "join", "(III)I"⟩, prog_3_method_7_code, 3, (Option.some Jvm.ClassFile.FieldType.int), 1, 99),
  (⟨"IceParliament", "carver", "(II)I"⟩, prog_1_method_6_code, 3, (Option.some Jvm.ClassFile.FieldType.int), 11, 11),
  (⟨"IceParliament", "isCarver", "(I)Z"⟩, prog_1_method_36_code, 2, (Option.some Jvm.ClassFile.FieldType.boolean), 11, 11),
  (⟨"IceParliament", "force", "()I"⟩, prog_1_method_7_code, 1, (Option.some Jvm.ClassFile.FieldType.int), 11, 11),
  (⟨"IceParliament$State", "inForce", "()I"⟩, prog_8_method_8_code, 3, (Option.some Jvm.ClassFile.FieldType.int), 6, 6),
  (⟨"IceParliament", "side", "(I)I"⟩, prog_1_method_8_code, 4, (Option.some Jvm.ClassFile.FieldType.int), 11, 11),
  (⟨"IceParliament", "count", "(I)I"⟩, prog_1_method_9_code, 2, (Option.some Jvm.ClassFile.FieldType.int), 11, 11),
  (⟨"IceParliament$State", "worthInForce", "()I"⟩, prog_8_method_9_code, 1, (Option.some Jvm.ClassFile.FieldType.int), 6, 6),
  (⟨"IceParliament$Yard", "worthOf", "(I)I"⟩, prog_11_method_12_code, 4, (Option.some Jvm.ClassFile.FieldType.int), 9, 9),
  (⟨"IceParliament$State", "howManyTold", "()I"⟩, prog_8_method_10_code, 3, (Option.some Jvm.ClassFile.FieldType.int), 6, 6),
  (⟨"IceParliament", "begin", "(II)Z"⟩, prog_1_method_10_code, 3, (Option.some Jvm.ClassFile.FieldType.boolean), 11, 11),
  (⟨"IceParliament", "isSpot", "(I)Z"⟩, prog_1_method_35_code, 2, (Option.some Jvm.ClassFile.FieldType.boolean), 11, 11),
  (⟨"IceParliament$State", "canBegin", "(II)Z"⟩, prog_8_method_12_code, 3, (Option.some Jvm.ClassFile.FieldType.boolean), 6, 6),
  (⟨"IceParliament$State", "isFree", "(I)Z"⟩, prog_8_method_11_code, 3, (Option.some Jvm.ClassFile.FieldType.boolean), 6, 6),
  (⟨"IceParliament", "keepForUndo", "()V"⟩, prog_1_method_17_code, 3, (Option.none : Option Jvm.ClassFile.FieldType), 11, 11),
  (⟨"IceParliament$State", "copyFrom", "(LIceParliament$State;)V"⟩, prog_8_method_3_code, 2, (Option.none : Option Jvm.ClassFile.FieldType), 6, 6),
  (⟨"IceParliament$State", "startAt", "(II)V"⟩, prog_8_method_13_code, 3, (Option.none : Option Jvm.ClassFile.FieldType), 6, 6),
  (⟨"IceParliament", "carve", "(II)I"⟩, prog_1_method_11_code, 3, (Option.some Jvm.ClassFile.FieldType.int), 11, 11),
  (⟨"IceParliament$State", "canCarve", "(II)Z"⟩, prog_8_method_14_code, 3, (Option.some Jvm.ClassFile.FieldType.boolean), 6, 6),
  (⟨"IceParliament$State", "cutBy", "(II)V"⟩, prog_8_method_15_code, 3, (Option.none : Option Jvm.ClassFile.FieldType), 6, 6),
  (⟨"IceParliament$Yard", "chipsBy", "(III)I"⟩, prog_11_method_10_code, 5, (Option.some Jvm.ClassFile.FieldType.int), 9, 9),
  (⟨"IceParliament", "prop", "(I)I"⟩, prog_1_method_12_code, 2, (Option.some Jvm.ClassFile.FieldType.int), 11, 11),
  (⟨"IceParliament$State", "canProp", "(I)Z"⟩, prog_8_method_16_code, 2, (Option.some Jvm.ClassFile.FieldType.boolean), 6, 6),
  (⟨"IceParliament", "torch", "(I)I"⟩, prog_1_method_13_code, 2, (Option.some Jvm.ClassFile.FieldType.int), 11, 11),
  (⟨"IceParliament$State", "burn", "(I)V"⟩, prog_8_method_17_code, 2, (Option.none : Option Jvm.ClassFile.FieldType), 6, 6),
  (⟨"IceParliament$State", "lose", "(II)Z"⟩, prog_8_method_18_code, 3, (Option.some Jvm.ClassFile.FieldType.boolean), 6, 6),
  (⟨"IceParliament", "night", "()I"⟩, prog_1_method_14_code, 1, (Option.some Jvm.ClassFile.FieldType.int), 11, 11),
  (⟨"IceParliament$State", "passNight", "(I)I"⟩, prog_8_method_21_code, 4, (Option.some Jvm.ClassFile.FieldType.int), 6, 6),
  (⟨"IceParliament", "undo", "()Z"⟩, prog_1_method_15_code, 1, (Option.some Jvm.ClassFile.FieldType.boolean), 11, 11),
  (⟨"IceParliament", "mark", "(IZ)Z"⟩, prog_1_method_16_code, 3, (Option.some Jvm.ClassFile.FieldType.boolean), 11, 11),
  (⟨"IceParliament", "judged", "(I)I"⟩, prog_1_method_18_code, 2, (Option.some Jvm.ClassFile.FieldType.int), 11, 11),
  (⟨"IceParliament$Trial", "judge", "(LIceParliament$Session;)V"⟩, prog_10_method_2_code, 3, (Option.none : Option Jvm.ClassFile.FieldType), 8, 8),
  (⟨"IceParliament$Trial", "follow", "(III)Z"⟩, prog_10_method_3_code, 4, (Option.some Jvm.ClassFile.FieldType.boolean), 8, 8),
  (⟨"IceParliament$Trial", "tryBegin", "(II)Z"⟩, prog_10_method_4_code, 3, (Option.some Jvm.ClassFile.FieldType.boolean), 8, 8),
  (⟨"IceParliament$Trial", "tryCarve", "(II)Z"⟩, prog_10_method_5_code, 3, (Option.some Jvm.ClassFile.FieldType.boolean), 8, 8),
  (⟨"IceParliament", "decades", "(III)I"⟩, prog_1_method_19_code, 4, (Option.some Jvm.ClassFile.FieldType.int), 11, 11),
  (⟨"IceParliament$Trial", "live", "(LIceParliament$State;II)V"⟩, prog_10_method_6_code, 5, (Option.none : Option Jvm.ClassFile.FieldType), 8, 8),
  (⟨"IceParliament$Trial", "liveDay", "()V"⟩, prog_10_method_7_code, 2, (Option.none : Option Jvm.ClassFile.FieldType), 8, 8),
  (⟨"IceParliament$Trial", "draw", "(I)I"⟩, prog_10_method_8_code, 2, (Option.some Jvm.ClassFile.FieldType.int), 8, 8),
  (⟨"java/lang/Integer", "bitCount", "(I)I"⟩, prog_20_method_49_code, 1, (Option.some Jvm.ClassFile.FieldType.int), 17, 99),
  (⟨"IceParliament", "falls", "(I)I"⟩, prog_1_method_20_code, 3, (Option.some Jvm.ClassFile.FieldType.int), 11, 11),
  (⟨"IceParliament$State", "fallsIn", "(III)I"⟩, prog_8_method_20_code, 4, (Option.some Jvm.ClassFile.FieldType.int), 6, 6),
  (⟨"IceParliament$Yard", "fallsIn", "(IIIIII)I"⟩, prog_11_method_11_code, 9, (Option.some Jvm.ClassFile.FieldType.int), 9, 9),
  (⟨"IceParliament", "clashes", "()I"⟩, prog_1_method_21_code, 1, (Option.some Jvm.ClassFile.FieldType.int), 11, 11),
  (⟨"IceParliament$Yard", "clashesIn", "(I)I"⟩, prog_11_method_13_code, 4, (Option.some Jvm.ClassFile.FieldType.int), 9, 9),
  (⟨"IceParliament", "mend", "(I)I"⟩, prog_1_method_22_code, 3, (Option.some Jvm.ClassFile.FieldType.int), 11, 11),
  (⟨"IceParliament$Planner", "leastToLetGo", "()I"⟩, prog_5_method_2_code, 5, (Option.some Jvm.ClassFile.FieldType.int), 3, 3),
  (⟨"IceParliament", "work", "(II)I"⟩, prog_1_method_23_code, 4, (Option.some Jvm.ClassFile.FieldType.int), 11, 11),
  (⟨"IceParliament$Planner", "shareWork", "(I)I"⟩, prog_5_method_3_code, 6, (Option.some Jvm.ClassFile.FieldType.int), 3, 3),
  (⟨"IceParliament$Planner", "callWorkers", "()V"⟩, prog_5_method_4_code, 2, (Option.none : Option Jvm.ClassFile.FieldType), 3, 3),
  (⟨"IceParliament$Planner", "listStanding", "()V"⟩, prog_5_method_5_code, 2, (Option.none : Option Jvm.ClassFile.FieldType), 3, 3),
  (⟨"IceParliament$Planner", "worthByCrew", "(III)I"⟩, prog_5_method_6_code, 9, (Option.some Jvm.ClassFile.FieldType.int), 3, 3),
  (⟨"IceParliament$Planner", "canWork", "(II)Z"⟩, prog_5_method_7_code, 4, (Option.some Jvm.ClassFile.FieldType.boolean), 3, 3),
  (⟨"IceParliament$Planner", "howManyRows", "()I"⟩, prog_5_method_8_code, 3, (Option.some Jvm.ClassFile.FieldType.int), 3, 3),
  (⟨"IceParliament$Planner", "worthOfRow", "()I"⟩, prog_5_method_9_code, 3, (Option.some Jvm.ClassFile.FieldType.int), 3, 3),
  (⟨"IceParliament$Planner", "keepRow", "()V"⟩, prog_5_method_10_code, 2, (Option.none : Option Jvm.ClassFile.FieldType), 3, 3),
  (⟨"IceParliament$Planner", "stepRow", "()V"⟩, prog_5_method_11_code, 2, (Option.none : Option Jvm.ClassFile.FieldType), 3, 3),
  (⟨"IceParliament", "places", "(I)I"⟩, prog_1_method_24_code, 3, (Option.some Jvm.ClassFile.FieldType.int), 11, 11),
  (⟨"IceParliament$Planner", "findPlaces", "()I"⟩, prog_5_method_12_code, 3, (Option.some Jvm.ClassFile.FieldType.int), 3, 3),
  (⟨"IceParliament$Planner", "fillGains", "()V"⟩, prog_5_method_14_code, 3, (Option.none : Option Jvm.ClassFile.FieldType), 3, 3),
  (⟨"IceParliament$Planner", "fillBest", "()V"⟩, prog_5_method_15_code, 6, (Option.none : Option Jvm.ClassFile.FieldType), 3, 3),
  (⟨"IceParliament$Planner", "firstPlace", "(II)I"⟩, prog_5_method_13_code, 4, (Option.some Jvm.ClassFile.FieldType.int), 3, 3),
  (⟨"IceParliament", "thin", "(III)I"⟩, prog_1_method_25_code, 5, (Option.some Jvm.ClassFile.FieldType.int), 11, 11),
  (⟨"IceParliament", "stands", "(II)I"⟩, prog_1_method_26_code, 3, (Option.some Jvm.ClassFile.FieldType.int), 11, 11),
  (⟨"IceParliament$Planner", "chanceToStand", "(II)I"⟩, prog_5_method_16_code, 8, (Option.some Jvm.ClassFile.FieldType.int), 3, 3),
  (⟨"java/util/Arrays", "fill", "([JJ)V"⟩, prog_30_method_101_code, 5, (Option.none : Option Jvm.ClassFile.FieldType), 18, 99),
  (⟨"IceParliament$Planner", "spreadOdds", "(III)V"⟩, prog_5_method_17_code, 6, (Option.none : Option Jvm.ClassFile.FieldType), 3, 3),
  (⟨"IceParliament", "propped", "(I)I"⟩, prog_1_method_27_code, 2, (Option.some Jvm.ClassFile.FieldType.int), 11, 11),
  (⟨"IceParliament$Planner", "bestToProp", "(I)I"⟩, prog_5_method_18_code, 6, (Option.some Jvm.ClassFile.FieldType.int), 3, 3),
  (⟨"IceParliament$Planner", "worthBehind", "(III)I"⟩, prog_5_method_19_code, 4, (Option.some Jvm.ClassFile.FieldType.int), 3, 3),
  (⟨"IceParliament", "tell", "(II)Z"⟩, prog_1_method_28_code, 3, (Option.some Jvm.ClassFile.FieldType.boolean), 11, 11),
  (⟨"IceParliament", "sets", "(I)I"⟩, prog_1_method_29_code, 2, (Option.some Jvm.ClassFile.FieldType.int), 11, 11),
  (⟨"IceParliament$Breath", "findSets", "()V"⟩, prog_2_method_2_code, 3, (Option.none : Option Jvm.ClassFile.FieldType), 0, 0),
  (⟨"IceParliament$Breath", "foresee", "()V"⟩, prog_2_method_3_code, 3, (Option.none : Option Jvm.ClassFile.FieldType), 0, 0),
  (⟨"IceParliament$Breath", "isAsTold", "(I)Z"⟩, prog_2_method_5_code, 3, (Option.some Jvm.ClassFile.FieldType.boolean), 0, 0),
  (⟨"IceParliament$Breath", "feetBy", "(II)I"⟩, prog_2_method_4_code, 3, (Option.some Jvm.ClassFile.FieldType.int), 0, 0),
  (⟨"IceParliament$Breath", "inAll", "()I"⟩, prog_2_method_6_code, 3, (Option.some Jvm.ClassFile.FieldType.int), 0, 0),
  (⟨"IceParliament$Breath", "inSome", "()I"⟩, prog_2_method_7_code, 3, (Option.some Jvm.ClassFile.FieldType.int), 0, 0),
  (⟨"IceParliament", "look", "()I"⟩, prog_1_method_30_code, 1, (Option.some Jvm.ClassFile.FieldType.int), 11, 11),
  (⟨"IceParliament$Breath", "bestToLookAt", "()I"⟩, prog_2_method_8_code, 5, (Option.some Jvm.ClassFile.FieldType.int), 0, 0),
  (⟨"IceParliament$Breath", "greatestAlike", "(I)I"⟩, prog_2_method_9_code, 5, (Option.some Jvm.ClassFile.FieldType.int), 0, 0),
  (⟨"IceParliament", "rests", "(IIII)I"⟩, prog_1_method_31_code, 7, (Option.some Jvm.ClassFile.FieldType.int), 11, 11),
  (⟨"IceParliament", "isDigit", "(I)Z"⟩, prog_1_method_34_code, 1, (Option.some Jvm.ClassFile.FieldType.boolean), 11, 99),
  (⟨"IceParliament", "isRest", "(IIII)Z"⟩, prog_1_method_32_code, 6, (Option.some Jvm.ClassFile.FieldType.boolean), 11, 99),
  (⟨"IceParliament", "gets", "(IIIII)I"⟩, prog_1_method_33_code, 5, (Option.some Jvm.ClassFile.FieldType.int), 11, 99),
  (⟨"IceParliamentModel", "thrown", "()I"⟩, prog_14_method_1_code, 1, (Option.some Jvm.ClassFile.FieldType.int), 12, 12),
  (⟨"IceParliamentModel", "feed", "(JJJ)I"⟩, prog_14_method_2_code, 7, (Option.some Jvm.ClassFile.FieldType.int), 12, 12),
  (⟨"IceParliamentModel", "lay", "(J)V"⟩, prog_14_method_3_code, 5, (Option.none : Option Jvm.ClassFile.FieldType), 12, 12),
  (⟨"IceParliamentModel", "standsAsAlways", "(I)V"⟩, prog_14_method_18_code, 3, (Option.none : Option Jvm.ClassFile.FieldType), 12, 12),
  (⟨"IceParliamentModel", "begins", "()V"⟩, prog_14_method_47_code, 2, (Option.none : Option Jvm.ClassFile.FieldType), 12, 12),
  (⟨"IceParliamentModel", "starts", "(I)V"⟩, prog_14_method_46_code, 3, (Option.none : Option Jvm.ClassFile.FieldType), 12, 12),
  (⟨"IceParliamentModel", "acts", "()I"⟩, prog_14_method_51_code, 1, (Option.some Jvm.ClassFile.FieldType.int), 12, 12),
  (⟨"IceParliamentModel", "actOf", "(II)I"⟩, prog_14_method_52_code, 3, (Option.some Jvm.ClassFile.FieldType.int), 12, 12),
  (⟨"IceParliamentModel", "yard", "()I"⟩, prog_14_method_27_code, 2, (Option.some Jvm.ClassFile.FieldType.int), 12, 12),
  (⟨"IceParliamentModel", "cutAll", "()V"⟩, prog_14_method_9_code, 7, (Option.none : Option Jvm.ClassFile.FieldType), 12, 12),
  (⟨"IceParliamentModel", "isLetter", "(I)Z"⟩, prog_14_method_5_code, 1, (Option.some Jvm.ClassFile.FieldType.boolean), 12, 99),
  (⟨"IceParliamentModel", "rank", "(I)I"⟩, prog_14_method_7_code, 1, (Option.some Jvm.ClassFile.FieldType.int), 12, 99),
  (⟨"IceParliamentModel", "isDigit", "(I)Z"⟩, prog_14_method_6_code, 1, (Option.some Jvm.ClassFile.FieldType.boolean), 12, 99),
  (⟨"IceParliamentModel", "isSignOf", "(I)Z"⟩, prog_14_method_8_code, 1, (Option.some Jvm.ClassFile.FieldType.boolean), 12, 99),
  (⟨"IceParliamentModel", "readLine", "()V"⟩, prog_14_method_28_code, 1, (Option.none : Option Jvm.ClassFile.FieldType), 12, 12),
  (⟨"IceParliamentModel", "isWord", "(I)Z"⟩, prog_14_method_12_code, 2, (Option.some Jvm.ClassFile.FieldType.boolean), 12, 12),
  (⟨"IceParliamentModel", "readSpot", "()V"⟩, prog_14_method_30_code, 2, (Option.none : Option Jvm.ClassFile.FieldType), 12, 12),
  (⟨"IceParliamentModel", "wrong", "(I)V"⟩, prog_14_method_10_code, 2, (Option.none : Option Jvm.ClassFile.FieldType), 12, 12),
  (⟨"IceParliamentModel", "readName", "(I)V"⟩, prog_14_method_29_code, 2, (Option.none : Option Jvm.ClassFile.FieldType), 12, 12),
  (⟨"IceParliamentModel", "isName", "()Z"⟩, prog_14_method_23_code, 1, (Option.some Jvm.ClassFile.FieldType.boolean), 12, 12),
  (⟨"IceParliamentModel", "wordHere", "(II)I"⟩, prog_14_method_21_code, 5, (Option.some Jvm.ClassFile.FieldType.int), 12, 12),
  (⟨"IceParliamentModel", "find", "(Z)I"⟩, prog_14_method_24_code, 3, (Option.some Jvm.ClassFile.FieldType.int), 12, 12),
  (⟨"IceParliamentModel", "takeAfter", "(III)I"⟩, prog_14_method_20_code, 4, (Option.some Jvm.ClassFile.FieldType.int), 12, 12),
  (⟨"IceParliamentModel", "takeWord", "(I)V"⟩, prog_14_method_16_code, 2, (Option.none : Option Jvm.ClassFile.FieldType), 12, 12),
  (⟨"IceParliamentModel", "hasWord", "(I)Z"⟩, prog_14_method_15_code, 3, (Option.some Jvm.ClassFile.FieldType.boolean), 12, 12),
  (⟨"IceParliamentModel", "takeNumber", "(II)I"⟩, prog_14_method_19_code, 3, (Option.some Jvm.ClassFile.FieldType.int), 12, 12),
  (⟨"IceParliamentModel", "readCarver", "()V"⟩, prog_14_method_31_code, 2, (Option.none : Option Jvm.ClassFile.FieldType), 12, 12),
  (⟨"IceParliamentModel", "takeOne", "(II)I"⟩, prog_14_method_22_code, 4, (Option.some Jvm.ClassFile.FieldType.int), 12, 12),
  (⟨"IceParliamentModel", "readAct", "()V"⟩, prog_14_method_32_code, 3, (Option.none : Option Jvm.ClassFile.FieldType), 12, 12),
  (⟨"IceParliamentModel", "takeTold", "(ZI)I"⟩, prog_14_method_26_code, 4, (Option.some Jvm.ClassFile.FieldType.int), 12, 12),
  (⟨"IceParliamentModel", "toldHere", "(ZI)I"⟩, prog_14_method_25_code, 4, (Option.some Jvm.ClassFile.FieldType.int), 12, 12),
  (⟨"IceParliamentModel", "within", "(III)Z"⟩, prog_14_method_17_code, 3, (Option.some Jvm.ClassFile.FieldType.boolean), 12, 99),
  (⟨"IceParliamentModel", "readClash", "()V"⟩, prog_14_method_33_code, 3, (Option.none : Option Jvm.ClassFile.FieldType), 12, 12),
  (⟨"IceParliamentModel", "readOnce", "()V"⟩, prog_14_method_34_code, 2, (Option.none : Option Jvm.ClassFile.FieldType), 12, 12),
  (⟨"IceParliamentModel", "readNights", "()V"⟩, prog_14_method_35_code, 3, (Option.none : Option Jvm.ClassFile.FieldType), 12, 12),
  (⟨"IceParliamentModel", "all", "(I)V"⟩, prog_14_method_38_code, 3, (Option.none : Option Jvm.ClassFile.FieldType), 12, 12),
  (⟨"IceParliamentModel", "test", "(I)V"⟩, prog_14_method_39_code, 3, (Option.none : Option Jvm.ClassFile.FieldType), 12, 12),
  (⟨"IceParliamentModel", "sums", "(I)V"⟩, prog_14_method_40_code, 3, (Option.none : Option Jvm.ClassFile.FieldType), 12, 12),
  (⟨"IceParliamentModel", "products", "(I)V"⟩, prog_14_method_41_code, 2, (Option.none : Option Jvm.ClassFile.FieldType), 12, 12),
  (⟨"IceParliamentModel", "takePart", "(I)V"⟩, prog_14_method_42_code, 4, (Option.none : Option Jvm.ClassFile.FieldType), 12, 12),
  (⟨"IceParliamentModel", "isSign", "(I)Z"⟩, prog_14_method_11_code, 2, (Option.some Jvm.ClassFile.FieldType.boolean), 12, 12),
  (⟨"IceParliamentModel", "emit", "(II)V"⟩, prog_14_method_37_code, 3, (Option.none : Option Jvm.ClassFile.FieldType), 12, 12),
  (⟨"IceParliamentModel", "hasSign", "(I)Z"⟩, prog_14_method_14_code, 3, (Option.some Jvm.ClassFile.FieldType.boolean), 12, 12),
  (⟨"IceParliamentModel", "takeSign", "(I)V"⟩, prog_14_method_13_code, 2, (Option.none : Option Jvm.ClassFile.FieldType), 12, 12),
  (⟨"IceParliamentModel", "session", "()I"⟩, prog_14_method_36_code, 3, (Option.some Jvm.ClassFile.FieldType.int), 12, 12),
  (⟨"IceParliamentModel", "act", "(II)I"⟩, prog_14_method_66_code, 4, (Option.some Jvm.ClassFile.FieldType.int), 12, 12),
  (⟨"IceParliamentModel", "isAct", "(I)Z"⟩, prog_14_method_53_code, 2, (Option.some Jvm.ClassFile.FieldType.boolean), 12, 12),
  (⟨"IceParliamentModel", "stood", "(II)Z"⟩, prog_14_method_56_code, 3, (Option.some Jvm.ClassFile.FieldType.boolean), 12, 12),
  (⟨"IceParliamentModel", "needs", "(I)I"⟩, prog_14_method_57_code, 3, (Option.some Jvm.ClassFile.FieldType.int), 12, 12),
  (⟨"IceParliamentModel", "inForce", "(II)Z"⟩, prog_14_method_58_code, 3, (Option.some Jvm.ClassFile.FieldType.boolean), 12, 12),
  (⟨"IceParliamentModel", "meltsNow", "(IIZ)I"⟩, prog_14_method_63_code, 5, (Option.some Jvm.ClassFile.FieldType.int), 12, 12),
  (⟨"IceParliamentModel", "meltOf", "(IIIIZ)I"⟩, prog_14_method_62_code, 8, (Option.some Jvm.ClassFile.FieldType.int), 12, 12),
  (⟨"IceParliamentModel", "warmthOf", "(IZ)I"⟩, prog_14_method_61_code, 3, (Option.some Jvm.ClassFile.FieldType.int), 12, 12),
  (⟨"IceParliamentModel", "worthAt", "(I)I"⟩, prog_14_method_43_code, 5, (Option.some Jvm.ClassFile.FieldType.int), 12, 12),
  (⟨"IceParliamentModel", "both", "(III)I"⟩, prog_14_method_44_code, 3, (Option.some Jvm.ClassFile.FieldType.int), 12, 99),
  (⟨"IceParliamentModel", "carver", "(II)I"⟩, prog_14_method_67_code, 3, (Option.some Jvm.ClassFile.FieldType.int), 12, 12),
  (⟨"IceParliamentModel", "isCarver", "(I)Z"⟩, prog_14_method_55_code, 2, (Option.some Jvm.ClassFile.FieldType.boolean), 12, 12),
  (⟨"IceParliamentModel", "carvers", "()I"⟩, prog_14_method_50_code, 1, (Option.some Jvm.ClassFile.FieldType.int), 12, 12),
  (⟨"IceParliamentModel", "force", "()I"⟩, prog_14_method_68_code, 1, (Option.some Jvm.ClassFile.FieldType.int), 12, 12),
  (⟨"IceParliamentModel", "forceOf", "(I)I"⟩, prog_14_method_59_code, 4, (Option.some Jvm.ClassFile.FieldType.int), 12, 12),
  (⟨"IceParliamentModel", "side", "(I)I"⟩, prog_14_method_69_code, 4, (Option.some Jvm.ClassFile.FieldType.int), 12, 12),
  (⟨"IceParliamentModel", "worthOf", "(I)I"⟩, prog_14_method_60_code, 4, (Option.some Jvm.ClassFile.FieldType.int), 12, 12),
  (⟨"IceParliamentModel", "begin", "(II)Z"⟩, prog_14_method_77_code, 3, (Option.some Jvm.ClassFile.FieldType.boolean), 12, 12),
  (⟨"IceParliamentModel", "isSpot", "(I)Z"⟩, prog_14_method_54_code, 2, (Option.some Jvm.ClassFile.FieldType.boolean), 12, 12),
  (⟨"IceParliamentModel", "spots", "()I"⟩, prog_14_method_49_code, 1, (Option.some Jvm.ClassFile.FieldType.int), 12, 12),
  (⟨"IceParliamentModel", "mayBegin", "(III)Z"⟩, prog_14_method_71_code, 4, (Option.some Jvm.ClassFile.FieldType.boolean), 12, 12),
  (⟨"IceParliamentModel", "isFree", "(II)Z"⟩, prog_14_method_70_code, 5, (Option.some Jvm.ClassFile.FieldType.boolean), 12, 12),
  (⟨"IceParliamentModel", "keeps", "()V"⟩, prog_14_method_48_code, 2, (Option.none : Option Jvm.ClassFile.FieldType), 12, 12),
  (⟨"IceParliamentModel", "copies", "(II)V"⟩, prog_14_method_45_code, 4, (Option.none : Option Jvm.ClassFile.FieldType), 12, 12),
  (⟨"IceParliamentModel", "puts", "(III)V"⟩, prog_14_method_72_code, 4, (Option.none : Option Jvm.ClassFile.FieldType), 12, 12),
  (⟨"IceParliamentModel", "carve", "(II)I"⟩, prog_14_method_78_code, 3, (Option.some Jvm.ClassFile.FieldType.int), 12, 12),
  (⟨"IceParliamentModel", "mayCarve", "(III)Z"⟩, prog_14_method_73_code, 5, (Option.some Jvm.ClassFile.FieldType.boolean), 12, 12),
  (⟨"IceParliamentModel", "chips", "(III)I"⟩, prog_14_method_74_code, 5, (Option.some Jvm.ClassFile.FieldType.int), 12, 12),
  (⟨"IceParliamentModel", "prop", "(I)I"⟩, prog_14_method_79_code, 2, (Option.some Jvm.ClassFile.FieldType.int), 12, 12),
  (⟨"IceParliamentModel", "mayProp", "(II)Z"⟩, prog_14_method_75_code, 3, (Option.some Jvm.ClassFile.FieldType.boolean), 12, 12),
  (⟨"IceParliamentModel", "torch", "(I)I"⟩, prog_14_method_80_code, 2, (Option.some Jvm.ClassFile.FieldType.int), 12, 12),
  (⟨"IceParliamentModel", "burns", "(II)I"⟩, prog_14_method_76_code, 3, (Option.some Jvm.ClassFile.FieldType.int), 12, 12),
  (⟨"IceParliamentModel", "night", "()I"⟩, prog_14_method_81_code, 1, (Option.some Jvm.ClassFile.FieldType.int), 12, 12),
  (⟨"IceParliamentModel", "passes", "(IZ)I"⟩, prog_14_method_65_code, 6, (Option.some Jvm.ClassFile.FieldType.int), 12, 12),
  (⟨"IceParliamentModel", "tallThen", "(IIZ)I"⟩, prog_14_method_64_code, 5, (Option.some Jvm.ClassFile.FieldType.int), 12, 12),
  (⟨"IceParliamentModel", "undo", "()Z"⟩, prog_14_method_82_code, 1, (Option.some Jvm.ClassFile.FieldType.boolean), 12, 12),
  (⟨"IceParliamentModel", "judged", "(I)I"⟩, prog_14_method_84_code, 7, (Option.some Jvm.ClassFile.FieldType.int), 12, 12),
  (⟨"IceParliamentModel", "does", "(III)Z"⟩, prog_14_method_83_code, 5, (Option.some Jvm.ClassFile.FieldType.boolean), 12, 12),
  (⟨"IceParliamentModel", "falls", "(I)I"⟩, prog_14_method_85_code, 3, (Option.some Jvm.ClassFile.FieldType.int), 12, 12),
  (⟨"IceParliamentModel", "clashes", "()I"⟩, prog_14_method_87_code, 1, (Option.some Jvm.ClassFile.FieldType.int), 12, 12),
  (⟨"IceParliamentModel", "clashesIn", "(I)I"⟩, prog_14_method_86_code, 5, (Option.some Jvm.ClassFile.FieldType.int), 12, 12),
  (⟨"IceParliamentModel", "mend", "(I)I"⟩, prog_14_method_88_code, 6, (Option.some Jvm.ClassFile.FieldType.int), 12, 12),
  (⟨"IceParliamentModel", "work", "(II)I"⟩, prog_14_method_92_code, 5, (Option.some Jvm.ClassFile.FieldType.int), 12, 12),
  (⟨"IceParliamentModel", "findTakers", "()V"⟩, prog_14_method_89_code, 2, (Option.none : Option Jvm.ClassFile.FieldType), 12, 12),
  (⟨"IceParliamentModel", "works", "(II)V"⟩, prog_14_method_91_code, 4, (Option.none : Option Jvm.ClassFile.FieldType), 12, 12),
  (⟨"IceParliamentModel", "worksBy", "(I)V"⟩, prog_14_method_90_code, 4, (Option.none : Option Jvm.ClassFile.FieldType), 12, 12),
  (⟨"IceParliamentModel", "places", "(I)I"⟩, prog_14_method_95_code, 6, (Option.some Jvm.ClassFile.FieldType.int), 12, 12),
  (⟨"IceParliamentModel", "nightsAt", "(III)I"⟩, prog_14_method_93_code, 6, (Option.some Jvm.ClassFile.FieldType.int), 12, 12),
  (⟨"IceParliamentModel", "laysPlaces", "(IIII)V"⟩, prog_14_method_94_code, 6, (Option.none : Option Jvm.ClassFile.FieldType), 12, 12),
  (⟨"IceParliamentModel", "thin", "(III)I"⟩, prog_14_method_96_code, 5, (Option.some Jvm.ClassFile.FieldType.int), 12, 12),
  (⟨"IceParliamentModel", "stands", "(II)I"⟩, prog_14_method_98_code, 6, (Option.some Jvm.ClassFile.FieldType.int), 12, 12),
  (⟨"IceParliamentModel", "standing", "(IIIIII)J"⟩, prog_14_method_97_code, 12, (Option.some Jvm.ClassFile.FieldType.long), 12, 12),
  (⟨"IceParliamentModel", "propped", "(I)I"⟩, prog_14_method_100_code, 6, (Option.some Jvm.ClassFile.FieldType.int), 12, 12),
  (⟨"IceParliamentModel", "worthBehind", "(II)I"⟩, prog_14_method_99_code, 4, (Option.some Jvm.ClassFile.FieldType.int), 12, 12),
  (⟨"IceParliamentModel", "tell", "(II)Z"⟩, prog_14_method_104_code, 3, (Option.some Jvm.ClassFile.FieldType.boolean), 12, 12),
  (⟨"IceParliamentModel", "sets", "(I)I"⟩, prog_14_method_105_code, 6, (Option.some Jvm.ClassFile.FieldType.int), 12, 12),
  (⟨"IceParliamentModel", "fitsTold", "(I)Z"⟩, prog_14_method_103_code, 4, (Option.some Jvm.ClassFile.FieldType.boolean), 12, 12),
  (⟨"IceParliamentModel", "carvedSet", "()I"⟩, prog_14_method_101_code, 3, (Option.some Jvm.ClassFile.FieldType.int), 12, 12),
  (⟨"IceParliamentModel", "tallBy", "(II)I"⟩, prog_14_method_102_code, 5, (Option.some Jvm.ClassFile.FieldType.int), 12, 12),
  (⟨"IceParliamentModel", "look", "()I"⟩, prog_14_method_107_code, 5, (Option.some Jvm.ClassFile.FieldType.int), 12, 12),
  (⟨"IceParliamentModel", "greatestAt", "(I)I"⟩, prog_14_method_106_code, 5, (Option.some Jvm.ClassFile.FieldType.int), 12, 12),
  (⟨"IceParliamentModel", "rests", "(IIII)I"⟩, prog_14_method_109_code, 12, (Option.some Jvm.ClassFile.FieldType.int), 12, 12),
  (⟨"IceParliamentModel", "burnsFor", "(IIIII)I"⟩, prog_14_method_108_code, 5, (Option.some Jvm.ClassFile.FieldType.int), 12, 99),
  (⟨"IceParliamentModel", "decades", "(III)I"⟩, prog_14_method_112_code, 8, (Option.some Jvm.ClassFile.FieldType.int), 12, 12),
  (⟨"IceParliamentModel", "drawsNight", "()I"⟩, prog_14_method_111_code, 3, (Option.some Jvm.ClassFile.FieldType.int), 12, 12),
  (⟨"IceParliamentModel", "draw", "(I)I"⟩, prog_14_method_110_code, 2, (Option.some Jvm.ClassFile.FieldType.int), 12, 12),
  (⟨"IceParliamentModel", "mark", "(IZ)Z"⟩, prog_14_method_113_code, 3, (Option.some Jvm.ClassFile.FieldType.boolean), 12, 12),
  (⟨"IceParliamentModel", "count", "(I)I"⟩, prog_14_method_116_code, 2, (Option.some Jvm.ClassFile.FieldType.int), 12, 12),
  (⟨"IceParliamentModel", "howMany", "(I)I"⟩, prog_14_method_114_code, 4, (Option.some Jvm.ClassFile.FieldType.int), 12, 12),
  (⟨"IceParliamentModel", "toldMany", "()I"⟩, prog_14_method_115_code, 3, (Option.some Jvm.ClassFile.FieldType.int), 12, 12)]
def codT (x : Nat) : List (Nat × Ent) := codL.getD x []
def mdT (x : Nat) : Option MD := mdL[x]?
def fT : List (Nat × Nat × Nat × Nat × Nat) := [(0, 9, 0, 3, 579), (0, 15, 0, 4, 580), (0, 18, 0, 5, 581), (0, 21, 0, 6, 582), (0, 24, 0, 1, 577), (0, 28, 0, 2, 578), (0, 35, 9, 1, 283), (0, 41, 4, 0, 222), (0, 47, 6, 5, 475), (0, 52, 0, 0, 575), (0, 57, 9, 2, 290), (0, 63, 6, 1, 461), (0, 81, 6, 6, 479), (1, 9, 1, 1, 244), (1, 15, 1, 3, 246), (1, 18, 1, 2, 245), (1, 22, 1, 0, 243), (2, 9, 2, 1, 388), (2, 15, 2, 0, 387), (2, 19, 2, 4, 391), (2, 23, 1, 0, 242), (2, 35, 2, 5, 392), (2, 44, 2, 2, 389), (2, 48, 2, 3, 390), (2, 88, 7, 2, 178), (3, 11, 3, 0, 521), (3, 15, 3, 1, 523), (3, 18, 3, 4, 527), (3, 21, 3, 6, 529), (3, 26, 3, 8, 531), (3, 29, 3, 9, 532), (3, 32, 3, 10, 533), (3, 35, 3, 11, 534), (3, 38, 3, 12, 535), (3, 41, 3, 13, 536), (3, 45, 3, 14, 537), (3, 48, 3, 2, 525), (3, 52, 3, 3, 526), (3, 77, 3, 7, 530), (3, 81, 3, 5, 528), (3, 106, 9, 1, 284), (3, 110, 4, 0, 224), (3, 115, 6, 9, 485), (3, 122, 9, 2, 291), (3, 129, 6, 1, 463), (3, 132, 6, 2, 466), (3, 144, 6, 4, 473), (3, 147, 6, 3, 470), (3, 150, 6, 0, 458), (3, 160, 9, 9, 316), (3, 163, 6, 5, 477), (3, 166, 9, 10, 319), (3, 182, 9, 0, 281), (3, 188, 9, 7, 311), (3, 201, 9, 15, 333), (4, 9, 4, 1, 229), (4, 15, 4, 0, 221), (5, 11, 5, 0, 425), (5, 15, 5, 1, 427), (5, 18, 5, 2, 429), (5, 21, 5, 3, 431), (5, 47, 7, 1, 176), (5, 83, 9, 1, 286), (5, 89, 9, 2, 294), (5, 96, 7, 3, 181), (5, 99, 9, 0, 279), (6, 9, 6, 1, 460), (6, 15, 6, 2, 464), (6, 18, 6, 3, 467), (6, 21, 6, 4, 471), (6, 24, 6, 5, 474), (6, 27, 6, 6, 478), (6, 30, 6, 10, 488), (6, 37, 6, 0, 457), (6, 41, 9, 7, 309), (6, 56, 6, 7, 481), (6, 59, 6, 8, 482), (6, 62, 6, 9, 484), (6, 84, 9, 2, 295), (6, 88, 4, 0, 226), (6, 132, 9, 10, 322), (7, 11, 7, 4, 184), (7, 15, 7, 0, 174), (7, 19, 7, 7, 187), (7, 25, 7, 6, 186), (7, 28, 7, 5, 185), (7, 45, 7, 8, 188), (7, 51, 7, 2, 179), (7, 64, 7, 1, 177), (7, 106, 7, 3, 183), (8, 9, 8, 5, 616), (8, 20, 8, 6, 617), (8, 27, 8, 0, 606), (8, 31, 8, 1, 608), (8, 34, 5, 3, 432), (8, 39, 5, 0, 426), (8, 43, 5, 1, 428), (8, 46, 5, 2, 430), (8, 60, 8, 2, 610), (8, 74, 6, 3, 468), (8, 105, 8, 7, 618), (8, 109, 8, 3, 612), (8, 118, 9, 15, 331), (8, 123, 6, 9, 487), (8, 131, 8, 4, 614), (8, 132, 9, 2, 293), (8, 136, 4, 0, 225), (8, 139, 9, 0, 278), (8, 142, 9, 1, 287), (9, 12, 9, 0, 276), (9, 18, 9, 1, 282), (9, 21, 9, 2, 289), (9, 24, 9, 3, 297), (9, 28, 9, 4, 299), (9, 31, 9, 5, 302), (9, 34, 9, 6, 305), (9, 37, 9, 7, 308), (9, 40, 9, 8, 312), (9, 43, 9, 9, 314), (9, 46, 9, 10, 318), (9, 49, 9, 11, 323), (9, 52, 9, 13, 327), (9, 58, 9, 16, 335), (9, 62, 9, 17, 336), (9, 75, 9, 12, 325), (9, 79, 9, 14, 328), (9, 82, 9, 15, 330), (9, 131, 4, 0, 228), (10, 9, 10, 0, 406), (10, 15, 10, 1, 407), (10, 21, 9, 16, 334), (10, 30, 10, 2, 408), (10, 37, 10, 3, 409), (10, 53, 7, 1, 175), (10, 98, 9, 17, 337), (10, 104, 9, 0, 277), (10, 108, 4, 0, 223), (10, 119, 9, 3, 298), (10, 130, 9, 1, 285), (10, 138, 9, 5, 303), (10, 140, 9, 2, 292), (10, 148, 9, 7, 310), (10, 152, 9, 8, 313), (10, 156, 9, 9, 315), (10, 180, 9, 4, 301), (10, 185, 9, 6, 307), (10, 197, 9, 10, 321), (10, 200, 7, 3, 182), (10, 206, 9, 11, 324), (10, 217, 9, 14, 329), (10, 225, 7, 2, 180), (10, 232, 9, 15, 332), (11, 12, 11, 0, 636), (11, 19, 11, 1, 637), (11, 23, 11, 2, 638), (11, 31, 11, 3, 639), (11, 38, 11, 4, 640), (11, 42, 11, 5, 641), (11, 50, 11, 6, 642), (11, 54, 11, 7, 643), (11, 58, 11, 9, 645), (11, 66, 11, 11, 647), (11, 73, 11, 12, 648), (11, 80, 11, 13, 649), (11, 88, 7, 0, 173), (11, 104, 11, 8, 644), (11, 107, 11, 10, 646), (11, 120, 9, 6, 306), (11, 124, 6, 1, 462), (11, 127, 6, 2, 465), (11, 134, 6, 4, 472), (11, 137, 6, 3, 469), (11, 143, 6, 8, 483), (11, 160, 9, 4, 300), (11, 163, 9, 5, 304), (11, 166, 6, 5, 476), (11, 169, 6, 9, 486), (11, 175, 9, 2, 296), (11, 179, 4, 0, 227), (11, 182, 9, 10, 320), (11, 185, 9, 9, 317), (11, 188, 9, 0, 280), (11, 191, 9, 1, 288), (11, 194, 9, 12, 326), (11, 197, 6, 0, 459), (11, 209, 5, 3, 433), (11, 248, 8, 0, 607), (11, 251, 8, 1, 609), (11, 254, 8, 2, 611), (11, 260, 8, 3, 613), (11, 263, 8, 4, 615), (11, 280, 3, 0, 522), (11, 286, 3, 1, 524), (11, 298, 6, 6, 480), (11, 304, 0, 0, 576), (12, 1, 12, 0, 1680), (12, 11, 12, 2, 1682), (12, 14, 12, 1, 1681), (12, 24, 12, 4, 1684), (12, 27, 12, 5, 1685), (12, 30, 12, 6, 1686), (12, 100, 12, 9, 1689), (12, 103, 12, 10, 1690), (12, 106, 12, 11, 1691), (12, 109, 12, 12, 1692), (12, 112, 12, 14, 1694), (12, 115, 12, 15, 1695), (12, 118, 12, 16, 1696), (12, 121, 12, 17, 1697), (12, 124, 12, 22, 1702), (12, 127, 12, 23, 1703), (12, 130, 12, 24, 1704), (12, 133, 12, 25, 1705), (12, 136, 12, 27, 1707), (12, 140, 12, 28, 1708), (12, 143, 12, 29, 1709), (12, 146, 12, 30, 1710), (12, 149, 12, 33, 1713), (12, 152, 12, 34, 1714), (12, 155, 12, 35, 1715), (12, 158, 12, 38, 1718), (12, 172, 12, 3, 1683), (12, 191, 12, 7, 1687), (12, 194, 12, 8, 1688), (12, 219, 12, 19, 1699), (12, 222, 12, 18, 1698), (12, 244, 12, 13, 1693), (12, 247, 12, 20, 1700), (12, 287, 12, 21, 1701), (12, 325, 12, 26, 1706), (12, 414, 12, 31, 1711), (12, 417, 12, 32, 1712), (12, 429, 12, 37, 1717), (12, 432, 12, 36, 1716), (12, 467, 12, 39, 1719), (13, 9, 40, 0, 2250), (13, 15, 40, 1, 2249)]
def gT : List (Nat × Nat × Nat × Nat) := [(13, 38, 0, 726), (13, 1053, 1, 769)]
def mT : List (Nat × Nat × Nat × Nat) := [(0, 32, 179, 1493), (0, 53, 180, 1500), (0, 60, 97, 1497), (0, 66, 100, 1498), (0, 70, 21, 1499), (0, 75, 145, 1508), (0, 84, 181, 1504), (0, 87, 178, 1525), (0, 90, 186, 1526), (0, 93, 2, 1530), (1, 32, 105, 1149), (1, 36, 106, 1152), (2, 31, 45, 975), (2, 38, 3, 976), (2, 41, 11, 977), (2, 51, 71, 978), (2, 55, 73, 989), (2, 58, 76, 1008), (2, 61, 79, 1019), (2, 65, 80, 1025), (2, 68, 81, 1030), (2, 73, 35, 983), (2, 77, 55, 984), (2, 81, 72, 985), (2, 85, 67, 993), (2, 91, 74, 994), (2, 94, 4, 1003), (2, 97, 75, 1004), (2, 110, 77, 1012), (2, 117, 78, 1016), (2, 121, 54, 1029), (3, 56, 110, 1368), (3, 62, 114, 1369), (3, 68, 150, 1370), (3, 71, 155, 1380), (3, 74, 156, 1385), (3, 84, 157, 1390), (3, 88, 2, 1403), (3, 94, 159, 1404), (3, 97, 160, 1408), (3, 100, 161, 1412), (3, 103, 162, 1416), (3, 125, 97, 1389), (3, 135, 95, 1394), (3, 138, 158, 1395), (3, 141, 126, 1400), (3, 153, 101, 1401), (3, 156, 103, 1402), (3, 169, 100, 1399), (3, 173, 165, 1428), (3, 176, 166, 1434), (3, 179, 167, 1439), (3, 185, 118, 1432), (3, 189, 148, 1433), (3, 193, 21, 1438), (3, 198, 171, 1456), (3, 204, 172, 1459), (3, 220, 128, 1474), (3, 223, 175, 1475), (3, 226, 96, 1479), (3, 229, 147, 1480), (5, 31, 86, 1068), (5, 34, 10, 1069), (5, 39, 33, 1070), (5, 43, 89, 1071), (5, 50, 90, 1075), (5, 54, 45, 1084), (5, 58, 11, 1085), (5, 61, 91, 1086), (5, 65, 54, 1091), (5, 71, 35, 1079), (5, 92, 63, 1090), (6, 50, 2, 456), (6, 65, 98, 1118), (6, 73, 95, 1127), (6, 77, 97, 1114), (6, 81, 99, 1123), (6, 93, 96, 1172), (6, 96, 110, 1187), (6, 99, 114, 1188), (6, 102, 119, 1209), (6, 105, 126, 1237), (6, 109, 131, 1257), (6, 112, 21, 1261), (6, 118, 101, 1134), (6, 121, 103, 1141), (6, 125, 148, 1345), (6, 129, 100, 1270), (7, 22, 11, 700), (7, 31, 12, 704), (7, 34, 13, 709), (7, 39, 14, 714), (7, 54, 17, 813), (7, 58, 36, 814), (7, 67, 35, 882), (7, 71, 45, 860), (7, 75, 55, 891), (7, 79, 52, 878), (7, 82, 53, 883), (7, 86, 47, 855), (7, 90, 48, 861), (7, 96, 50, 869), (7, 102, 49, 933), (7, 109, 61, 943), (8, 24, 5, 1287), (8, 49, 138, 1288), (8, 53, 110, 1308), (8, 57, 113, 1309), (8, 63, 139, 1292), (8, 67, 140, 1298), (8, 70, 128, 1304), (8, 77, 97, 1305), (8, 80, 130, 1306), (8, 84, 133, 1307), (8, 88, 118, 1296), (8, 91, 122, 1297), (8, 95, 124, 1302), (8, 98, 125, 1303), (8, 101, 121, 1318), (8, 112, 143, 1319), (8, 115, 144, 1323), (8, 126, 145, 1331), (9, 68, 1, 261), (9, 69, 2, 265), (9, 85, 3, 268), (9, 86, 4, 272), (9, 90, 84, 1043), (9, 100, 85, 1049), (9, 103, 49, 865), (9, 107, 102, 1138), (9, 113, 21, 1109), (9, 116, 104, 1145), (9, 120, 22, 1155), (9, 123, 101, 1349), (9, 127, 103, 1350), (9, 138, 145, 1359), (10, 34, 0, 695), (10, 41, 10, 696), (10, 46, 33, 800), (10, 50, 34, 804), (10, 59, 35, 809), (10, 63, 42, 834), (10, 68, 56, 896), (10, 73, 58, 908), (10, 78, 62, 935), (10, 83, 66, 952), (10, 88, 69, 966), (10, 92, 70, 971), (10, 100, 45, 846), (10, 113, 43, 838), (10, 122, 51, 874), (10, 126, 54, 887), (10, 133, 57, 900), (10, 143, 59, 912), (10, 160, 52, 924), (10, 163, 60, 925), (10, 166, 44, 842), (10, 169, 11, 850), (10, 172, 46, 851), (10, 194, 61, 929), (10, 203, 63, 939), (10, 213, 65, 947), (10, 219, 67, 956), (10, 222, 53, 960), (10, 228, 68, 961), (11, 84, 7, 683), (11, 92, 9, 691), (11, 96, 82, 1035), (11, 99, 83, 1039), (11, 102, 5, 1054), (11, 103, 86, 1055), (11, 110, 88, 1064), (11, 113, 92, 1092), (11, 116, 94, 1101), (11, 130, 95, 1105), (11, 140, 96, 1110), (11, 146, 64, 1128), (11, 150, 97, 1129), (11, 153, 100, 1130), (11, 157, 108, 1160), (11, 172, 110, 1168), (11, 200, 101, 1181), (11, 203, 98, 1182), (11, 206, 113, 1183), (11, 210, 115, 1193), (11, 213, 117, 1201), (11, 216, 118, 1205), (11, 219, 120, 1213), (11, 222, 122, 1221), (11, 226, 124, 1229), (11, 229, 125, 1233), (11, 232, 128, 1245), (11, 235, 130, 1253), (11, 239, 133, 1266), (11, 242, 121, 1217), (11, 245, 137, 1283), (11, 256, 142, 1314), (11, 264, 147, 1341), (11, 268, 150, 1355), (11, 271, 152, 1364), (11, 274, 114, 1371), (11, 277, 154, 1376), (11, 283, 164, 1424), (11, 289, 148, 1447), (11, 292, 170, 1452), (11, 295, 174, 1470), (11, 301, 178, 1489), (11, 305, 182, 1509), (11, 308, 183, 1513), (11, 311, 185, 1521), (11, 314, 188, 1539), (11, 320, 189, 1603), (11, 324, 190, 1606), (12, 7, 193, 1617), (12, 161, 194, 1660), (12, 165, 195, 1664), (12, 168, 201, 1810), (12, 177, 202, 1814), (12, 181, 203, 1817), (12, 188, 204, 1822), (12, 197, 231, 1928), (12, 200, 208, 1837), (12, 203, 206, 1829), (12, 206, 215, 1865), (12, 209, 214, 1861), (12, 212, 216, 1869), (12, 216, 211, 1849), (12, 225, 210, 1845), (12, 229, 212, 1853), (12, 233, 222, 1893), (12, 237, 221, 1889), (12, 241, 200, 1806), (12, 250, 205, 1825), (12, 253, 234, 1940), (12, 256, 207, 1833), (12, 259, 217, 1873), (12, 262, 219, 1881), (12, 265, 223, 1896), (12, 268, 224, 1900), (12, 271, 209, 1841), (12, 274, 213, 1857), (12, 278, 218, 1877), (12, 281, 220, 1885), (12, 284, 225, 1904), (12, 290, 226, 1908), (12, 293, 232, 1932), (12, 297, 227, 1912), (12, 300, 228, 1916), (12, 303, 233, 1936), (12, 306, 229, 1920), (12, 309, 230, 1924), (12, 312, 245, 1984), (12, 315, 197, 1672), (12, 319, 198, 1676), (12, 322, 196, 1668), (12, 328, 259, 2039), (12, 331, 255, 2023), (12, 334, 248, 1995), (12, 337, 237, 1952), (12, 340, 238, 1956), (12, 344, 239, 1960), (12, 347, 240, 1964), (12, 350, 243, 1976), (12, 354, 244, 1980), (12, 357, 242, 1972), (12, 361, 241, 1968), (12, 365, 270, 2083), (12, 368, 247, 1991), (12, 371, 250, 2003), (12, 374, 252, 2011), (12, 377, 257, 2031), (12, 380, 254, 2019), (12, 383, 256, 2027), (12, 386, 258, 2035), (12, 389, 260, 2043), (12, 393, 262, 2051), (12, 396, 263, 2055), (12, 399, 265, 2063), (12, 402, 267, 2071), (12, 405, 269, 2079), (12, 408, 273, 2095), (12, 411, 276, 2107), (12, 420, 281, 2127), (12, 423, 280, 2123), (12, 426, 279, 2119), (12, 435, 284, 2139), (12, 439, 283, 2135), (12, 442, 287, 2151), (12, 448, 289, 2160), (12, 451, 293, 2176), (12, 454, 294, 2180), (12, 457, 292, 2172), (12, 460, 296, 2188), (12, 463, 298, 2196), (12, 479, 301, 2207), (12, 482, 300, 2203), (12, 485, 304, 2223), (12, 488, 305, 2227), (13, 335, 18, 732), (13, 492, 16, 722), (13, 495, 37, 818), (13, 498, 40, 827), (13, 505, 17, 728), (13, 633, 15, 718), (13, 637, 19, 736), (13, 640, 24, 751), (13, 1059, 39, 824), (13, 1062, 29, 771), (14, 9, 38, 821), (14, 38, 22, 745), (14, 88, 20, 739), (14, 92, 21, 742), (14, 95, 23, 748), (15, 48, 27, 763), (15, 67, 41, 830), (15, 71, 31, 777), (15, 96, 26, 760), (15, 183, 22, 755), (15, 224, 21, 754), (15, 228, 25, 757), (15, 232, 32, 786), (15, 241, 28, 766), (15, 244, 30, 774), (15, 414, 38, 833)]
def acT : List (Nat × Nat × Nat) := [(1, 26, 1053), (3, 210, 1463), (4, 19, 1047), (5, 25, 1096), (6, 44, 453), (9, 94, 1048)]
def cT : List (Nat × Nat × Int32 × Nat) := [(15, 227, 65536, 756), (17, 265, 1431655765, 1334), (17, 266, 858993459, 1335), (17, 267, 252645135, 1336)]
def lT : List (Nat × Nat × Int64 × Nat) := [(3, 216, 10, 1464), (3, 218, 1000000, 1465), (7, 49, 32, 708), (8, 145, 1103515245, 1327), (8, 147, 12345, 1328), (8, 149, 2147483648, 1329), (8, 151, 65536, 1330), (12, 175, 37, 1813), (12, 184, 10, 1820), (12, 186, 48, 1821), (12, 446, 1000000, 2155), (12, 471, 1103515245, 2211), (12, 473, 12345, 2212), (12, 475, 2147483648, 2213), (12, 477, 65536, 2214)]
def pT : List (Nat × Nat × Nat × Nat) := [(260, 135, 258, 259), (264, 136, 262, 263), (267, 138, 266, 0), (271, 137, 269, 270), (275, 137, 273, 274), (452, 142, 450, 451), (682, 133, 680, 681), (686, 134, 684, 685), (690, 133, 688, 689), (694, 139, 692, 693), (699, 134, 697, 698), (703, 134, 701, 702), (707, 134, 706, 0), (712, 134, 711, 1), (717, 148, 715, 716), (721, 148, 719, 720), (725, 148, 723, 724), (731, 148, 729, 730), (735, 148, 733, 734), (738, 149, 737, 0), (741, 149, 740, 0), (744, 150, 743, 0), (747, 150, 746, 0), (750, 149, 749, 0), (753, 151, 752, 0), (759, 151, 758, 0), (762, 151, 761, 0), (765, 151, 764, 0), (768, 148, 767, 0), (773, 152, 772, 0), (776, 151, 775, 0), (779, 151, 778, 0), (788, 151, 787, 0), (803, 134, 801, 802), (807, 139, 806, 2), (812, 134, 810, 811), (817, 148, 815, 816), (820, 149, 819, 0), (823, 148, 822, 0), (826, 152, 825, 0), (829, 151, 828, 0), (832, 151, 831, 0), (837, 139, 836, 3), (841, 139, 840, 4), (845, 136, 843, 844), (849, 134, 847, 848), (854, 134, 852, 853), (858, 134, 857, 5), (864, 135, 862, 863), (868, 136, 866, 867), (872, 136, 870, 871), (877, 134, 875, 876), (881, 134, 879, 880), (886, 134, 884, 885), (890, 134, 888, 889), (894, 134, 892, 893), (899, 139, 898, 6), (903, 139, 902, 7), (911, 139, 910, 8), (915, 139, 914, 9), (928, 139, 927, 10), (932, 134, 930, 931), (938, 139, 937, 11), (942, 134, 940, 941), (946, 133, 945, 0), (950, 135, 948, 949), (955, 139, 954, 12), (959, 134, 957, 958), (964, 135, 962, 963), (969, 139, 968, 13), (974, 140, 972, 973), (981, 140, 980, 14), (988, 140, 987, 15), (992, 140, 991, 16), (997, 140, 996, 17), (1007, 140, 1006, 18), (1011, 140, 1010, 19), (1015, 140, 1014, 20), (1018, 140, 1017, 0), (1022, 140, 1021, 21), (1028, 140, 1027, 22), (1033, 140, 1032, 23), (1038, 134, 1036, 1037), (1042, 135, 1040, 1041), (1046, 136, 1044, 1045), (1052, 137, 1050, 1051), (1058, 141, 1056, 1057), (1063, 133, 1061, 1062), (1067, 141, 1065, 1066), (1074, 141, 1073, 24), (1077, 141, 1076, 0), (1089, 141, 1088, 25), (1095, 141, 1093, 1094), (1100, 133, 1098, 1099), (1104, 133, 1103, 26), (1108, 135, 1106, 1107), (1113, 142, 1111, 1112), (1117, 142, 1115, 1116), (1121, 142, 1119, 1120), (1126, 142, 1124, 1125), (1133, 142, 1131, 1132), (1137, 135, 1135, 1136), (1140, 150, 1139, 0), (1144, 135, 1142, 1143), (1148, 137, 1146, 1147), (1151, 137, 1150, 0), (1154, 137, 1153, 0), (1159, 133, 1157, 1158), (1163, 133, 1162, 27), (1167, 133, 1165, 1166), (1171, 142, 1169, 1170), (1176, 133, 1174, 1175), (1180, 133, 1178, 1179), (1186, 142, 1184, 1185), (1191, 135, 1189, 1190), (1196, 142, 1194, 1195), (1200, 133, 1198, 1199), (1204, 133, 1203, 28), (1208, 142, 1206, 1207), (1212, 142, 1210, 1211), (1216, 133, 1215, 29), (1220, 142, 1218, 1219), (1224, 142, 1222, 1223), (1228, 133, 1226, 1227), (1232, 142, 1230, 1231), (1236, 142, 1234, 1235), (1240, 135, 1238, 1239), (1244, 133, 1242, 1243), (1248, 142, 1246, 1247), (1252, 133, 1250, 1251), (1256, 142, 1254, 1255), (1260, 142, 1259, 30), (1265, 133, 1263, 1264), (1269, 142, 1267, 1268), (1274, 133, 1272, 1273), (1278, 133, 1276, 1277), (1282, 133, 1280, 1281), (1286, 146, 1284, 1285), (1291, 146, 1290, 31), (1295, 146, 1294, 32), (1301, 146, 1300, 33), (1313, 133, 1311, 1312), (1317, 146, 1315, 1316), (1322, 146, 1321, 34), (1326, 146, 1325, 35), (1333, 154, 1332, 0), (1340, 133, 1338, 1339), (1344, 142, 1342, 1343), (1348, 135, 1346, 1347), (1354, 133, 1352, 1353), (1358, 135, 1356, 1357), (1363, 133, 1361, 1362), (1367, 144, 1365, 1366), (1375, 133, 1373, 1374), (1379, 144, 1377, 1378), (1383, 144, 1382, 36), (1388, 144, 1387, 37), (1393, 144, 1392, 38), (1398, 144, 1397, 39), (1407, 144, 1406, 40), (1411, 144, 1410, 41), (1415, 144, 1414, 42), (1419, 144, 1418, 43), (1423, 133, 1421, 1422), (1427, 144, 1425, 1426), (1431, 144, 1430, 44), (1437, 144, 1436, 45), (1442, 144, 1441, 46), (1446, 133, 1444, 1445), (1451, 133, 1449, 1450), (1455, 144, 1453, 1454), (1458, 138, 1457, 0), (1462, 144, 1461, 47), (1469, 133, 1467, 1468), (1473, 144, 1471, 1472), (1478, 144, 1477, 48), (1484, 133, 1482, 1483), (1488, 133, 1486, 1487), (1492, 145, 1490, 1491), (1496, 145, 1495, 49), (1503, 145, 1502, 50), (1507, 145, 1506, 51), (1512, 145, 1510, 1511), (1516, 145, 1514, 1515), (1520, 133, 1518, 1519), (1524, 145, 1522, 1523), (1529, 145, 1528, 52), (1538, 133, 1536, 1537), (1541, 133, 1540, 0), (1605, 133, 1604, 0), (1608, 133, 1607, 0), (1612, 147, 1610, 1611), (1616, 147, 1614, 1615), (1621, 147, 1619, 54), (1663, 147, 1662, 55), (1667, 147, 1666, 56), (1671, 147, 1670, 57), (1675, 147, 1674, 58), (1679, 147, 1678, 59), (1805, 147, 1803, 1804), (1809, 147, 1808, 60), (1812, 147, 1811, 0), (1816, 147, 1815, 0), (1819, 147, 1818, 0), (1824, 147, 1823, 0), (1828, 147, 1827, 61), (1832, 147, 1831, 62), (1836, 147, 1835, 63), (1840, 147, 1839, 64), (1844, 147, 1843, 65), (1848, 147, 1847, 66), (1852, 147, 1851, 67), (1856, 147, 1855, 68), (1860, 147, 1859, 69), (1864, 147, 1863, 70), (1868, 147, 1867, 71), (1872, 147, 1871, 72), (1876, 147, 1875, 73), (1880, 147, 1879, 74), (1884, 147, 1883, 75), (1888, 147, 1887, 76), (1892, 147, 1891, 77), (1895, 147, 1894, 0), (1899, 147, 1898, 78), (1903, 147, 1902, 79), (1907, 147, 1906, 80), (1911, 147, 1910, 81), (1915, 147, 1914, 82), (1919, 147, 1918, 83), (1923, 147, 1922, 84), (1927, 147, 1926, 85), (1931, 147, 1930, 86), (1935, 147, 1934, 87), (1939, 147, 1938, 88), (1943, 147, 1942, 89), (1947, 147, 1945, 1946), (1951, 147, 1949, 1950), (1955, 147, 1954, 90), (1959, 147, 1958, 91), (1963, 147, 1962, 92), (1967, 147, 1966, 93), (1971, 147, 1970, 94), (1975, 147, 1974, 95), (1979, 147, 1978, 96), (1983, 147, 1982, 97), (1986, 147, 1985, 0), (1990, 147, 1988, 1989), (1994, 147, 1993, 98), (1998, 147, 1997, 99), (2002, 147, 2000, 2001), (2006, 147, 2005, 100), (2010, 147, 2008, 2009), (2014, 147, 2013, 101), (2018, 147, 2016, 2017), (2022, 147, 2021, 102), (2026, 147, 2025, 103), (2030, 147, 2029, 104), (2034, 147, 2033, 105), (2038, 147, 2037, 106), (2042, 147, 2041, 107), (2046, 147, 2045, 108), (2050, 147, 2048, 2049), (2054, 147, 2053, 109), (2058, 147, 2057, 110), (2062, 147, 2060, 2061), (2066, 147, 2065, 111), (2070, 147, 2068, 2069), (2074, 147, 2073, 112), (2078, 147, 2076, 2077), (2082, 147, 2081, 113), (2086, 147, 2085, 114), (2090, 147, 2088, 2089), (2094, 147, 2092, 2093), (2098, 147, 2097, 115), (2102, 147, 2100, 2101), (2106, 147, 2104, 2105), (2110, 147, 2109, 116), (2114, 147, 2112, 2113), (2118, 147, 2116, 2117), (2122, 147, 2121, 117), (2126, 147, 2125, 118), (2130, 147, 2129, 119), (2134, 147, 2132, 2133), (2138, 147, 2137, 120), (2142, 147, 2141, 121), (2146, 147, 2144, 2145), (2150, 147, 2148, 2149), (2154, 147, 2153, 122), (2159, 147, 2157, 2158), (2163, 147, 2162, 123), (2167, 147, 2165, 2166), (2171, 147, 2169, 2170), (2175, 147, 2174, 124), (2179, 147, 2178, 125), (2183, 147, 2182, 126), (2187, 147, 2185, 2186), (2191, 147, 2190, 127), (2195, 147, 2193, 2194), (2198, 147, 2197, 0), (2202, 147, 2200, 2201), (2206, 147, 2205, 128), (2210, 147, 2209, 129), (2218, 147, 2216, 2217), (2222, 147, 2220, 2221), (2226, 147, 2225, 130), (2230, 147, 2229, 131)]
end
section
def okF (q : Nat × Nat × Nat × Nat × Nat) : Bool := match q with
  | (a, b, x, y, p) => (if x = 40 then decide (lw_tbl[p]? = some (.fieldLink (ownS a) b "java/lang/String" (if y = 0 then "value" else "coder") (if y = 0 then "[B" else "B"))) && Nat.ble y 1 else decide (lw_tbl[p]? = some (.fieldLink (ownS a) b (clR x) ((clT x) y).2.1 ((clT x) y).2.2.1)) && decide (x < 13) && decide (y < clN x))
def okG (q : Nat × Nat × Nat × Nat) : Bool := match q with
  | (a, b, z, p) => if z = 0 then decide (lw_tbl[p]? = some (.fieldLink (ownS a) b "java/lang/String" "COMPACT_STRINGS" "Z")) else decide (lw_tbl[p]? = some (.fieldLink (ownS a) b "jdk/internal/util/Preconditions" "SIOOBE_FORMATTER" "Ljava/util/function/BiFunction;"))
def okM (q : Nat × Nat × Nat × Nat) : Bool := match q with
  | (a, b, x, p) => match mdT x with
    | some m => decide (lw_tbl[p]? = some (.methodLink (ownS a) b m.1))
    | none => false
def okA (q : Nat × Nat × Nat) : Bool := match q with
  | (a, b, p) => decide (lw_tbl[p]? = some (.methodLink (ownS a) b arraycopyName))
def okC (q : Nat × Nat × Int32 × Nat) : Bool := match q with
  | (a, b, v, p) => decide (lw_tbl[p]? = some (.constant (ownS a) b v))
def okL (q : Nat × Nat × Int64 × Nat) : Bool := match q with
  | (a, b, v, p) => decide (lw_tbl[p]? = some (.constantLong (ownS a) b v))
theorem fT_ok : fT.all okF = true := by decide +kernel
theorem gT_ok : gT.all okG = true := by decide +kernel
theorem mT_ok : mT.all okM = true := by decide +kernel
theorem acT_ok : acT.all okA = true := by decide +kernel
theorem cT_ok : cT.all okC = true := by decide +kernel
theorem lT_ok : lT.all okL = true := by decide +kernel
/-- a method's own words -/
def okP (m : MD) (p : Nat × Nat × Nat × Nat) : Bool := match m with
  | (y, b, mL, rt, ow, tg) => decide (y.cls = ownS ow) && decide (y.cls ≠ "java/lang/invoke/MethodHandle") && decide (y.cls ≠ "java/lang/invoke/VarHandle") && plainFor y && Nat.ble mL 40 && decide (lw_tbl[p.2.1]? = some (.initialized y.cls)) &&
    (if tg = 99 then decide (lw_tbl[p.2.2.1]? = some (.static y)) else decide (lw_tbl[p.2.2.1]? = some (.instanceMethod y)) && decide (lw_tbl[p.2.2.2]? = some (.selects y.cls y y)) && (if tg = 40 then decide (y.cls = "java/lang/String") else decide (tg < 13) && decide (clR tg = y.cls)))
theorem mdL_len : mdL.length = 306 := by decide +kernel
theorem pT_ok0 : ((List.range 60).all fun i => match mdL[0 + i]?, pT[0 + i]? with
  | some m, some p => okP m p
  | _, _ => false) = true := by decide +kernel
theorem pT_ok1 : ((List.range 60).all fun i => match mdL[60 + i]?, pT[60 + i]? with
  | some m, some p => okP m p
  | _, _ => false) = true := by decide +kernel
theorem pT_ok2 : ((List.range 60).all fun i => match mdL[120 + i]?, pT[120 + i]? with
  | some m, some p => okP m p
  | _, _ => false) = true := by decide +kernel
theorem pT_ok3 : ((List.range 60).all fun i => match mdL[180 + i]?, pT[180 + i]? with
  | some m, some p => okP m p
  | _, _ => false) = true := by decide +kernel
theorem pT_ok4 : ((List.range 60).all fun i => match mdL[240 + i]?, pT[240 + i]? with
  | some m, some p => okP m p
  | _, _ => false) = true := by decide +kernel
theorem pT_ok5 : ((List.range 6).all fun i => match mdL[300 + i]?, pT[300 + i]? with
  | some m, some p => okP m p
  | _, _ => false) = true := by decide +kernel
end
section
/-! ONE STEP IS SOUND -/
def okV (ow idx x y : Nat) (virt : Bool) : Bool := ((mT.any fun q => Nat.beq q.1 ow && Nat.beq q.2.1 idx && Nat.beq q.2.2.1 x) || (nestW.any (fun q => decide (q.1 = ownS ow) && Nat.beq q.2 idx) && decide ((mdT x).map (fun m => m.1) = some y_has) && !virt)) && (match mdT x with
  | some (yn, _, _, _, _, tg) => (if virt then !Nat.beq tg 99 && Nat.ble 1 y && decide ((parseMethodDescriptor yn.desc).map (fun d => d.parameters.length) = some (y - 1)) else Nat.beq tg 99 && decide ((parseMethodDescriptor yn.desc).map (fun d => d.parameters.length) = some y))
  | none => false)
def okI (ow nL : Nat) (ret : Option FieldType) (pc : Nat) (i : Instr) (len x y z : Nat) (cI : Int32) (cJ : Int64) : Bool := match i with
  | .iconst n => decide (Int32.ofInt n = cI) && Nat.beq len 1
  | .bipush n => decide ((Int8.ofInt n).toInt32 = cI) && Nat.beq len 2
  | .sipush n => decide ((Int16.ofInt n).toInt32 = cI) && Nat.beq len 3
  | .ldc idx => Nat.beq len 2 && (match z with
    | 0 => cT.any fun q => Nat.beq q.1 ow && Nat.beq q.2.1 idx && decide (q.2.2.1 = cI)
    | _ => Nat.blt y 35 && strW.any fun q => decide (q.1 = ownS ow) && Nat.beq q.2.1 idx && Nat.beq q.2.2.2 y)
  | .ldc_w idx => Nat.beq len 3 && cT.any fun q => Nat.beq q.1 ow && Nat.beq q.2.1 idx && decide (q.2.2.1 = cI)
  | .ldc2_w idx => Nat.beq len 3 && lT.any fun q => Nat.beq q.1 ow && Nat.beq q.2.1 idx && decide (q.2.2.1 = cJ)
  | .lconst n => decide (Int64.ofNat (n : Nat) = cJ) && Nat.beq len 1
  | .getstatic idx => Nat.beq len 3 && gT.any fun q => Nat.beq q.1 ow && Nat.beq q.2.1 idx && Nat.beq q.2.2.1 z
  | .iload_n n => Nat.beq len 1 && Nat.beq n x
  | .iload n => Nat.beq len 2 && Nat.beq n x
  | .lload_n n => Nat.beq len 1 && Nat.beq n x
  | .lload n => Nat.beq len 2 && Nat.beq n x
  | .aload_n n => Nat.beq len 1 && Nat.beq n x
  | .aload n => Nat.beq len 2 && Nat.beq n x
  | .istore_n n => Nat.beq len 1 && Nat.beq n x && Nat.blt x nL
  | .istore n => Nat.beq len 2 && Nat.beq n x && Nat.blt x nL
  | .astore_n n => Nat.beq len 1 && Nat.beq n x && Nat.blt x nL
  | .astore n => Nat.beq len 2 && Nat.beq n x && Nat.blt x nL
  | .lstore_n n => Nat.beq len 1 && Nat.beq n x && Nat.blt (x + 1) nL
  | .lstore n => Nat.beq len 2 && Nat.beq n x && Nat.blt (x + 1) nL
  | .iinc n c => Nat.beq len 3 && Nat.beq n x && Nat.blt x nL && decide (Int32.ofInt c = cI)
  | .ifCond _ off => Nat.beq len 3 && decide ((pc : Int) + off = (y : Int))
  | .if_icmp _ off => Nat.beq len 3 && decide ((pc : Int) + off = (y : Int))
  | .goto off => Nat.beq len 3 && decide ((pc : Int) + off = (y : Int))
  | .tableswitch d lo hi os => decide (0 ≤ (pc : Int) + d) && os.toList.all (fun o => decide (0 ≤ (pc : Int) + o)) && decide (hi = lo + os.toList.length - 1) && decide (-2147483648 ≤ lo) && decide (hi ≤ 2147483647)
  | .getfield idx => Nat.beq len 3 && fT.any fun q => Nat.beq q.1 ow && Nat.beq q.2.1 idx && Nat.beq q.2.2.1 x && Nat.beq q.2.2.2.1 y
  | .putfield idx => Nat.beq len 3 && Nat.blt x 13 && fT.any fun q => Nat.beq q.1 ow && Nat.beq q.2.1 idx && Nat.beq q.2.2.1 x && Nat.beq q.2.2.2.1 y
  | .aaload => Nat.beq len 1 && (Nat.beq z 0 || Nat.beq z 30 || Nat.beq z 31 || Nat.beq z 32)
  | .invokevirtual idx => Nat.beq len 3 && okV ow idx x y true
  | .invokestatic idx => Nat.beq len 3 && (match z with
    | 9 => acT.any fun q => Nat.beq q.1 ow && Nat.beq q.2.1 idx
    | _ => okV ow idx x y false)
  | .ireturn => Nat.beq len 1 && (match z with
    | 0 => decide (ret = some .int)
    | 1 => decide (ret = some .boolean)
    | 2 => decide (ret = some .byte)
    | _ => decide (ret = some .char))
  | .lreturn => Nat.beq len 1 && decide (ret = some .long)
  | .return_ => Nat.beq len 1 && decide (ret = none)
  | _ => Nat.beq len 1
def okE (m : MD) (pc : Nat) (e : Ent) : Bool := match m, e with
  | (_, cc, nL, ret, ow, _), (i, len, x, y, z, cI, cJ) => decide (decode cc pc = .ok (i, len)) && okI ow nL ret pc i len x y z cI cJ
def ROK (w : List Ref3) (r : Option AV × Mem) : Prop := (∀ v, r.1 = some v → VOK w v) ∧ MOK w r.2
def WQ (w : List Ref3) (own : String) (cc : ByteArray) (nL : Nat) (ret : Option FieldType) (d pc : Nat) (lv : Lv) (st : List AV) (M : Mem) (r : Option AV × Mem) : Prop := WPs w own cc nL ret d pc lv st M r ∧ ROK w r
def recvOK (tg : Nat) (as : List AV) : Bool := if tg = 99 then true else match as with
  | .inr (.inr q) :: _ => Nat.beq q.1 tg
  | _ => false
section EX
variable {call : Nat → List AV → Mem → Res} {back : Nat → Lv → Mem → Res} {k : Nat → Lv → List AV → Mem → Res} {r : Option AV × Mem} {n : Nat} {lv : Lv} {st : List AV} {M : Mem}
theorem ib_some {f : Int32 → Int32 → Int32} (h : ib k f n lv st M = some r) : ∃ a b st', st = .inl b :: .inl a :: st' ∧ k n lv (.inl (f a b) :: st') M = some r := by
  unfold ib at h; split at h
  · exact ⟨_, _, _, rfl, h⟩
  · cases h
theorem jb_some {f : Int64 → Int64 → Int64} (h : jb k f n lv st M = some r) : ∃ a b st', st = .inr (.inl b) :: .inr (.inl a) :: st' ∧ k n lv (.inr (.inl (f a b)) :: st') M = some r := by
  unfold jb at h; split at h
  · exact ⟨_, _, _, rfl, h⟩
  · cases h
theorem alK_some {t0 : Nat} {f : Mem → Ref3 → Nat → AV} (h : alK k t0 f n lv st M = some r) : ∃ i q st', st = .inl i :: .inr (.inr q) :: st' ∧ q.1 = t0 ∧ ¬ (i < 0 ∨ q.2.1 ≤ i.toNatClampNeg) ∧ k n lv (f M q i.toNatClampNeg :: st') M = some r := by
  unfold alK at h; split at h
  · rename_i i q st'
    split at h
    · rename_i hb
      unfold ic at h
      split at h
      · cases h
      · rename_i hin
        exact ⟨i, q, st', rfl, Nat.eq_of_beq_eq_true hb, hin, h⟩
    · cases h
  · cases h
theorem asK_some {t0 : Nat} {f : Int32 → Int32} (h : asK k t0 f n lv st M = some r) : ∃ v i q st', st = .inl v :: .inl i :: .inr (.inr q) :: st' ∧ q.1 = t0 ∧ ¬ (i < 0 ∨ q.2.1 ≤ i.toNatClampNeg) ∧ k n lv st' (sI M q.2.2 i.toNatClampNeg (f v)) = some r := by
  unfold asK at h; split at h
  · rename_i v i q st'
    split at h
    · rename_i hb
      unfold ic at h
      split at h
      · cases h
      · rename_i hin
        exact ⟨v, i, q, st', rfl, Nat.eq_of_beq_eq_true hb, hin, h⟩
    · cases h
  · cases h
end EX
theorem nb {a b : Nat} (h : Nat.beq a b = true) : a = b := Nat.eq_of_beq_eq_true h
theorem nl {a b : Nat} (h : Nat.blt a b = true) : a < b := Nat.le_of_ble_eq_true h
theorem VOKs_cons {w : List Ref3} {v : AV} {st : List AV} : VOKs w (v :: st) ↔ VOK w v ∧ VOKs w st := by simp [VOKs]
theorem VOKl_stl {w : List Ref3} {lv : Lv} {i : Nat} {v : AV} (h : VOKl w lv) (hv : VOK w v) : VOKl w (stl lv i v) := by
  intro j x hx
  rcases lvat_stl hx with ⟨-, e⟩ | ⟨-, h2, -⟩
  · rw [← e]; exact hv
  · exact h j x h2
theorem VOKl_stl2 {w : List Ref3} {lv : Lv} {i : Nat} {v : AV} (h : VOKl w lv) (hv : VOK w v) : VOKl w (stl2 lv i v) := by
  intro j x hx
  rcases lvat_lst _ _ _ _ _ hx with ⟨-, e⟩ | ⟨-, h2⟩
  · cases e
  · exact VOKl_stl h hv j x h2
/-- what a reference with a tag of the world's is -/
theorem VOK_in {w : List Ref3} {q : Ref3} (h : VOK w (.inr (.inr q))) (ht : q.1 < 40) : q ∈ w := by
  rcases h with h | ⟨i, -, h⟩ | ⟨i, -, h⟩ | h
  · exact h
  · subst h; simp at ht
  · subst h; simp at ht
  · subst h; simp at ht
theorem VOK_str {w : List Ref3} (hw : WT w) {q : Ref3} (h : VOK w (.inr (.inr q))) (ht : q.1 = 40) : ∃ i, i < 35 ∧ q = (40, i, SB + i) := by
  rcases h with h | h | ⟨i, -, h⟩ | h
  · rcases hw.1 q h with h | h | h <;> omega
  · exact h
  · subst h; simp at ht
  · subst h; simp at ht
theorem VOK_byt {w : List Ref3} (hw : WT w) {q : Ref3} (h : VOK w (.inr (.inr q))) (ht : q.1 = 41) : ∃ i, i < 35 ∧ q = (41, strL i, SV + i) := by
  rcases h with h | ⟨i, -, h⟩ | h | h
  · rcases hw.1 q h with h | h | h <;> omega
  · subst h; simp at ht
  · exact h
  · subst h; simp at ht
theorem fT_use {ow idx x y : Nat} (h : (fT.any fun q => Nat.beq q.1 ow && Nat.beq q.2.1 idx && Nat.beq q.2.2.1 x && Nat.beq q.2.2.2.1 y) = true) :
    (x = 40 ∧ y = 0 ∧ Cond.fieldLink (ownS ow) idx "java/lang/String" "value" "[B" ∈ lw_g) ∨ (x = 40 ∧ y = 1 ∧ Cond.fieldLink (ownS ow) idx "java/lang/String" "coder" "B" ∈ lw_g) ∨ (x < 13 ∧ y < clN x ∧ Cond.fieldLink (ownS ow) idx (clR x) ((clT x) y).2.1 ((clT x) y).2.2.1 ∈ lw_g) := by
  obtain ⟨q, hq, he⟩ := List.any_eq_true.mp h
  have hk := List.all_eq_true.mp fT_ok q hq
  obtain ⟨a, b, c, d, p⟩ := q
  simp only [Bool.and_eq_true] at he
  obtain ⟨⟨⟨e1, e2⟩, e3⟩, e4⟩ := he
  have e1 := nb e1; have e2 := nb e2; have e3 := nb e3; have e4 := nb e4
  subst e1; subst e2; subst e3; subst e4
  simp only [okF] at hk
  split at hk
  · rename_i h40
    simp only [Bool.and_eq_true, decide_eq_true_eq] at hk
    have hd := Nat.le_of_ble_eq_true hk.2
    have hd2 : d = 0 ∨ d = 1 := by omega
    rcases hd2 with hd2 | hd2
    · subst hd2
      exact Or.inl ⟨h40, rfl, lw_mem p hk.1 rfl⟩
    · subst hd2
      exact Or.inr (Or.inl ⟨h40, rfl, lw_mem p hk.1 rfl⟩)
  · simp only [Bool.and_eq_true, decide_eq_true_eq] at hk
    exact Or.inr (Or.inr ⟨hk.1.2, hk.2, lw_mem p hk.1.1 rfl⟩)
theorem gT_use {ow idx z : Nat} (h : (gT.any fun q => Nat.beq q.1 ow && Nat.beq q.2.1 idx && Nat.beq q.2.2.1 z) = true) :
    (z = 0 ∧ Cond.fieldLink (ownS ow) idx "java/lang/String" "COMPACT_STRINGS" "Z" ∈ lw_g) ∨ (z ≠ 0 ∧ Cond.fieldLink (ownS ow) idx "jdk/internal/util/Preconditions" "SIOOBE_FORMATTER" "Ljava/util/function/BiFunction;" ∈ lw_g) := by
  obtain ⟨q, hq, he⟩ := List.any_eq_true.mp h
  have hk := List.all_eq_true.mp gT_ok q hq
  obtain ⟨a, b, c, p⟩ := q
  simp only [Bool.and_eq_true] at he
  obtain ⟨⟨e1, e2⟩, e3⟩ := he
  have e1 := nb e1; have e2 := nb e2; have e3 := nb e3
  subst e1; subst e2; subst e3
  simp only [okG] at hk
  split at hk
  · rename_i h0
    exact Or.inl ⟨h0, lw_mem p (of_decide_eq_true hk) rfl⟩
  · rename_i h0
    exact Or.inr ⟨h0, lw_mem p (of_decide_eq_true hk) rfl⟩
theorem cT_use {ow idx : Nat} {v : Int32} (h : (cT.any fun q => Nat.beq q.1 ow && Nat.beq q.2.1 idx && decide (q.2.2.1 = v)) = true) : Cond.constant (ownS ow) idx v ∈ lw_g := by
  obtain ⟨q, hq, he⟩ := List.any_eq_true.mp h
  have hk := List.all_eq_true.mp cT_ok q hq
  obtain ⟨a, b, c, p⟩ := q
  simp only [Bool.and_eq_true, decide_eq_true_eq] at he
  obtain ⟨⟨e1, e2⟩, e3⟩ := he
  have e1 := nb e1; have e2 := nb e2
  subst e1; subst e2; subst e3
  exact lw_mem p (of_decide_eq_true hk) rfl
theorem lT_use {ow idx : Nat} {v : Int64} (h : (lT.any fun q => Nat.beq q.1 ow && Nat.beq q.2.1 idx && decide (q.2.2.1 = v)) = true) : Cond.constantLong (ownS ow) idx v ∈ lw_g := by
  obtain ⟨q, hq, he⟩ := List.any_eq_true.mp h
  have hk := List.all_eq_true.mp lT_ok q hq
  obtain ⟨a, b, c, p⟩ := q
  simp only [Bool.and_eq_true, decide_eq_true_eq] at he
  obtain ⟨⟨e1, e2⟩, e3⟩ := he
  have e1 := nb e1; have e2 := nb e2
  subst e1; subst e2; subst e3
  exact lw_mem p (of_decide_eq_true hk) rfl
theorem sT_use {ow idx y : Nat} (h : (strW.any fun q => decide (q.1 = ownS ow) && Nat.beq q.2.1 idx && Nat.beq q.2.2.2 y) = true) : ∃ tx, (ownS ow, idx, tx, y) ∈ strW := by
  obtain ⟨q, hq, he⟩ := List.any_eq_true.mp h
  obtain ⟨a, b, c, p⟩ := q
  simp only [Bool.and_eq_true, decide_eq_true_eq] at he
  obtain ⟨⟨e1, e2⟩, e3⟩ := he
  have e2 := nb e2; have e3 := nb e3
  subst e1; subst e2; subst e3
  exact ⟨c, hq⟩
theorem acT_use {ow idx : Nat} (h : (acT.any fun q => Nat.beq q.1 ow && Nat.beq q.2.1 idx) = true) : Cond.methodLink (ownS ow) idx arraycopyName ∈ lw_g := by
  obtain ⟨q, hq, he⟩ := List.any_eq_true.mp h
  have hk := List.all_eq_true.mp acT_ok q hq
  obtain ⟨a, b, p⟩ := q
  simp only [Bool.and_eq_true] at he
  obtain ⟨e1, e2⟩ := he
  have e1 := nb e1; have e2 := nb e2
  subst e1; subst e2
  exact lw_mem p (of_decide_eq_true hk) rfl
theorem ac_words : Cond.native arraycopyName ∈ lw_g ∧ Cond.static arraycopyName ∈ lw_g ∧ Cond.initialized "java/lang/System" ∈ lw_g :=
  ⟨List.mem_filter.mpr ⟨by decide +kernel, rfl⟩, List.mem_filter.mpr ⟨by decide +kernel, rfl⟩, List.mem_filter.mpr ⟨by decide +kernel, rfl⟩⟩
end
section
/-! stepK is sound -/
section SND
variable {w : List Ref3} {own : String} {cc : ByteArray} {nL : Nat} {ret : Option FieldType} {d pc : Nat} {lv : Lv} {st : List AV} {M : Mem} {r : Option AV × Mem} {call : Nat → List AV → Mem → Res} {back : Nat → Lv → Mem → Res} {k : Nat → Lv → List AV → Mem → Res}
theorem jmp_sound {tgt : Nat} (hback : ∀ pc' lv' M', back pc' lv' M' = some r → VOKl w lv' → MOK w M' → WQ w own cc nL ret d pc' lv' [] M' r) (hk : ∀ pc' lv' st' M', k pc' lv' st' M' = some r → VOKl w lv' → VOKs w st' → MOK w M' → WQ w own cc nL ret d pc' lv' st' M' r)
    (h : jmp back k pc tgt lv st M = some r) (hvl : VOKl w lv) (hvs : VOKs w st) (hm : MOK w M) : WQ w own cc nL ret d tgt lv st M r := by
  unfold jmp at h
  split at h
  · split at h
    · exact hback _ _ _ h hvl hm
    · cases h
  · exact hk _ _ _ _ h hvl hvs hm
theorem ite_some {P : Prop} {_ : Decidable P} {A B : Res} (h : (if P then A else B) = some r) : (P → A = some r) ∧ (¬ P → B = some r) := by
  by_cases hp : P
  · rw [if_pos hp] at h; exact ⟨fun _ => h, fun z => absurd hp z⟩
  · rw [if_neg hp] at h; exact ⟨fun z => absurd z hp, fun _ => h⟩
theorem x_br2 {n1 n2 : Nat} {st' : List AV} {P : Prop} (hrow : ∀ {ρ : Nat → Nat} {p : Program} {l : Launch} {e : Env} {R : Room} {s : State} {m : MethodId} {args : Array Value} {below : List Frame} {meth : Method} {c : Code} {H : Heap} {locs : List Loc} {cells slots : Nat} {Q : State → Prop} {ls : Array Slot}, p.tables.exec = Jvm.exec → c.code = cc → (P → W p l e R s m args below meth c H locs cells slots Q (F0 m n1 ls (st'.map (cv ρ)))) → (¬ P → W p l e R s m args below meth c H locs cells slots Q (F0 m n2 ls (st'.map (cv ρ)))) → W p l e R s m args below meth c H locs cells slots Q (F0 m pc ls (st.map (cv ρ))))
    (k1 : P → WQ w own cc nL ret d n1 lv st' M r) (k2 : ¬ P → WQ w own cc nL ret d n2 lv st' M r) : WQ w own cc nL ret d pc lv st M r := by
  refine ⟨x_br hrow (fun z => (k1 z).1) (fun z => (k2 z).1), ?_⟩
  by_cases hp : P
  · exact (k1 hp).2
  · exact (k2 hp).2
theorem icmp_sound {c : ClassFile.Cond} {off : Int} {tgt : Nat} {a b : Int32} (hdg : decode cc pc = .ok (.if_icmp c off, 3)) (ht : (pc : Int) + off = (tgt : Int))
    (hj : jmp back k pc tgt lv st M = some r → WQ w own cc nL ret d tgt lv st M r) (hn : k (pc + 3) lv st M = some r → WQ w own cc nL ret d (pc + 3) lv st M r)
    (h : cIc back k c pc (pc + 3) tgt lv a b st M = some r) : WQ w own cc nL ret d pc lv (.inl b :: .inl a :: st) M r := by
  cases c
  case eq =>
    obtain ⟨h1, h2⟩ := ite_some h
    exact x_br2 (P := a = b) (st' := st) (fun hx hb kt kf => lv_icmp_eq hx hb hdg ht kt kf) (fun z => hj (h1 z)) (fun z => hn (h2 z))
  case ne =>
    obtain ⟨h1, h2⟩ := ite_some h
    exact x_br2 (P := a = b) (st' := st) (n1 := pc + 3) (n2 := tgt) (fun hx hb kt kf => lv_icmp_ne hx hb hdg ht kf kt) (fun z => hn (h1 z)) (fun z => hj (h2 z))
  case lt =>
    obtain ⟨h1, h2⟩ := ite_some h
    exact x_br2 (P := a < b) (st' := st) (fun hx hb kt kf => lv_icmp_lt hx hb hdg ht kt kf) (fun z => hj (h1 z)) (fun z => hn (h2 z))
  case ge =>
    obtain ⟨h1, h2⟩ := ite_some h
    exact x_br2 (P := a < b) (st' := st) (n1 := pc + 3) (n2 := tgt) (fun hx hb kt kf => lv_icmp_ge hx hb hdg ht (fun z => kf (Int32.not_lt.mpr z)) (fun z => kt (Int32.not_le.mp z))) (fun z => hn (h1 z)) (fun z => hj (h2 z))
  case gt =>
    obtain ⟨h1, h2⟩ := ite_some h
    exact x_br2 (P := b < a) (st' := st) (fun hx hb kt kf => lv_icmp_gt hx hb hdg ht kt kf) (fun z => hj (h1 z)) (fun z => hn (h2 z))
  case le =>
    obtain ⟨h1, h2⟩ := ite_some h
    exact x_br2 (P := b < a) (st' := st) (n1 := pc + 3) (n2 := tgt) (fun hx hb kt kf => lv_icmp_le hx hb hdg ht (fun z => kf (Int32.not_lt.mpr z)) (fun z => kt (Int32.not_le.mp z))) (fun z => hn (h1 z)) (fun z => hj (h2 z))
theorem ifc_sound {c : ClassFile.Cond} {off : Int} {tgt : Nat} {a : Int32} (hdg : decode cc pc = .ok (.ifCond c off, 3)) (ht : (pc : Int) + off = (tgt : Int))
    (hj : jmp back k pc tgt lv st M = some r → WQ w own cc nL ret d tgt lv st M r) (hn : k (pc + 3) lv st M = some r → WQ w own cc nL ret d (pc + 3) lv st M r)
    (h : cIc back k c pc (pc + 3) tgt lv a 0 st M = some r) : WQ w own cc nL ret d pc lv (.inl a :: st) M r := by
  cases c
  case eq =>
    obtain ⟨h1, h2⟩ := ite_some h
    exact x_br2 (P := a = 0) (st' := st) (fun hx hb kt kf => lv_if_eq hx hb hdg ht kt kf) (fun z => hj (h1 z)) (fun z => hn (h2 z))
  case ne =>
    obtain ⟨h1, h2⟩ := ite_some h
    exact x_br2 (P := a = 0) (st' := st) (n1 := pc + 3) (n2 := tgt) (fun hx hb kt kf => lv_if_ne hx hb hdg ht kf kt) (fun z => hn (h1 z)) (fun z => hj (h2 z))
  case lt =>
    obtain ⟨h1, h2⟩ := ite_some h
    exact x_br2 (P := a < 0) (st' := st) (fun hx hb kt kf => lv_if_lt hx hb hdg ht kt kf) (fun z => hj (h1 z)) (fun z => hn (h2 z))
  case ge =>
    obtain ⟨h1, h2⟩ := ite_some h
    exact x_br2 (P := a < 0) (st' := st) (n1 := pc + 3) (n2 := tgt) (fun hx hb kt kf => lv_if_ge hx hb hdg ht (fun z => kf (Int32.not_lt.mpr z)) (fun z => kt (Int32.not_le.mp z))) (fun z => hn (h1 z)) (fun z => hj (h2 z))
  case gt =>
    obtain ⟨h1, h2⟩ := ite_some h
    exact x_br2 (P := 0 < a) (st' := st) (fun hx hb kt kf => lv_if_gt hx hb hdg ht kt kf) (fun z => hj (h1 z)) (fun z => hn (h2 z))
  case le =>
    obtain ⟨h1, h2⟩ := ite_some h
    exact x_br2 (P := 0 < a) (st' := st) (n1 := pc + 3) (n2 := tgt) (fun hx hb kt kf => lv_if_le hx hb hdg ht (fun z => kf (Int32.not_lt.mpr z)) (fun z => kt (Int32.not_le.mp z))) (fun z => hn (h1 z)) (fun z => hj (h2 z))
end SND
theorem sw_find {v : Int32} {f : Int → Res} {dd : Int} {r : Option AV × Mem} : ∀ (os : List Int) (lo : Int), swk v f dd lo os = some r → -2147483648 ≤ lo → lo + os.length - 1 ≤ 2147483647 →
    (∃ j : Nat, j < os.length ∧ v.toInt = lo + j ∧ ∃ o, os[j]? = some o ∧ f o = some r) ∨ ((v.toInt < lo ∨ lo + os.length - 1 < v.toInt) ∧ f dd = some r)
  | [], lo, h, h1, h2 => Or.inr ⟨by simp; omega, h⟩
  | o :: os, lo, h, h1, h2 => by
    obtain ⟨e1, e2⟩ := ite_some h
    have hlo : (Int32.ofInt lo).toInt = lo := Int32.toInt_ofInt_of_le (by simp at h2 ⊢; omega) (by simp at h2 ⊢; omega)
    by_cases hv : v = Int32.ofInt lo
    · refine Or.inl ⟨0, by simp, ?_, o, rfl, e1 hv⟩
      rw [hv, hlo]; simp
    · have hne : v.toInt ≠ lo := fun z => hv (by rw [← Int32.toInt_inj, hlo]; exact z)
      rcases sw_find os (lo + 1) (e2 hv) (by omega) (by simp at h2 ⊢; omega) with ⟨j, g1, g2, g3⟩ | ⟨g1, g2⟩
      · exact Or.inl ⟨j + 1, by simp; omega, by rw [g2]; push_cast; omega, by simpa using g3⟩
      · refine Or.inr ⟨?_, g2⟩
        simp at g1 ⊢
        omega
/-- what is known of a callee -/
def MDk (md : MD) : Prop := Cond.initialized md.1.cls ∈ lw_g ∧ Cond.code md.1 md.2.1 md.2.2.1 md.2.2.2.1 ∈ lw_g ∧ md.1.cls = ownS md.2.2.2.2.1 ∧ (md.1.cls ≠ "java/lang/invoke/MethodHandle" ∧ md.1.cls ≠ "java/lang/invoke/VarHandle") ∧ plainFor md.1 = true ∧ md.2.2.1 ≤ 40 ∧
  ((md.2.2.2.2.2 = 99 ∧ Cond.static md.1 ∈ lw_g) ∨ (md.2.2.2.2.2 ≠ 99 ∧ Cond.instanceMethod md.1 ∈ lw_g ∧ Cond.selects md.1.cls md.1 md.1 ∈ lw_g ∧ ((md.2.2.2.2.2 = 40 ∧ md.1.cls = "java/lang/String") ∨ (md.2.2.2.2.2 < 13 ∧ clR md.2.2.2.2.2 = md.1.cls))))
theorem popA_spec : ∀ (n : Nat) (acc st as st' : List AV), popA n acc st = some (as, st') → ∃ p, st = p ++ st' ∧ as = p.reverse ++ acc ∧ p.length = n
  | 0, acc, st, as, st', h => by cases h; exact ⟨[], rfl, rfl, rfl⟩
  | n + 1, acc, [], as, st', h => by cases h
  | n + 1, acc, v :: st, as, st', h => by
    obtain ⟨p, h1, h2, h3⟩ := popA_spec n (v :: acc) st as st' h
    exact ⟨v :: p, by rw [h1]; rfl, by rw [h2]; simp, by simp [h3]⟩
theorem cVd_some {R : Res} {f : Mem → Res} {r : Option AV × Mem} (h : cVd R f = some r) : ∃ M, R = some (none, M) ∧ f M = some r := by
  unfold cVd at h; split at h
  · exact ⟨_, rfl, h⟩
  · cases h
theorem cIn_some {R : Res} {f : Int32 → Mem → Res} {r : Option AV × Mem} (h : cIn R f = some r) : ∃ v M, R = some (some (.inl v), M) ∧ f v M = some r := by
  unfold cIn at h; split at h
  · exact ⟨_, _, rfl, h⟩
  · cases h
theorem cLo_some {R : Res} {f : Int64 → Mem → Res} {r : Option AV × Mem} (h : cLo R f = some r) : ∃ v M, R = some (some (.inr (.inl v)), M) ∧ f v M = some r := by
  unfold cLo at h; split at h
  · exact ⟨_, _, rfl, h⟩
  · cases h
theorem mT_use {ow idx x : Nat} {md : MD} (h : (mT.any fun q => Nat.beq q.1 ow && Nat.beq q.2.1 idx && Nat.beq q.2.2.1 x) = true) (hm : mdT x = some md) : Cond.methodLink (ownS ow) idx md.1 ∈ lw_g := by
  obtain ⟨q, hq, he⟩ := List.any_eq_true.mp h
  have hk := List.all_eq_true.mp mT_ok q hq
  obtain ⟨a, b, c, p⟩ := q
  simp only [Bool.and_eq_true] at he
  obtain ⟨⟨e1, e2⟩, e3⟩ := he
  have e1 := nb e1; have e2 := nb e2; have e3 := nb e3
  subst e1; subst e2; subst e3
  simp only [okM, hm] at hk
  exact lw_mem p (of_decide_eq_true hk) rfl
section SNE
variable {w : List Ref3} {d pc : Nat} {lv : Lv} {st : List AV} {M : Mem} {r : Option AV × Mem} {call : Nat → List AV → Mem → Res} {back : Nat → Lv → Mem → Res} {k : Nat → Lv → List AV → Mem → Res}
/-- the call, whatever it answers -/
theorem inv_sound {ow nL : Nat} {cc : ByteArray} {ret : Option FieldType} {idx x y z : Nat} {virt : Bool} (hwt : WT w) (hmd : ∀ x md, mdT x = some md → MDk md)
    (hcall : ∀ x as M r', call x as M = some r' → VOKs w as → MOK w M → ∃ md, mdT x = some md ∧ recvOK md.2.2.2.2.2 as = true ∧ CSem w md.1 md.2.1 md.2.2.1 md.2.2.2.1 d as M r' ∧ ROK w r')
    (hk : ∀ pc' lv' st' M', k pc' lv' st' M' = some r → VOKl w lv' → VOKs w st' → MOK w M' → WQ w (ownS ow) cc nL ret (d + 1) pc' lv' st' M' r)
    (hok : okV ow idx x y virt = true) (hdg : decode cc pc = .ok (if virt then .invokevirtual idx else .invokestatic idx, 3))
    (h : invK call k (pc + 3) x y z lv st M = some r) (hvl : VOKl w lv) (hvs : VOKs w st) (hm : MOK w M) : WQ w (ownS ow) cc nL ret (d + 1) pc lv st M r := by
  unfold invK at h
  split at h
  case h_2 => cases h
  rename_i as st' hpop
  split at h
  case h_2 => cases h
  rename_i hcat
  have hcat := Nat.le_of_ble_eq_true hcat
  obtain ⟨p, hp1, hp2, hp3⟩ := popA_spec _ _ _ _ _ hpop
  have hvas : VOKs w as := fun v hv => hvs v (by rw [hp1, hp2] at *; simp at hv; exact List.mem_append_left _ hv)
  have hvst : VOKs w st' := fun v hv => hvs v (by rw [hp1]; exact List.mem_append_right _ hv)
  have hst : st = as.reverse ++ st' := by rw [hp1, hp2]; simp
  have hlen : as.length = y := by rw [hp2]; simp [hp3]
  obtain ⟨r', hc, hgo⟩ : ∃ r', call x as M = some r' ∧ k (pc + 3) lv (r'.1.toList ++ st') r'.2 = some r := by
    split at h
    · obtain ⟨M1, e1, e2⟩ := cVd_some h; exact ⟨_, e1, e2⟩
    · obtain ⟨v, M1, e1, e2⟩ := cIn_some h; exact ⟨_, e1, e2⟩
    · obtain ⟨v, M1, e1, e2⟩ := cLo_some h; exact ⟨_, e1, e2⟩
    · cases h
  obtain ⟨md, hmdx, hrecv, hcs, hrok⟩ := hcall _ _ _ _ hc hvas hm
  have hvr : VOKs w (r'.1.toList ++ st') := by
    intro v hv
    rcases List.mem_append.mp hv with hv | hv
    · refine hrok.1 v ?_
      cases hr : r'.1 with
      | none => rw [hr] at hv; cases hv
      | some u => rw [hr] at hv; simp at hv; rw [hv]
    · exact hvst v hv
  obtain ⟨w1, w2⟩ := hk _ _ _ _ hgo hvl hvr hrok.2
  refine ⟨?_, w2⟩
  obtain ⟨k1, k2, k3, k4, k5, k6, k7⟩ := hmd x md hmdx
  obtain ⟨yn, bt, mL, rt, ow2, tg⟩ := md
  dsimp only at k1 k2 k3 k4 k5 k6 k7 hrecv hcs
  unfold okV at hok
  rw [hmdx] at hok
  simp only [Bool.and_eq_true, Bool.or_eq_true] at hok
  obtain ⟨hok1, hok2⟩ := hok
  rw [hst]
  cases virt with
  | true =>
    simp only [if_true, Bool.and_eq_true, decide_eq_true_eq] at hok2
    obtain ⟨⟨c1, c2⟩, c3⟩ := hok2
    have c2 := Nat.le_of_ble_eq_true c2
    have htg : tg ≠ 99 := fun z => by subst z; simp at c1
    rcases hok1 with hok1 | hok1
    · have hl := mT_use hok1 hmdx
      rcases k7 with ⟨z, -⟩ | ⟨-, k7, k8, k9⟩
      · exact absurd z htg
      · unfold recvOK at hrecv
        rw [if_neg htg] at hrecv
        split at hrecv
        · rename_i q as'
          have hq := nb hrecv
          have hvq := (VOKs_cons.mp hvas).1
          refine x_callV hcs ?_ k2 hl k7 k8 k1 ⟨k4.1, k4.2, ?_⟩ k6 hcat hdg w1
          · rcases k9 with ⟨e1, e2⟩ | ⟨e1, e2⟩
            · obtain ⟨i, h1, h2⟩ := VOK_str hwt hvq (by omega)
              exact Or.inr ⟨i, h1, h2, e2⟩
            · exact Or.inl ⟨VOK_in hvq (by omega), by omega, by rw [hq]; exact e2⟩
          · rw [c3]; simp at hlen; congr 1; omega
        · cases hrecv
    · simp at hok1
  | false =>
    simp only [Bool.false_eq_true, if_false, Bool.and_eq_true, decide_eq_true_eq] at hok2
    obtain ⟨c1, c3⟩ := hok2
    have htg := nb c1
    rcases k7 with ⟨-, k7⟩ | ⟨z, -⟩
    · rcases hok1 with hok1 | hok1
      · have hl := mT_use hok1 hmdx
        exact x_callS hcs k2 hl k7 k1 ⟨k4.1, k4.2, by rw [c3, hlen]⟩ k6 hcat hdg w1
      · obtain ⟨⟨n1, n2⟩, -⟩ := hok1
        have hy : yn = y_has := by simpa using n2
        subst hy
        obtain ⟨e, he1, he2⟩ := List.any_eq_true.mp n1
        simp only [Bool.and_eq_true, decide_eq_true_eq] at he2
        have he3 := nb he2.2
        have he4 : (ownS ow, idx) ∈ nestW := by
          obtain ⟨e1, e2⟩ := e
          dsimp only at he2 he3
          rw [← he2.1, ← he3]; exact he1
        exact x_callSN hcs k2 he4 k7 k1 ⟨k4.1, k4.2, by rw [c3, hlen]⟩ k6 hcat hdg w1
    · exact absurd htg z
theorem gf_ok {x y : Nat} {q : Ref3} (hclo : Clo w) (hm : MOK w M) (hq : q ∈ w) (hqx : q.1 = x) (hx : x < 13) (hy : y < clN x) : VOK w (gf x y q M) := by
  subst hqx
  have h4 := fk_le q.1 hx y hy
  unfold gf
  generalize hz : fk q.1 y = z at h4
  match z, h4, hz with
  | 0, _, _ => trivial
  | 1, _, _ => trivial
  | 2, _, hz => exact Or.inl (hclo.1 q hq hx y hy hz)
  | 3, _, hz => exact Or.inl (hm.1 q hq hx y hy hz)
  | 4, _, _ => trivial
theorem nar_byte_eq {v : Int32} : narrow .byte (.int v) = .int (vp_nar .byte v) := rfl
theorem nar_char_eq {v : Int32} : narrow .char (.int v) = .int (vp_nar .char v) := rfl
theorem MOK_sR24 {v q : Ref3} {i : Nat} (hwt : WT w) (hm : MOK w M) (hv : v ∈ w) (h6 : v.1 = 6) (h0 : v.2.1 = 0) (hq : q.1 = 24) (hqw : q ∈ w) : MOK w (sR M q.2.2 i v.2.2) := by
  refine ⟨fun q' h1 h2 j h3 h4 => ?_, fun q' h1 h2 j h3 => ?_⟩
  · by_cases e : q'.2.2 = q.2.2
    · rw [hwt.2 q' h1 q hqw e] at h2; omega
    · simp only [sR, e, false_and, if_false]; exact hm.1 q' h1 h2 j h3 h4
  · by_cases e : q'.2.2 = q.2.2 ∧ j = i
    · simp only [sR, if_pos e]; have : v = (6, 0, v.2.2) := by obtain ⟨a, b, c⟩ := v; simp at h6 h0 ⊢; exact ⟨h6, h0⟩
      rw [← this]; exact hv
    · simp only [sR, if_neg e]; exact hm.2 q' h1 h2 j h3
theorem fk3 : ∀ x, x < 13 → ∀ y, y < clN x → fk x y = 3 → (x = 2 ∧ y = 4) := by decide +kernel
theorem fm_lt : ∀ x, x < 13 → ∀ y, y < clN x → fk x y = 3 → (fm x y).1 < 13 := by decide +kernel
theorem MOK_sRf {v x y : Nat} {q : Ref3} (hwt : WT w) (hm : MOK w M) (hqw : q ∈ w) (hqx : q.1 = x) (hx : x < 13) (hy : y < clN x) (hf : fk x y = 3) (hv : (((fm x y).1, (fm x y).2, v) : Ref3) ∈ w) : MOK w (sR M q.2.2 y v) := by
  refine ⟨fun q' h1 h2 j h3 h4 => ?_, fun q' h1 h2 j h3 => ?_⟩
  · by_cases e : q'.2.2 = q.2.2 ∧ j = y
    · simp only [sR, if_pos e]; rw [hwt.2 q' h1 q hqw e.1, hqx, e.2]; exact hv
    · simp only [sR, if_neg e]; exact hm.1 q' h1 h2 j h3 h4
  · by_cases e : q'.2.2 = q.2.2
    · rw [hwt.2 q' h1 q hqw e] at h2; omega
    · simp only [sR, e, false_and, if_false]; exact hm.2 q' h1 h2 j h3
theorem bool_fits {v : Int32} (h : v &&& 1 = v) : fits .boolean (.int v) = true := by
  rw [pk_and v (m := 1) 1 rfl] at h
  have : v.toBitVec.toNat % 2 ^ 1 = 0 ∨ v.toBitVec.toNat % 2 ^ 1 = 1 := by omega
  rcases this with e | e
  · rw [e] at h; rw [← h]; rfl
  · rw [e] at h; rw [← h]; rfl
theorem cp_sound {ow idx nL : Nat} {cc : ByteArray} {ret : Option FieldType} (hok : (acT.any fun q => Nat.beq q.1 ow && Nat.beq q.2.1 idx) = true) (hdg : decode cc pc = .ok (.invokestatic idx, 3))
    (hk : ∀ st' M', k (pc + 3) lv st' M' = some r → VOKs w st' → MOK w M' → WQ w (ownS ow) cc nL ret (d + 1) (pc + 3) lv st' M' r)
    (h : cpK k (pc + 3) lv st M = some r) (hvs : VOKs w st) (hm : MOK w M) : WQ w (ownS ow) cc nL ret (d + 1) pc lv st M r := by
  unfold cpK at h
  split at h
  case h_2 => cases h
  rename_i n dp b sp a st'
  unfold ic at h
  split at h
  · cases h
  rename_i hb
  have hv1 := VOKs_cons.mp (VOKs_cons.mp (VOKs_cons.mp hvs).2).2
  have hv2 := VOKs_cons.mp (VOKs_cons.mp hv1.2).2
  have hl := acT_use hok
  obtain ⟨w1, w2, w3⟩ := ac_words
  simp only [not_or, Nat.not_lt] at hb
  obtain ⟨b1, b2, b3, b4, b5⟩ := hb
  split at h
  · rename_i hc ha hb'
    obtain ⟨h1, h2⟩ := hk _ _ h hv2.2 (MOK_cpI hm)
    exact ⟨x_cpI (VOK_in hv2.1 (by omega)) (VOK_in hv1.1 (by omega)) ha hb' b1 b2 b3 b4 b5 (Nat.le_of_ble_eq_true hc) hl w1 w2 w3 hdg h1, h2⟩
  · rename_i hc ha hb'
    obtain ⟨h1, h2⟩ := hk _ _ h hv2.2 (MOK_cpJ hm)
    exact ⟨x_cpJ (VOK_in hv2.1 (by omega)) (VOK_in hv1.1 (by omega)) ha hb' b1 b2 b3 b4 b5 (Nat.le_of_ble_eq_true hc) hl w1 w2 w3 hdg h1, h2⟩
  · cases h
theorem pf_sound {ow idx x y nL : Nat} {cc : ByteArray} {ret : Option FieldType} (hwt : WT w) (hx : x < 13) (hf : (fT.any fun q => Nat.beq q.1 ow && Nat.beq q.2.1 idx && Nat.beq q.2.2.1 x && Nat.beq q.2.2.2.1 y) = true) (hdg : decode cc pc = .ok (.putfield idx, 3))
    (hk : ∀ st' M', k (pc + 3) lv st' M' = some r → VOKs w st' → MOK w M' → WQ w (ownS ow) cc nL ret (d + 1) (pc + 3) lv st' M' r)
    (h : pfK k (pc + 3) x y lv st M = some r) (hvs : VOKs w st) (hm : MOK w M) : WQ w (ownS ow) cc nL ret (d + 1) pc lv st M r := by
  rcases fT_use hf with ⟨e1, -, -⟩ | ⟨e1, -, -⟩ | ⟨-, e2, e3⟩
  · omega
  · omega
  unfold pfK at h
  split at h
  case h_2 => cases h
  rename_i v q st'
  have hv := VOKs_cons.mp hvs
  have hv2 := VOKs_cons.mp hv.2
  split at h
  case h_2 => cases h
  rename_i hqx
  have hqx := nb hqx
  have hq : q ∈ w := VOK_in hv2.1 (by omega)
  split at h
  · rename_i v hfk
    obtain ⟨h1, h2⟩ := hk _ _ h hv2.2 (MOK_sI hm)
    exact ⟨x_put hx e2 hq hqx (by omega) (fun ρ => by rw [ct_int x hx y e2 hfk]; exact ⟨rfl, rfl⟩) (fun ρ => by simp [fv, hfk, sI, cv]) (fun ρ i hi => by simp [fv, sI, hi]) (fun ρ cA q' hne => ce_sI_ne hne) e3 hdg h1, h2⟩
  · rename_i v hfk
    unfold ic at h
    split at h
    · rename_i hn
      obtain ⟨h1, h2⟩ := hk _ _ h hv2.2 (MOK_sI hm)
      exact ⟨x_put hx e2 hq hqx (by omega) (fun ρ => by rw [ct_bool x hx y e2 hfk]; exact ⟨by show Value.int (v &&& 1) = _; rw [hn]; rfl, bool_fits hn⟩) (fun ρ => by simp [fv, hfk, sI, cv]) (fun ρ i hi => by simp [fv, sI, hi]) (fun ρ cA q' hne => ce_sI_ne hne) e3 hdg h1, h2⟩
    · cases h
  · rename_i v hfk
    obtain ⟨h1, h2⟩ := hk _ _ h hv2.2 (MOK_sJ hm)
    exact ⟨x_put hx e2 hq hqx (by omega) (fun ρ => by rw [ct_long x hx y e2 hfk]; exact ⟨rfl, rfl⟩) (fun ρ => by simp [fv, hfk, sJ, cv]) (fun ρ i hi => by simp [fv, sJ, hi]) (fun ρ cA q' hne => ce_sJ_ne hne) e3 hdg h1, h2⟩
  · rename_i v hfk
    split at h
    · rename_i g1 g2
      have g1 := nb g1; have g2 := nb g2
      obtain ⟨h1, h2⟩ := hk _ _ h hv2.2 (MOK_sRf hwt hm hq hqx hx e2 hfk (by
        have := fm_lt x hx y e2 hfk
        have hvw := VOK_in hv.1 (by omega)
        rw [← g1, ← g2]; exact hvw))
      exact ⟨x_put hx e2 hq hqx (by omega) (fun ρ => ct_ref x hx y e2 hfk _) (fun ρ => by simp [fv, hfk, sR, cv]) (fun ρ i hi => by simp [fv, sR, hi]) (fun ρ cA q' hne => ce_sR_ne hne) e3 hdg h1, h2⟩
    · cases h
  · cases h
theorem stepK_sound (hclo : Clo w) (hwt : WT w) (hmd : ∀ x md, mdT x = some md → MDk md) {md : MD} {e : Ent} (hok : okE md pc e = true)
    (hcall : ∀ x as M r', call x as M = some r' → VOKs w as → MOK w M → ∃ md, mdT x = some md ∧ recvOK md.2.2.2.2.2 as = true ∧ CSem w md.1 md.2.1 md.2.2.1 md.2.2.2.1 d as M r' ∧ ROK w r')
    (hback : ∀ pc' lv' M', back pc' lv' M' = some r → VOKl w lv' → MOK w M' → WQ w (ownS md.2.2.2.2.1) md.2.1 md.2.2.1 md.2.2.2.1 (d + 1) pc' lv' [] M' r)
    (hk : ∀ pc' lv' st' M', k pc' lv' st' M' = some r → VOKl w lv' → VOKs w st' → MOK w M' → WQ w (ownS md.2.2.2.2.1) md.2.1 md.2.2.1 md.2.2.2.1 (d + 1) pc' lv' st' M' r)
    (h : stepK call back k e pc lv st M = some r) (hvl : VOKl w lv) (hvs : VOKs w st) (hm : MOK w M) : WQ w (ownS md.2.2.2.2.1) md.2.1 md.2.2.1 md.2.2.2.1 (d + 1) pc lv st M r := by
  obtain ⟨yn, cc, nL, ret, ow, tg⟩ := md
  obtain ⟨i, len, x, y, z, cI, cJ⟩ := e
  simp only [okE, Bool.and_eq_true, decide_eq_true_eq] at hok
  obtain ⟨hdg, hok⟩ := hok
  dsimp only at hback hk ⊢
  cases i
  case iconst n =>
    simp only [okI, Bool.and_eq_true, decide_eq_true_eq] at hok
    obtain ⟨hv, hl⟩ := hok
    have hl := nb hl; subst hl; subst hv
    obtain ⟨h1, h2⟩ := hk _ _ _ _ h hvl (VOKs_cons.mpr ⟨trivial, hvs⟩) hm
    exact ⟨x_int (fun hx hb _ _ kk => lv_iconst hx hb hdg rfl kk) h1, h2⟩
  case bipush n =>
    simp only [okI, Bool.and_eq_true, decide_eq_true_eq] at hok
    obtain ⟨hv, hl⟩ := hok
    have hl := nb hl; subst hl; subst hv
    obtain ⟨h1, h2⟩ := hk _ _ _ _ h hvl (VOKs_cons.mpr ⟨trivial, hvs⟩) hm
    exact ⟨x_int (fun hx hb _ _ kk => lv_bipush hx hb hdg rfl kk) h1, h2⟩
  case sipush n =>
    simp only [okI, Bool.and_eq_true, decide_eq_true_eq] at hok
    obtain ⟨hv, hl⟩ := hok
    have hl := nb hl; subst hl; subst hv
    obtain ⟨h1, h2⟩ := hk _ _ _ _ h hvl (VOKs_cons.mpr ⟨trivial, hvs⟩) hm
    exact ⟨x_int (fun hx hb _ _ kk => lv_sipush hx hb hdg rfl kk) h1, h2⟩
  case ldc n =>
    simp only [okI, Bool.and_eq_true, decide_eq_true_eq] at hok
    obtain ⟨hl, hok⟩ := hok
    have hl := nb hl; subst hl
    simp only [stepK] at h
    split at h
    · have hc := cT_use hok
      obtain ⟨h1, h2⟩ := hk _ _ _ _ h hvl (VOKs_cons.mpr ⟨trivial, hvs⟩) hm
      exact ⟨x_int (fun hx hb ho ht kk => W.ldc hx hb ho (ht _ hc) rfl hdg kk) h1, h2⟩
    · split at hok
      · rename_i hz; exact absurd rfl hz
      · simp only [Bool.and_eq_true] at hok
        obtain ⟨tx, hs⟩ := sT_use hok.2
        have hy := nl hok.1
        obtain ⟨h1, h2⟩ := hk _ _ _ _ h hvl (VOKs_cons.mpr ⟨Or.inr (Or.inl ⟨y, hy, rfl⟩), hvs⟩) hm
        exact ⟨x_ldcs hs hdg h1, h2⟩
  case ldc_w n =>
    simp only [okI, Bool.and_eq_true, decide_eq_true_eq] at hok
    obtain ⟨hl, hok⟩ := hok
    have hl := nb hl; subst hl
    have hc := cT_use hok
    obtain ⟨h1, h2⟩ := hk _ _ _ _ h hvl (VOKs_cons.mpr ⟨trivial, hvs⟩) hm
    exact ⟨x_int (fun hx hb ho ht kk => by
      intro T hT X
      obtain ⟨t, a1, b1⟩ := kk T hT X
      exact ⟨t, va_ldcwI X hx ho (ht _ hc) rfl (by rw [hb]; exact hdg) t a1, b1⟩) h1, h2⟩
  case ldc2_w n =>
    simp only [okI, Bool.and_eq_true, decide_eq_true_eq] at hok
    obtain ⟨hl, hok⟩ := hok
    have hl := nb hl; subst hl
    have hc := lT_use hok
    obtain ⟨h1, h2⟩ := hk _ _ _ _ h hvl (VOKs_cons.mpr ⟨trivial, hvs⟩) hm
    exact ⟨x_long (fun hx hb ho ht kk => W.ldc2 hx hb ho (ht _ hc) rfl hdg kk) h1, h2⟩
  case lconst n =>
    simp only [okI, Bool.and_eq_true, decide_eq_true_eq] at hok
    obtain ⟨hv, hl⟩ := hok
    have hl := nb hl; subst hl; subst hv
    obtain ⟨h1, h2⟩ := hk _ _ _ _ h hvl (VOKs_cons.mpr ⟨trivial, hvs⟩) hm
    exact ⟨x_long (fun hx hb _ _ kk => lv_lconst hx hb hdg rfl kk) h1, h2⟩
  case getstatic n =>
    simp only [okI, Bool.and_eq_true, decide_eq_true_eq] at hok
    obtain ⟨hl, hok⟩ := hok
    have hl := nb hl; subst hl
    simp only [stepK] at h
    rcases gT_use hok with ⟨hz, hg⟩ | ⟨hz, hg⟩
    · subst hz
      obtain ⟨h1, h2⟩ := hk _ _ _ _ h hvl (VOKs_cons.mpr ⟨trivial, hvs⟩) hm
      exact ⟨x_stat1 hg hdg h1, h2⟩
    · split at h
      · exact absurd rfl hz
      · obtain ⟨h1, h2⟩ := hk _ _ _ _ h hvl (VOKs_cons.mpr ⟨Or.inr (Or.inr (Or.inr rfl)), hvs⟩) hm
        exact ⟨x_stat2 hg hdg h1, h2⟩
  case iload_n n =>
    simp only [okI, Bool.and_eq_true, decide_eq_true_eq] at hok
    obtain ⟨hl, hn⟩ := hok
    have hl := nb hl; subst hl
    have hn := nb hn
    simp only [stepK] at h
    split at h
    · rename_i v hlv
      obtain ⟨h1, h2⟩ := hk _ _ _ _ h hvl (VOKs_cons.mpr ⟨hvl _ _ hlv, hvs⟩) hm
      exact ⟨x_ld hlv (fun hx hb hv kk => lv_iload_n hx hb hdg hn hv kk) h1, h2⟩
    · cases h
  case iload n =>
    simp only [okI, Bool.and_eq_true, decide_eq_true_eq] at hok
    obtain ⟨hl, hn⟩ := hok
    have hl := nb hl; subst hl
    have hn := nb hn
    subst hn
    simp only [stepK] at h
    split at h
    · rename_i v hlv
      obtain ⟨h1, h2⟩ := hk _ _ _ _ h hvl (VOKs_cons.mpr ⟨hvl _ _ hlv, hvs⟩) hm
      exact ⟨x_ld hlv (fun hx hb hv kk => lv_iload hx hb hdg hv kk) h1, h2⟩
    · cases h
  case lload_n n =>
    simp only [okI, Bool.and_eq_true, decide_eq_true_eq] at hok
    obtain ⟨hl, hn⟩ := hok
    have hl := nb hl; subst hl
    have hn := nb hn
    simp only [stepK] at h
    split at h
    · rename_i v hlv
      obtain ⟨h1, h2⟩ := hk _ _ _ _ h hvl (VOKs_cons.mpr ⟨hvl _ _ hlv, hvs⟩) hm
      exact ⟨x_ld hlv (fun hx hb hv kk => lv_lload_n hx hb hdg hn hv kk) h1, h2⟩
    · cases h
  case lload n =>
    simp only [okI, Bool.and_eq_true, decide_eq_true_eq] at hok
    obtain ⟨hl, hn⟩ := hok
    have hl := nb hl; subst hl
    have hn := nb hn
    subst hn
    simp only [stepK] at h
    split at h
    · rename_i v hlv
      obtain ⟨h1, h2⟩ := hk _ _ _ _ h hvl (VOKs_cons.mpr ⟨hvl _ _ hlv, hvs⟩) hm
      exact ⟨x_ld hlv (fun hx hb hv kk => lv_lload hx hb hdg hv kk) h1, h2⟩
    · cases h
  case aload_n n =>
    simp only [okI, Bool.and_eq_true, decide_eq_true_eq] at hok
    obtain ⟨hl, hn⟩ := hok
    have hl := nb hl; subst hl
    have hn := nb hn
    simp only [stepK] at h
    split at h
    · rename_i v hlv
      obtain ⟨h1, h2⟩ := hk _ _ _ _ h hvl (VOKs_cons.mpr ⟨hvl _ _ hlv, hvs⟩) hm
      exact ⟨x_ld hlv (fun hx hb hv kk => lv_aload_n hx hb hdg hn hv kk) h1, h2⟩
    · cases h
  case aload n =>
    simp only [okI, Bool.and_eq_true, decide_eq_true_eq] at hok
    obtain ⟨hl, hn⟩ := hok
    have hl := nb hl; subst hl
    have hn := nb hn
    subst hn
    simp only [stepK] at h
    split at h
    · rename_i v hlv
      obtain ⟨h1, h2⟩ := hk _ _ _ _ h hvl (VOKs_cons.mpr ⟨hvl _ _ hlv, hvs⟩) hm
      exact ⟨x_ld hlv (fun hx hb hv kk => lv_aload hx hb hdg hv kk) h1, h2⟩
    · cases h
  case istore_n n =>
    simp only [okI, Bool.and_eq_true, decide_eq_true_eq] at hok
    obtain ⟨⟨hl, hn⟩, hlt⟩ := hok
    have hl := nb hl; subst hl
    have hn := nb hn
    have hlt := nl hlt
    simp only [stepK] at h
    split at h
    · rename_i v st'
      have hv := VOKs_cons.mp hvs
      obtain ⟨h1, h2⟩ := hk _ _ _ _ h (VOKl_stl hvl hv.1) hv.2 hm
      refine ⟨?_, h2⟩
      intro p l e s m args below meth c dC dI cA ρ A H locs ls hB hK hP hD hS hlv
      obtain ⟨l0, g1, g2⟩ := id hlv
      exact lv_istore_n hB.1 hB.2.1 hdg hn g1 hlt rfl (fun ls' hl' => h1 p l e s m args below meth c dC dI cA ρ A H locs ls' hB hK hP hD hS (lvOK_stl (ls := ls) g2 hl'))
    · cases h
  case istore n =>
    simp only [okI, Bool.and_eq_true, decide_eq_true_eq] at hok
    obtain ⟨⟨hl, hn⟩, hlt⟩ := hok
    have hl := nb hl; subst hl
    have hn := nb hn
    have hlt := nl hlt
    subst hn
    simp only [stepK] at h
    split at h
    · rename_i v st'
      have hv := VOKs_cons.mp hvs
      obtain ⟨h1, h2⟩ := hk _ _ _ _ h (VOKl_stl hvl hv.1) hv.2 hm
      refine ⟨?_, h2⟩
      intro p l e s m args below meth c dC dI cA ρ A H locs ls hB hK hP hD hS hlv
      obtain ⟨l0, g1, g2⟩ := id hlv
      exact lv_istore hB.1 hB.2.1 hdg g1 hlt rfl (fun ls' hl' => h1 p l e s m args below meth c dC dI cA ρ A H locs ls' hB hK hP hD hS (lvOK_stl (ls := ls) g2 hl'))
    · cases h
  case astore_n n =>
    simp only [okI, Bool.and_eq_true, decide_eq_true_eq] at hok
    obtain ⟨⟨hl, hn⟩, hlt⟩ := hok
    have hl := nb hl; subst hl
    have hn := nb hn
    have hlt := nl hlt
    simp only [stepK] at h
    split at h
    · rename_i v st'
      have hv := VOKs_cons.mp hvs
      obtain ⟨h1, h2⟩ := hk _ _ _ _ h (VOKl_stl hvl hv.1) hv.2 hm
      refine ⟨?_, h2⟩
      intro p l e s m args below meth c dC dI cA ρ A H locs ls hB hK hP hD hS hlv
      obtain ⟨l0, g1, g2⟩ := id hlv
      exact lv_astore_n hB.1 hB.2.1 hdg hn g1 hlt rfl (fun ls' hl' => h1 p l e s m args below meth c dC dI cA ρ A H locs ls' hB hK hP hD hS (lvOK_stl (ls := ls) g2 hl'))
    · cases h
  case astore n =>
    simp only [okI, Bool.and_eq_true, decide_eq_true_eq] at hok
    obtain ⟨⟨hl, hn⟩, hlt⟩ := hok
    have hl := nb hl; subst hl
    have hn := nb hn
    have hlt := nl hlt
    subst hn
    simp only [stepK] at h
    split at h
    · rename_i v st'
      have hv := VOKs_cons.mp hvs
      obtain ⟨h1, h2⟩ := hk _ _ _ _ h (VOKl_stl hvl hv.1) hv.2 hm
      refine ⟨?_, h2⟩
      intro p l e s m args below meth c dC dI cA ρ A H locs ls hB hK hP hD hS hlv
      obtain ⟨l0, g1, g2⟩ := id hlv
      exact lv_astore hB.1 hB.2.1 hdg g1 hlt rfl (fun ls' hl' => h1 p l e s m args below meth c dC dI cA ρ A H locs ls' hB hK hP hD hS (lvOK_stl (ls := ls) g2 hl'))
    · cases h
  case lstore_n n =>
    simp only [okI, Bool.and_eq_true, decide_eq_true_eq] at hok
    obtain ⟨⟨hl, hn⟩, hlt⟩ := hok
    have hl := nb hl; subst hl
    have hn := nb hn
    have hlt := nl hlt
    simp only [stepK] at h
    split at h
    · rename_i v st'
      have hv := VOKs_cons.mp hvs
      obtain ⟨h1, h2⟩ := hk _ _ _ _ h (VOKl_stl2 hvl hv.1) hv.2 hm
      refine ⟨?_, h2⟩
      intro p l e s m args below meth c dC dI cA ρ A H locs ls hB hK hP hD hS hlv
      obtain ⟨l0, g1, g2⟩ := id hlv
      exact lv_lstore_n hB.1 hB.2.1 hdg hn g1 hlt rfl (fun ls' hl' => h1 p l e s m args below meth c dC dI cA ρ A H locs ls' hB hK hP hD hS (lvOK_stl2 (ls := ls) g2 hl'))
    · cases h
  case lstore n =>
    simp only [okI, Bool.and_eq_true, decide_eq_true_eq] at hok
    obtain ⟨⟨hl, hn⟩, hlt⟩ := hok
    have hl := nb hl; subst hl
    have hn := nb hn
    have hlt := nl hlt
    subst hn
    simp only [stepK] at h
    split at h
    · rename_i v st'
      have hv := VOKs_cons.mp hvs
      obtain ⟨h1, h2⟩ := hk _ _ _ _ h (VOKl_stl2 hvl hv.1) hv.2 hm
      refine ⟨?_, h2⟩
      intro p l e s m args below meth c dC dI cA ρ A H locs ls hB hK hP hD hS hlv
      obtain ⟨l0, g1, g2⟩ := id hlv
      exact lv_lstore hB.1 hB.2.1 hdg g1 hlt rfl (fun ls' hl' => h1 p l e s m args below meth c dC dI cA ρ A H locs ls' hB hK hP hD hS (lvOK_stl2 (ls := ls) g2 hl'))
    · cases h
  case iinc n c0 =>
    simp only [okI, Bool.and_eq_true, decide_eq_true_eq] at hok
    obtain ⟨⟨⟨hl, hn⟩, hlt⟩, hc⟩ := hok
    have hl := nb hl; subst hl
    have hn := nb hn; subst hn
    have hlt := nl hlt
    simp only [stepK] at h
    split at h
    · rename_i v hlv0
      obtain ⟨h1, h2⟩ := hk _ _ _ _ h (VOKl_stl hvl trivial) hvs hm
      refine ⟨?_, h2⟩
      intro p l e s m args below meth c dC dI cA ρ A H locs ls hB hK hP hD hS hlv
      obtain ⟨l0, g1, g2⟩ := id hlv
      obtain ⟨j, hj⟩ := List.getElem?_of_mem (g2 _ _ hlv0)
      exact lv_iinc (v := v + cI) hB.1 hB.2.1 hdg g1 hj (by rw [hc]) hlt rfl (fun ls' hl' => h1 p l e s m args below meth c dC dI cA ρ A H locs ls' hB hK hP hD hS (lvOK_stl (ls := ls) (v := .inl (v + cI)) g2 hl'))
    · cases h
  case iadd =>
    simp only [okI, Bool.and_eq_true, decide_eq_true_eq] at hok
    have hl := nb hok; subst hl
    obtain ⟨a, b, st', e1, e2⟩ := ib_some h
    subst e1
    have hv := (VOKs_cons.mp (VOKs_cons.mp hvs).2).2
    obtain ⟨h1, h2⟩ := hk _ _ _ _ e2 hvl (VOKs_cons.mpr ⟨trivial, hv⟩) hm
    exact ⟨x_st (fun hx hb kk => lv_iadd hx hb hdg kk) h1, h2⟩
  case isub =>
    simp only [okI, Bool.and_eq_true, decide_eq_true_eq] at hok
    have hl := nb hok; subst hl
    obtain ⟨a, b, st', e1, e2⟩ := ib_some h
    subst e1
    have hv := (VOKs_cons.mp (VOKs_cons.mp hvs).2).2
    obtain ⟨h1, h2⟩ := hk _ _ _ _ e2 hvl (VOKs_cons.mpr ⟨trivial, hv⟩) hm
    exact ⟨x_st (fun hx hb kk => lv_isub hx hb hdg kk) h1, h2⟩
  case imul =>
    simp only [okI, Bool.and_eq_true, decide_eq_true_eq] at hok
    have hl := nb hok; subst hl
    obtain ⟨a, b, st', e1, e2⟩ := ib_some h
    subst e1
    have hv := (VOKs_cons.mp (VOKs_cons.mp hvs).2).2
    obtain ⟨h1, h2⟩ := hk _ _ _ _ e2 hvl (VOKs_cons.mpr ⟨trivial, hv⟩) hm
    exact ⟨x_st (fun hx hb kk => lv_imul hx hb hdg kk) h1, h2⟩
  case iand =>
    simp only [okI, Bool.and_eq_true, decide_eq_true_eq] at hok
    have hl := nb hok; subst hl
    obtain ⟨a, b, st', e1, e2⟩ := ib_some h
    subst e1
    have hv := (VOKs_cons.mp (VOKs_cons.mp hvs).2).2
    obtain ⟨h1, h2⟩ := hk _ _ _ _ e2 hvl (VOKs_cons.mpr ⟨trivial, hv⟩) hm
    exact ⟨x_st (fun hx hb kk => lv_iand hx hb hdg kk) h1, h2⟩
  case ior =>
    simp only [okI, Bool.and_eq_true, decide_eq_true_eq] at hok
    have hl := nb hok; subst hl
    obtain ⟨a, b, st', e1, e2⟩ := ib_some h
    subst e1
    have hv := (VOKs_cons.mp (VOKs_cons.mp hvs).2).2
    obtain ⟨h1, h2⟩ := hk _ _ _ _ e2 hvl (VOKs_cons.mpr ⟨trivial, hv⟩) hm
    exact ⟨x_st (fun hx hb kk => lv_ior hx hb hdg kk) h1, h2⟩
  case ixor =>
    simp only [okI, Bool.and_eq_true, decide_eq_true_eq] at hok
    have hl := nb hok; subst hl
    obtain ⟨a, b, st', e1, e2⟩ := ib_some h
    subst e1
    have hv := (VOKs_cons.mp (VOKs_cons.mp hvs).2).2
    obtain ⟨h1, h2⟩ := hk _ _ _ _ e2 hvl (VOKs_cons.mpr ⟨trivial, hv⟩) hm
    exact ⟨x_st (fun hx hb kk => lv_ixor hx hb hdg kk) h1, h2⟩
  case ishl =>
    simp only [okI, Bool.and_eq_true, decide_eq_true_eq] at hok
    have hl := nb hok; subst hl
    obtain ⟨a, b, st', e1, e2⟩ := ib_some h
    subst e1
    have hv := (VOKs_cons.mp (VOKs_cons.mp hvs).2).2
    obtain ⟨h1, h2⟩ := hk _ _ _ _ e2 hvl (VOKs_cons.mpr ⟨trivial, hv⟩) hm
    exact ⟨x_st (fun hx hb kk => lv_ishl hx hb hdg kk) h1, h2⟩
  case ishr =>
    simp only [okI, Bool.and_eq_true, decide_eq_true_eq] at hok
    have hl := nb hok; subst hl
    obtain ⟨a, b, st', e1, e2⟩ := ib_some h
    subst e1
    have hv := (VOKs_cons.mp (VOKs_cons.mp hvs).2).2
    obtain ⟨h1, h2⟩ := hk _ _ _ _ e2 hvl (VOKs_cons.mpr ⟨trivial, hv⟩) hm
    exact ⟨x_st (fun hx hb kk => lv_ishr hx hb hdg kk) h1, h2⟩
  case iushr =>
    simp only [okI, Bool.and_eq_true, decide_eq_true_eq] at hok
    have hl := nb hok; subst hl
    obtain ⟨a, b, st', e1, e2⟩ := ib_some h
    subst e1
    have hv := (VOKs_cons.mp (VOKs_cons.mp hvs).2).2
    obtain ⟨h1, h2⟩ := hk _ _ _ _ e2 hvl (VOKs_cons.mpr ⟨trivial, hv⟩) hm
    exact ⟨x_st (fun hx hb kk => lv_iushr hx hb hdg rfl kk) h1, h2⟩
  case ladd =>
    simp only [okI, Bool.and_eq_true, decide_eq_true_eq] at hok
    have hl := nb hok; subst hl
    obtain ⟨a, b, st', e1, e2⟩ := jb_some h
    subst e1
    have hv := (VOKs_cons.mp (VOKs_cons.mp hvs).2).2
    obtain ⟨h1, h2⟩ := hk _ _ _ _ e2 hvl (VOKs_cons.mpr ⟨trivial, hv⟩) hm
    exact ⟨x_st (fun hx hb kk => lv_ladd hx hb hdg kk) h1, h2⟩
  case lsub =>
    simp only [okI, Bool.and_eq_true, decide_eq_true_eq] at hok
    have hl := nb hok; subst hl
    obtain ⟨a, b, st', e1, e2⟩ := jb_some h
    subst e1
    have hv := (VOKs_cons.mp (VOKs_cons.mp hvs).2).2
    obtain ⟨h1, h2⟩ := hk _ _ _ _ e2 hvl (VOKs_cons.mpr ⟨trivial, hv⟩) hm
    exact ⟨x_st (fun hx hb kk => lv_lsub hx hb hdg kk) h1, h2⟩
  case lmul =>
    simp only [okI, Bool.and_eq_true, decide_eq_true_eq] at hok
    have hl := nb hok; subst hl
    obtain ⟨a, b, st', e1, e2⟩ := jb_some h
    subst e1
    have hv := (VOKs_cons.mp (VOKs_cons.mp hvs).2).2
    obtain ⟨h1, h2⟩ := hk _ _ _ _ e2 hvl (VOKs_cons.mpr ⟨trivial, hv⟩) hm
    exact ⟨x_st (fun hx hb kk => lv_lmul hx hb hdg kk) h1, h2⟩
  case land =>
    simp only [okI, Bool.and_eq_true, decide_eq_true_eq] at hok
    have hl := nb hok; subst hl
    obtain ⟨a, b, st', e1, e2⟩ := jb_some h
    subst e1
    have hv := (VOKs_cons.mp (VOKs_cons.mp hvs).2).2
    obtain ⟨h1, h2⟩ := hk _ _ _ _ e2 hvl (VOKs_cons.mpr ⟨trivial, hv⟩) hm
    exact ⟨x_st (fun hx hb kk => lv_land hx hb hdg kk) h1, h2⟩
  case lor =>
    simp only [okI, Bool.and_eq_true, decide_eq_true_eq] at hok
    have hl := nb hok; subst hl
    obtain ⟨a, b, st', e1, e2⟩ := jb_some h
    subst e1
    have hv := (VOKs_cons.mp (VOKs_cons.mp hvs).2).2
    obtain ⟨h1, h2⟩ := hk _ _ _ _ e2 hvl (VOKs_cons.mpr ⟨trivial, hv⟩) hm
    exact ⟨x_st (fun hx hb kk => lv_lor hx hb hdg kk) h1, h2⟩
  case idiv =>
    simp only [okI, Bool.and_eq_true, decide_eq_true_eq] at hok
    have hl := nb hok; subst hl
    simp only [stepK] at h
    split at h
    · unfold ic at h; split at h
      · cases h
      · rename_i hne
        have hv := (VOKs_cons.mp (VOKs_cons.mp hvs).2).2
        obtain ⟨h1, h2⟩ := hk _ _ _ _ h hvl (VOKs_cons.mpr ⟨trivial, hv⟩) hm
        exact ⟨x_st (fun hx hb kk => lv_idiv hx hb hdg hne kk) h1, h2⟩
    · cases h
  case irem =>
    simp only [okI, Bool.and_eq_true, decide_eq_true_eq] at hok
    have hl := nb hok; subst hl
    simp only [stepK] at h
    split at h
    · unfold ic at h; split at h
      · cases h
      · rename_i hne
        have hv := (VOKs_cons.mp (VOKs_cons.mp hvs).2).2
        obtain ⟨h1, h2⟩ := hk _ _ _ _ h hvl (VOKs_cons.mpr ⟨trivial, hv⟩) hm
        exact ⟨x_st (fun hx hb kk => lv_irem hx hb hdg hne kk) h1, h2⟩
    · cases h
  case ldiv =>
    simp only [okI, Bool.and_eq_true, decide_eq_true_eq] at hok
    have hl := nb hok; subst hl
    simp only [stepK] at h
    split at h
    · unfold ic at h; split at h
      · cases h
      · rename_i hne
        have hv := (VOKs_cons.mp (VOKs_cons.mp hvs).2).2
        obtain ⟨h1, h2⟩ := hk _ _ _ _ h hvl (VOKs_cons.mpr ⟨trivial, hv⟩) hm
        exact ⟨x_st (fun hx hb kk => lv_ldiv hx hb hdg hne kk) h1, h2⟩
    · cases h
  case lrem =>
    simp only [okI, Bool.and_eq_true, decide_eq_true_eq] at hok
    have hl := nb hok; subst hl
    simp only [stepK] at h
    split at h
    · unfold ic at h; split at h
      · cases h
      · rename_i hne
        have hv := (VOKs_cons.mp (VOKs_cons.mp hvs).2).2
        obtain ⟨h1, h2⟩ := hk _ _ _ _ h hvl (VOKs_cons.mpr ⟨trivial, hv⟩) hm
        exact ⟨x_st (fun hx hb kk => lv_lrem hx hb hdg hne kk) h1, h2⟩
    · cases h
  case ineg =>
    simp only [okI, Bool.and_eq_true, decide_eq_true_eq] at hok
    have hl := nb hok; subst hl
    simp only [stepK] at h
    split at h
    · have hv := (VOKs_cons.mp hvs).2
      obtain ⟨h1, h2⟩ := hk _ _ _ _ h hvl (VOKs_cons.mpr ⟨trivial, hv⟩) hm
      exact ⟨x_st (fun hx hb kk => lv_ineg hx hb hdg kk) h1, h2⟩
    · cases h
  case lshl =>
    simp only [okI, Bool.and_eq_true, decide_eq_true_eq] at hok
    have hl := nb hok; subst hl
    simp only [stepK] at h
    split at h
    · have hv := (VOKs_cons.mp (VOKs_cons.mp hvs).2).2
      obtain ⟨h1, h2⟩ := hk _ _ _ _ h hvl (VOKs_cons.mpr ⟨trivial, hv⟩) hm
      exact ⟨x_st (fun hx hb kk => lv_lshl hx hb hdg rfl kk) h1, h2⟩
    · cases h
  case lshr =>
    simp only [okI, Bool.and_eq_true, decide_eq_true_eq] at hok
    have hl := nb hok; subst hl
    simp only [stepK] at h
    split at h
    · have hv := (VOKs_cons.mp (VOKs_cons.mp hvs).2).2
      obtain ⟨h1, h2⟩ := hk _ _ _ _ h hvl (VOKs_cons.mpr ⟨trivial, hv⟩) hm
      exact ⟨x_st (fun hx hb kk => lv_lshr hx hb hdg rfl kk) h1, h2⟩
    · cases h
  case lushr =>
    simp only [okI, Bool.and_eq_true, decide_eq_true_eq] at hok
    have hl := nb hok; subst hl
    simp only [stepK] at h
    split at h
    · have hv := (VOKs_cons.mp (VOKs_cons.mp hvs).2).2
      obtain ⟨h1, h2⟩ := hk _ _ _ _ h hvl (VOKs_cons.mpr ⟨trivial, hv⟩) hm
      exact ⟨x_st (fun hx hb kk => lv_lushr hx hb hdg rfl kk) h1, h2⟩
    · cases h
  case lcmp =>
    simp only [okI, Bool.and_eq_true, decide_eq_true_eq] at hok
    have hl := nb hok; subst hl
    simp only [stepK] at h
    split at h
    · have hv := (VOKs_cons.mp (VOKs_cons.mp hvs).2).2
      obtain ⟨h1, h2⟩ := hk _ _ _ _ h hvl (VOKs_cons.mpr ⟨trivial, hv⟩) hm
      exact ⟨x_st (fun hx hb kk => W.lcmp hx hb hdg kk) h1, h2⟩
    · cases h
  case i2l =>
    simp only [okI, Bool.and_eq_true, decide_eq_true_eq] at hok
    have hl := nb hok; subst hl
    simp only [stepK] at h
    split at h
    · have hv := (VOKs_cons.mp hvs).2
      obtain ⟨h1, h2⟩ := hk _ _ _ _ h hvl (VOKs_cons.mpr ⟨trivial, hv⟩) hm
      exact ⟨x_st (fun hx hb kk => lv_i2l hx hb hdg rfl kk) h1, h2⟩
    · cases h
  case l2i =>
    simp only [okI, Bool.and_eq_true, decide_eq_true_eq] at hok
    have hl := nb hok; subst hl
    simp only [stepK] at h
    split at h
    · have hv := (VOKs_cons.mp hvs).2
      obtain ⟨h1, h2⟩ := hk _ _ _ _ h hvl (VOKs_cons.mpr ⟨trivial, hv⟩) hm
      exact ⟨x_st (fun hx hb kk => lv_l2i hx hb hdg rfl kk) h1, h2⟩
    · cases h
  case i2c =>
    simp only [okI, Bool.and_eq_true, decide_eq_true_eq] at hok
    have hl := nb hok; subst hl
    simp only [stepK] at h
    split at h
    · have hv := (VOKs_cons.mp hvs).2
      obtain ⟨h1, h2⟩ := hk _ _ _ _ h hvl (VOKs_cons.mpr ⟨trivial, hv⟩) hm
      exact ⟨x_st (fun hx hb kk => lv_i2c hx hb hdg rfl kk) h1, h2⟩
    · cases h
  case i2b =>
    simp only [okI, Bool.and_eq_true, decide_eq_true_eq] at hok
    have hl := nb hok; subst hl
    simp only [stepK] at h
    split at h
    · have hv := (VOKs_cons.mp hvs).2
      obtain ⟨h1, h2⟩ := hk _ _ _ _ h hvl (VOKs_cons.mpr ⟨trivial, hv⟩) hm
      exact ⟨x_st (fun hx hb kk => lv_i2b hx hb hdg rfl kk) h1, h2⟩
    · cases h
  case pop =>
    simp only [okI, Bool.and_eq_true, decide_eq_true_eq] at hok
    have hl := nb hok; subst hl
    simp only [stepK] at h
    split at h
    · have hv := (VOKs_cons.mp hvs).2
      obtain ⟨h1, h2⟩ := hk _ _ _ _ h hvl (hv) hm
      exact ⟨x_st (fun hx hb kk => lv_pop hx hb hdg rfl kk) h1, h2⟩
    · cases h
  case dup =>
    simp only [okI, Bool.and_eq_true, decide_eq_true_eq] at hok
    have hl := nb hok; subst hl
    simp only [stepK] at h
    split at h
    · have hv := VOKs_cons.mp hvs
      obtain ⟨h1, h2⟩ := hk _ _ _ _ h hvl (VOKs_cons.mpr ⟨hv.1, hvs⟩) hm
      exact ⟨x_st (fun hx hb kk => lv_dup hx hb hdg rfl kk) h1, h2⟩
    · have hv := VOKs_cons.mp hvs
      obtain ⟨h1, h2⟩ := hk _ _ _ _ h hvl (VOKs_cons.mpr ⟨hv.1, hvs⟩) hm
      exact ⟨x_st (fun hx hb kk => lv_dup hx hb hdg rfl kk) h1, h2⟩
    · cases h
  case dup2 =>
    simp only [okI, Bool.and_eq_true, decide_eq_true_eq] at hok
    have hl := nb hok; subst hl
    simp only [stepK] at h
    split at h
    · have hv := VOKs_cons.mp hvs
      have hv2 := VOKs_cons.mp hv.2
      obtain ⟨h1, h2⟩ := hk _ _ _ _ h hvl (VOKs_cons.mpr ⟨hv.1, VOKs_cons.mpr ⟨hv2.1, hvs⟩⟩) hm
      exact ⟨x_st (fun hx hb kk => lv_dup2_11 hx hb hdg rfl rfl kk) h1, h2⟩
    · cases h
  case ifCond c0 off =>
    simp only [okI, Bool.and_eq_true, decide_eq_true_eq] at hok
    obtain ⟨hl, ht⟩ := hok
    have hl := nb hl; subst hl
    simp only [stepK] at h
    split at h
    · have hv := (VOKs_cons.mp hvs).2
      exact ifc_sound hdg ht (fun z => jmp_sound hback hk z hvl hv hm) (fun z => hk _ _ _ _ z hvl hv hm) h
    · cases h
  case if_icmp c0 off =>
    simp only [okI, Bool.and_eq_true, decide_eq_true_eq] at hok
    obtain ⟨hl, ht⟩ := hok
    have hl := nb hl; subst hl
    simp only [stepK] at h
    split at h
    · have hv := (VOKs_cons.mp (VOKs_cons.mp hvs).2).2
      exact icmp_sound hdg ht (fun z => jmp_sound hback hk z hvl hv hm) (fun z => hk _ _ _ _ z hvl hv hm) h
    · cases h
  case goto off =>
    simp only [okI, Bool.and_eq_true, decide_eq_true_eq] at hok
    obtain ⟨hl, ht⟩ := hok
    have hl := nb hl; subst hl
    obtain ⟨h1, h2⟩ := jmp_sound hback hk h hvl hvs hm
    exact ⟨x_st (fun hx hb kk => lv_goto hx hb hdg ht kk) h1, h2⟩
  case tableswitch df lo hi os =>
    simp only [okI, Bool.and_eq_true, decide_eq_true_eq] at hok
    obtain ⟨⟨⟨⟨g1, g2⟩, g3⟩, g4⟩, g5⟩ := hok
    simp only [stepK] at h
    split at h
    · rename_i v st'
      have hv := (VOKs_cons.mp hvs).2
      rcases sw_find os.toList lo h g4 (by omega) with ⟨j, j1, j2, o, j3, j4⟩ | ⟨j1, j2⟩
      · have ho := of_decide_eq_true (List.all_eq_true.mp g2 o (List.mem_of_getElem? j3))
        obtain ⟨h1, h2⟩ := hk _ _ _ _ j4 hvl hv hm
        refine ⟨x_st (fun hx hb kk => lv_tableIn hx hb hdg (by omega) (by omega) (off := o) ?_ (by omega) kk) h1, h2⟩
        rw [show (v.toInt - lo).toNat = j by omega]
        simpa using j3
      · obtain ⟨h1, h2⟩ := hk _ _ _ _ j2 hvl hv hm
        exact ⟨x_st (fun hx hb kk => lv_tableOut hx hb hdg (by omega) (by omega) kk) h1, h2⟩
    · cases h
  case getfield idx =>
    simp only [okI, Bool.and_eq_true, decide_eq_true_eq] at hok
    obtain ⟨hl, hf⟩ := hok
    have hl := nb hl; subst hl
    simp only [stepK, gfK] at h
    split at h
    case h_2 => cases h
    rename_i q st'
    have hv := VOKs_cons.mp hvs
    split at h
    case h_2 => cases h
    rename_i hqx
    have hqx := nb hqx
    split at h
    · rename_i h40
      have h40 := nb h40
      obtain ⟨i, hi, hq⟩ := VOK_str hwt hv.1 h40
      subst hq
      rcases fT_use hf with ⟨e1, e2, e3⟩ | ⟨e1, e2, e3⟩ | ⟨e1, -, -⟩
      · subst e2
        obtain ⟨h1, h2⟩ := hk _ _ _ _ h hvl (VOKs_cons.mpr ⟨Or.inr (Or.inr (Or.inl ⟨i, hi, rfl⟩)), hv.2⟩) hm
        exact ⟨x_sval hi e3 hdg h1, h2⟩
      · subst e2
        obtain ⟨h1, h2⟩ := hk _ _ _ _ h hvl (VOKs_cons.mpr ⟨trivial, hv.2⟩) hm
        exact ⟨x_scod hi e3 hdg h1, h2⟩
      · omega
    · rename_i h40
      have h40 : q.1 ≠ 40 := fun z => by rw [z] at h40; simp at h40
      rcases fT_use hf with ⟨e1, -, -⟩ | ⟨e1, -, -⟩ | ⟨e1, e2, e3⟩
      · omega
      · omega
      · have hq : q ∈ w := VOK_in hv.1 (by omega)
        obtain ⟨h1, h2⟩ := hk _ _ _ _ h hvl (VOKs_cons.mpr ⟨gf_ok hclo hm hq hqx e1 e2, hv.2⟩) hm
        exact ⟨x_get e1 e2 hq hqx e3 hdg h1, h2⟩
  case putfield idx =>
    simp only [okI, Bool.and_eq_true, decide_eq_true_eq] at hok
    obtain ⟨⟨hl, hx13⟩, hf⟩ := hok
    have hl := nb hl; subst hl
    have hx13 := nl hx13
    simp only [stepK] at h
    exact pf_sound hwt hx13 hf hdg (fun st' M' z hv hmm => hk _ _ _ _ z hvl hv hmm) h hvs hm
  case iaload =>
    simp only [okI, Bool.and_eq_true, decide_eq_true_eq] at hok
    have hl := nb hok; subst hl
    simp only [stepK] at h
    obtain ⟨i, q, st', e1, e2, e3, e4⟩ := alK_some h
    subst e1
    have hv := VOKs_cons.mp (VOKs_cons.mp hvs).2
    obtain ⟨h1, h2⟩ := hk _ _ _ _ e4 hvl (VOKs_cons.mpr ⟨trivial, hv.2⟩) hm
    exact ⟨x_iald (VOK_in hv.1 (by omega)) e2 e3 hdg h1, h2⟩
  case caload =>
    simp only [okI, Bool.and_eq_true, decide_eq_true_eq] at hok
    have hl := nb hok; subst hl
    simp only [stepK] at h
    obtain ⟨i, q, st', e1, e2, e3, e4⟩ := alK_some h
    subst e1
    have hv := VOKs_cons.mp (VOKs_cons.mp hvs).2
    obtain ⟨h1, h2⟩ := hk _ _ _ _ e4 hvl (VOKs_cons.mpr ⟨trivial, hv.2⟩) hm
    exact ⟨x_cald (VOK_in hv.1 (by omega)) e2 e3 hdg h1, h2⟩
  case laload =>
    simp only [okI, Bool.and_eq_true, decide_eq_true_eq] at hok
    have hl := nb hok; subst hl
    simp only [stepK] at h
    obtain ⟨i, q, st', e1, e2, e3, e4⟩ := alK_some h
    subst e1
    have hv := VOKs_cons.mp (VOKs_cons.mp hvs).2
    obtain ⟨h1, h2⟩ := hk _ _ _ _ e4 hvl (VOKs_cons.mpr ⟨trivial, hv.2⟩) hm
    exact ⟨x_lald (VOK_in hv.1 (by omega)) e2 e3 hdg h1, h2⟩
  case baload =>
    simp only [okI, Bool.and_eq_true, decide_eq_true_eq] at hok
    have hl := nb hok; subst hl
    simp only [stepK] at h
    split at h
    · obtain ⟨i, q, st', e1, e2, e3, e4⟩ := alK_some h
      subst e1
      have hv := VOKs_cons.mp (VOKs_cons.mp hvs).2
      obtain ⟨h1, h2⟩ := hk _ _ _ _ e4 hvl (VOKs_cons.mpr ⟨trivial, hv.2⟩) hm
      exact ⟨x_zald (VOK_in hv.1 (by omega)) e2 e3 hdg h1, h2⟩
    · obtain ⟨i, q, st', e1, e2, e3, e4⟩ := alK_some h
      subst e1
      have hv := VOKs_cons.mp (VOKs_cons.mp hvs).2
      obtain ⟨j, hj, hq⟩ := VOK_byt hwt hv.1 e2
      subst hq
      obtain ⟨h1, h2⟩ := hk _ _ _ _ e4 hvl (VOKs_cons.mpr ⟨trivial, hv.2⟩) hm
      rw [show (41, strL j, SV + j).2.2 - SV = j by show SV + j - SV = j; omega] at h1
      exact ⟨x_sbyt hj e3 hdg h1, h2⟩
  case aaload =>
    simp only [okI, Bool.and_eq_true, decide_eq_true_eq] at hok
    obtain ⟨hl, hz⟩ := hok
    have hl := nb hl; subst hl
    simp only [stepK] at h
    split at h
    · obtain ⟨i, q, st', e1, e2, e3, e4⟩ := alK_some h
      subst e1
      have hv := VOKs_cons.mp (VOKs_cons.mp hvs).2
      have hq := VOK_in hv.1 (by omega)
      obtain ⟨h1, h2⟩ := hk _ _ _ _ e4 hvl (VOKs_cons.mpr ⟨Or.inl (hm.2 q hq e2 _ (Nat.not_le.mp fun z => e3 (Or.inr z))), hv.2⟩) hm
      exact ⟨x_aald hq e2 e3 hdg h1, h2⟩
    · rename_i hz0
      have hz3 : z = 30 ∨ z = 31 ∨ z = 32 := by
        simp only [Bool.or_eq_true] at hz
        rcases hz with ((hz | hz) | hz) | hz
        · exact absurd (nb hz) hz0
        · exact Or.inl (nb hz)
        · exact Or.inr (Or.inl (nb hz))
        · exact Or.inr (Or.inr (nb hz))
      obtain ⟨i, q, st', e1, e2, e3, e4⟩ := alK_some h
      subst e1
      have hv := VOKs_cons.mp (VOKs_cons.mp hvs).2
      have hq := VOK_in hv.1 (by omega)
      have hin := hclo.2 q hq (by omega) _ (Nat.not_le.mp fun z => e3 (Or.inr z))
      rw [e2] at hin
      obtain ⟨h1, h2⟩ := hk _ _ _ _ e4 hvl (VOKs_cons.mpr ⟨Or.inl hin, hv.2⟩) hm
      exact ⟨x_gald hq (by omega) e3 hdg h1, h2⟩
  case iastore =>
    simp only [okI, Bool.and_eq_true, decide_eq_true_eq] at hok
    have hl := nb hok; subst hl
    obtain ⟨v, i, q, st', e1, e2, e3, e4⟩ := asK_some h
    subst e1
    have hv := VOKs_cons.mp (VOKs_cons.mp (VOKs_cons.mp hvs).2).2
    obtain ⟨h1, h2⟩ := hk _ _ _ _ e4 hvl hv.2 (MOK_sI hm)
    exact ⟨x_iast (VOK_in hv.1 (by omega)) e2 e3 hdg h1, h2⟩
  case castore =>
    simp only [okI, Bool.and_eq_true, decide_eq_true_eq] at hok
    have hl := nb hok; subst hl
    obtain ⟨v, i, q, st', e1, e2, e3, e4⟩ := asK_some h
    subst e1
    have hv := VOKs_cons.mp (VOKs_cons.mp (VOKs_cons.mp hvs).2).2
    obtain ⟨h1, h2⟩ := hk _ _ _ _ e4 hvl hv.2 (MOK_sI hm)
    exact ⟨x_cast (VOK_in hv.1 (by omega)) e2 e3 hdg h1, h2⟩
  case bastore =>
    simp only [okI, Bool.and_eq_true, decide_eq_true_eq] at hok
    have hl := nb hok; subst hl
    obtain ⟨v, i, q, st', e1, e2, e3, e4⟩ := asK_some h
    subst e1
    have hv := VOKs_cons.mp (VOKs_cons.mp (VOKs_cons.mp hvs).2).2
    obtain ⟨h1, h2⟩ := hk _ _ _ _ e4 hvl hv.2 (MOK_sI hm)
    exact ⟨x_zast (VOK_in hv.1 (by omega)) e2 e3 hdg h1, h2⟩
  case lastore =>
    simp only [okI, Bool.and_eq_true, decide_eq_true_eq] at hok
    have hl := nb hok; subst hl
    simp only [stepK] at h
    split at h
    case h_2 => cases h
    rename_i v i q st'
    split at h
    case h_2 => cases h
    rename_i hq
    have hq := nb hq
    unfold ic at h
    split at h
    · cases h
    · rename_i hin
      have hv := VOKs_cons.mp (VOKs_cons.mp (VOKs_cons.mp hvs).2).2
      obtain ⟨h1, h2⟩ := hk _ _ _ _ h hvl hv.2 (MOK_sJ hm)
      exact ⟨x_last (VOK_in hv.1 (by omega)) hq hin hdg h1, h2⟩
  case aastore =>
    simp only [okI, Bool.and_eq_true, decide_eq_true_eq] at hok
    have hl := nb hok; subst hl
    simp only [stepK] at h
    split at h
    case h_2 => cases h
    rename_i v i q st'
    split at h
    case h_2 => cases h
    rename_i hq hv6 hv0
    have hq := nb hq; have hv6 := nb hv6; have hv0 := nb hv0
    unfold ic at h
    split at h
    · cases h
    · rename_i hin
      have hv1 := VOKs_cons.mp hvs
      have hv := VOKs_cons.mp (VOKs_cons.mp hv1.2).2
      have hvw := VOK_in hv1.1 (by omega)
      obtain ⟨h1, h2⟩ := hk _ _ _ _ h hvl hv.2 (MOK_sR24 hwt hm hvw hv6 hv0 hq (VOK_in hv.1 (by omega)))
      exact ⟨x_aast (VOK_in hv.1 (by omega)) hq hvw hv6 hin hdg h1, h2⟩
  case arraylength =>
    simp only [okI, Bool.and_eq_true, decide_eq_true_eq] at hok
    have hl := nb hok; subst hl
    simp only [stepK] at h
    split at h
    case h_2 => cases h
    rename_i q st'
    have hv := VOKs_cons.mp hvs
    split at h
    case h_2 => cases h
    rename_i h20 h40 h41
    have h20 := Nat.le_of_ble_eq_true h20
    have h41 := Nat.le_of_ble_eq_true h41
    have h40 : q.1 ≠ 40 := fun z => by rw [z] at h40; simp at h40
    obtain ⟨h1, h2⟩ := hk _ _ _ _ h hvl (VOKs_cons.mpr ⟨trivial, hv.2⟩) hm
    rcases hv.1 with g | ⟨i, -, g⟩ | ⟨i, hi, g⟩ | g
    · refine ⟨x_alen g ?_ hdg h1, h2⟩
      rcases hwt.1 q g with g | g | g <;> omega
    · subst g; exact absurd rfl h40
    · subst g; exact ⟨x_slen hi hdg h1, h2⟩
    · subst g; simp at h41
  case invokevirtual idx =>
    simp only [okI, Bool.and_eq_true, decide_eq_true_eq] at hok
    obtain ⟨hl, hv⟩ := hok
    have hl := nb hl; subst hl
    exact inv_sound (virt := true) hwt hmd hcall hk hv hdg h hvl hvs hm
  case invokestatic idx =>
    simp only [okI, Bool.and_eq_true, decide_eq_true_eq] at hok
    obtain ⟨hl, hv⟩ := hok
    have hl := nb hl; subst hl
    simp only [stepK] at h
    split at h
    · exact cp_sound hv hdg (fun st' M' zz hvv hmm => hk _ _ _ _ zz hvl hvv hmm) h hvs hm
    · rename_i hz
      split at hv
      · exact absurd rfl hz
      · exact inv_sound (virt := false) hwt hmd hcall hk hv hdg h hvl hvs hm
  case ireturn =>
    simp only [okI, Bool.and_eq_true, decide_eq_true_eq] at hok
    obtain ⟨hl, hz⟩ := hok
    have hl := nb hl; subst hl
    simp only [stepK] at h
    split at h
    case h_2 => cases h
    rename_i v
    split at h
    · cases h; exact ⟨x_iret (of_decide_eq_true hz) rfl hdg, ⟨fun _ z => by cases z; trivial, hm⟩⟩
    · unfold ic at h; split at h
      · rename_i hn
        cases h; exact ⟨x_iret (of_decide_eq_true hz) (by show Value.int (v &&& 1) = _; rw [hn]) hdg, ⟨fun _ z => by cases z; trivial, hm⟩⟩
      · cases h
    · unfold ic at h; split at h
      · rename_i hn
        cases h; exact ⟨x_iret (of_decide_eq_true hz) (by rw [nar_byte_eq, hn]) hdg, ⟨fun _ z => by cases z; trivial, hm⟩⟩
      · cases h
    · rename_i z0 z1 z2
      split at hz
      · exact absurd rfl z0
      · exact absurd rfl z1
      · exact absurd rfl z2
      · unfold ic at h; split at h
        · rename_i hn
          cases h; exact ⟨x_iret (of_decide_eq_true hz) (by rw [nar_char_eq, hn]) hdg, ⟨fun _ z => by cases z; trivial, hm⟩⟩
        · cases h
  case lreturn =>
    simp only [okI, Bool.and_eq_true, decide_eq_true_eq] at hok
    obtain ⟨hl, hz⟩ := hok
    have hl := nb hl; subst hl
    simp only [stepK] at h
    split at h
    case h_2 => cases h
    cases h
    exact ⟨x_lret hz hdg, ⟨fun _ z => by cases z; trivial, hm⟩⟩
  case return_ =>
    simp only [okI, Bool.and_eq_true, decide_eq_true_eq] at hok
    obtain ⟨hl, hz⟩ := hok
    have hl := nb hl; subst hl
    simp only [stepK] at h
    split at h
    case h_2 => cases h
    cases h
    exact ⟨x_vret hz hdg, ⟨fun _ z => (by cases z), hm⟩⟩
  all_goals (first | (simp [stepK] at h; done))
end SNE
end
section
theorem pT_len : pT.length = 306 := by decide +kernel
theorem in_t1 {x : Cond} (h : x ∈ tables_1_1) (hg : goodWord x = true) : x ∈ lw_g := List.mem_filter.mpr ⟨List.mem_append_right _ (show x ∈ tables_1 from List.mem_append_left _ h), hg⟩
theorem in_t2 {x : Cond} (h : x ∈ tables_1_2) (hg : goodWord x = true) : x ∈ lw_g := List.mem_filter.mpr ⟨List.mem_append_right _ (show x ∈ tables_1 from List.mem_append_right _ (List.mem_append_left _ h)), hg⟩
theorem in_t3 {x : Cond} (h : x ∈ tables_1_3) (hg : goodWord x = true) : x ∈ lw_g := List.mem_filter.mpr ⟨List.mem_append_right _ (show x ∈ tables_1 from List.mem_append_right _ (List.mem_append_right _ (List.mem_append_left _ h))), hg⟩
theorem in_t4 {x : Cond} (h : x ∈ tables_1_4) (hg : goodWord x = true) : x ∈ lw_g := List.mem_filter.mpr ⟨List.mem_append_right _ (show x ∈ tables_1 from List.mem_append_right _ (List.mem_append_right _ (List.mem_append_right _ (List.mem_append_left _ h)))), hg⟩
theorem in_t5 {x : Cond} (h : x ∈ tables_1_5) (hg : goodWord x = true) : x ∈ lw_g := List.mem_filter.mpr ⟨List.mem_append_right _ (show x ∈ tables_1 from List.mem_append_right _ (List.mem_append_right _ (List.mem_append_right _ (List.mem_append_right _ (List.mem_append_left _ h))))), hg⟩
theorem in_t6 {x : Cond} (h : x ∈ tables_1_6) (hg : goodWord x = true) : x ∈ lw_g := List.mem_filter.mpr ⟨List.mem_append_right _ (show x ∈ tables_1 from List.mem_append_right _ (List.mem_append_right _ (List.mem_append_right _ (List.mem_append_right _ (List.mem_append_right _ (List.mem_append_left _ h)))))), hg⟩
theorem in_t7 {x : Cond} (h : x ∈ tables_1_7) (hg : goodWord x = true) : x ∈ lw_g := List.mem_filter.mpr ⟨List.mem_append_right _ (show x ∈ tables_1 from List.mem_append_right _ (List.mem_append_right _ (List.mem_append_right _ (List.mem_append_right _ (List.mem_append_right _ (List.mem_append_right _ (List.mem_append_left _ h))))))), hg⟩
theorem in_t8 {x : Cond} (h : x ∈ tables_1_8) (hg : goodWord x = true) : x ∈ lw_g := List.mem_filter.mpr ⟨List.mem_append_right _ (show x ∈ tables_1 from List.mem_append_right _ (List.mem_append_right _ (List.mem_append_right _ (List.mem_append_right _ (List.mem_append_right _ (List.mem_append_right _ (List.mem_append_right _ (List.mem_append_left _ h)))))))), hg⟩
theorem in_t9 {x : Cond} (h : x ∈ tables_1_9) (hg : goodWord x = true) : x ∈ lw_g := List.mem_filter.mpr ⟨List.mem_append_right _ (show x ∈ tables_1 from List.mem_append_right _ (List.mem_append_right _ (List.mem_append_right _ (List.mem_append_right _ (List.mem_append_right _ (List.mem_append_right _ (List.mem_append_right _ (List.mem_append_right _ (h))))))))), hg⟩
theorem mc_0 : Cond.code ⟨"IceParliament$Yard", "clear", "()V"⟩ prog_11_method_2_code 1 (Option.none : Option Jvm.ClassFile.FieldType) ∈ lw_g := in_t1 (List.mem_of_getElem? (i := 128) rfl) rfl
theorem mc_1 : Cond.code ⟨"IceParliament$Roll", "clear", "()V"⟩ prog_6_method_2_code 1 (Option.none : Option Jvm.ClassFile.FieldType) ∈ lw_g := in_t1 (List.mem_of_getElem? (i := 132) rfl) rfl
theorem mc_2 : Cond.code ⟨"java/util/Arrays", "fill", "([II)V"⟩ prog_30_method_103_code 4 (Option.none : Option Jvm.ClassFile.FieldType) ∈ lw_g := in_t1 (List.mem_of_getElem? (i := 135) rfl) rfl
theorem mc_3 : Cond.code ⟨"IceParliament$Law", "clear", "()V"⟩ prog_3_method_2_code 1 (Option.none : Option Jvm.ClassFile.FieldType) ∈ lw_g := in_t1 (List.mem_of_getElem? (i := 139) rfl) rfl
theorem mc_4 : Cond.code ⟨"IceParliament$Law", "add", "(I)V"⟩ prog_3_method_3_code 2 (Option.none : Option Jvm.ClassFile.FieldType) ∈ lw_g := in_t1 (List.mem_of_getElem? (i := 143) rfl) rfl
theorem mc_5 : Cond.code ⟨"IceParliament$State", "clear", "()V"⟩ prog_8_method_2_code 1 (Option.none : Option Jvm.ClassFile.FieldType) ∈ lw_g := in_t2 (List.mem_of_getElem? (i := 80) rfl) rfl
theorem mc_6 : Cond.code ⟨"IceParliament", "feed", "(JJJ)I"⟩ prog_1_method_2_code 7 (Option.some Jvm.ClassFile.FieldType.int) ∈ lw_g := in_t3 (List.mem_of_getElem? (i := 70) rfl) rfl
theorem mc_7 : Cond.code ⟨"IceParliament$Tape", "append", "(J)V"⟩ prog_9_method_2_code 5 (Option.none : Option Jvm.ClassFile.FieldType) ∈ lw_g := in_t3 (List.mem_of_getElem? (i := 74) rfl) rfl
theorem mc_8 : Cond.code ⟨"IceParliament", "yard", "()I"⟩ prog_1_method_3_code 2 (Option.some Jvm.ClassFile.FieldType.int) ∈ lw_g := in_t3 (List.mem_of_getElem? (i := 78) rfl) rfl
theorem mc_9 : Cond.code ⟨"IceParliament$YardReader", "read", "()I"⟩ prog_12_method_2_code 2 (Option.some Jvm.ClassFile.FieldType.int) ∈ lw_g := in_t3 (List.mem_of_getElem? (i := 82) rfl) rfl
theorem mc_10 : Cond.code ⟨"IceParliament$Tape", "rewind", "()V"⟩ prog_9_method_4_code 1 (Option.none : Option Jvm.ClassFile.FieldType) ∈ lw_g := in_t3 (List.mem_of_getElem? (i := 87) rfl) rfl
theorem mc_11 : Cond.code ⟨"IceParliament$Tape", "advance", "()V"⟩ prog_9_method_5_code 1 (Option.none : Option Jvm.ClassFile.FieldType) ∈ lw_g := in_t3 (List.mem_of_getElem? (i := 91) rfl) rfl
theorem mc_12 : Cond.code ⟨"IceParliament$Tape", "takeLetters", "()V"⟩ prog_9_method_6_code 1 (Option.none : Option Jvm.ClassFile.FieldType) ∈ lw_g := in_t3 (List.mem_of_getElem? (i := 95) rfl) rfl
theorem mc_13 : Cond.code ⟨"IceParliament$Tape", "takeDigits", "()V"⟩ prog_9_method_7_code 1 (Option.none : Option Jvm.ClassFile.FieldType) ∈ lw_g := in_t3 (List.mem_of_getElem? (i := 100) rfl) rfl
theorem mc_14 : Cond.code ⟨"java/lang/String", "indexOf", "(I)I"⟩ prog_23_method_79_code 2 (Option.some Jvm.ClassFile.FieldType.int) ∈ lw_g := in_t3 (List.mem_of_getElem? (i := 105) rfl) rfl
theorem mc_15 : Cond.code ⟨"java/lang/String", "indexOf", "(II)I"⟩ prog_23_method_80_code 3 (Option.some Jvm.ClassFile.FieldType.int) ∈ lw_g := in_t3 (List.mem_of_getElem? (i := 109) rfl) rfl
theorem mc_16 : Cond.code ⟨"java/lang/String", "isLatin1", "()Z"⟩ prog_23_method_154_code 1 (Option.some Jvm.ClassFile.FieldType.boolean) ∈ lw_g := in_t3 (List.mem_of_getElem? (i := 113) rfl) rfl
theorem mc_17 : Cond.code ⟨"java/lang/String", "length", "()I"⟩ prog_23_method_54_code 1 (Option.some Jvm.ClassFile.FieldType.int) ∈ lw_g := in_t3 (List.mem_of_getElem? (i := 119) rfl) rfl
theorem mc_18 : Cond.code ⟨"java/lang/String", "coder", "()B"⟩ prog_23_method_152_code 1 (Option.some Jvm.ClassFile.FieldType.byte) ∈ lw_g := in_t3 (List.mem_of_getElem? (i := 123) rfl) rfl
theorem mc_19 : Cond.code ⟨"java/lang/StringLatin1", "indexOf", "([BIII)I"⟩ prog_24_method_22_code 4 (Option.some Jvm.ClassFile.FieldType.int) ∈ lw_g := in_t3 (List.mem_of_getElem? (i := 126) rfl) rfl
theorem mc_20 : Cond.code ⟨"java/lang/StringLatin1", "canEncode", "(I)Z"⟩ prog_24_method_4_code 1 (Option.some Jvm.ClassFile.FieldType.boolean) ∈ lw_g := in_t3 (List.mem_of_getElem? (i := 129) rfl) rfl
theorem mc_21 : Cond.code ⟨"java/lang/Math", "max", "(II)I"⟩ prog_21_method_65_code 2 (Option.some Jvm.ClassFile.FieldType.int) ∈ lw_g := in_t3 (List.mem_of_getElem? (i := 132) rfl) rfl
theorem mc_22 : Cond.code ⟨"java/lang/Math", "min", "(II)I"⟩ prog_21_method_69_code 2 (Option.some Jvm.ClassFile.FieldType.int) ∈ lw_g := in_t3 (List.mem_of_getElem? (i := 135) rfl) rfl
theorem mc_23 : Cond.code ⟨"java/lang/StringLatin1", "indexOfChar", "([BIII)I"⟩ prog_24_method_23_code 6 (Option.some Jvm.ClassFile.FieldType.int) ∈ lw_g := in_t3 (List.mem_of_getElem? (i := 138) rfl) rfl
theorem mc_24 : Cond.code ⟨"java/lang/StringUTF16", "indexOf", "([BIII)I"⟩ prog_25_method_40_code 4 (Option.some Jvm.ClassFile.FieldType.int) ∈ lw_g := in_t3 (List.mem_of_getElem? (i := 141) rfl) rfl
theorem mc_25 : Cond.code ⟨"java/lang/StringUTF16", "indexOfChar", "([BIII)I"⟩ prog_25_method_47_code 4 (Option.some Jvm.ClassFile.FieldType.int) ∈ lw_g := in_t3 (List.mem_of_getElem? (i := 147) rfl) rfl
theorem mc_26 : Cond.code ⟨"java/lang/StringUTF16", "checkBoundsBeginEnd", "(II[B)V"⟩ prog_25_method_93_code 3 (Option.none : Option Jvm.ClassFile.FieldType) ∈ lw_g := in_t3 (List.mem_of_getElem? (i := 150) rfl) rfl
theorem mc_27 : Cond.code ⟨"java/lang/StringUTF16", "length", "([B)I"⟩ prog_25_method_6_code 1 (Option.some Jvm.ClassFile.FieldType.int) ∈ lw_g := in_t3 (List.mem_of_getElem? (i := 153) rfl) rfl
theorem mc_28 : Cond.code ⟨"java/lang/String", "checkBoundsBeginEnd", "(III)V"⟩ prog_23_method_158_code 3 (Option.none : Option Jvm.ClassFile.FieldType) ∈ lw_g := in_t3 (List.mem_of_getElem? (i := 156) rfl) rfl
theorem mc_29 : Cond.code ⟨"jdk/internal/util/Preconditions", "checkFromToIndex", "(IIILjava/util/function/BiFunction;)I"⟩ prog_32_method_12_code 4 (Option.some Jvm.ClassFile.FieldType.int) ∈ lw_g := in_t3 (List.mem_of_getElem? (i := 161) rfl) rfl
theorem mc_30 : Cond.code ⟨"java/lang/StringUTF16", "indexOfCharUnsafe", "([BIII)I"⟩ prog_25_method_48_code 5 (Option.some Jvm.ClassFile.FieldType.int) ∈ lw_g := in_t3 (List.mem_of_getElem? (i := 164) rfl) rfl
theorem mc_31 : Cond.code ⟨"java/lang/StringUTF16", "getChar", "([BI)C"⟩ prog_25_method_5_code 2 (Option.some Jvm.ClassFile.FieldType.char) ∈ lw_g := in_t3 (List.mem_of_getElem? (i := 167) rfl) rfl
theorem mc_32 : Cond.code ⟨"java/lang/StringUTF16", "indexOfSupplementary", "([BIII)I"⟩ prog_25_method_49_code 7 (Option.some Jvm.ClassFile.FieldType.int) ∈ lw_g := in_t3 (List.mem_of_getElem? (i := 176) rfl) rfl
theorem mc_33 : Cond.code ⟨"IceParliament$Tape", "atEnd", "()Z"⟩ prog_9_method_8_code 1 (Option.some Jvm.ClassFile.FieldType.boolean) ∈ lw_g := in_t3 (List.mem_of_getElem? (i := 191) rfl) rfl
theorem mc_34 : Cond.code ⟨"IceParliament$YardReader", "readLine", "()Z"⟩ prog_12_method_3_code 1 (Option.some Jvm.ClassFile.FieldType.boolean) ∈ lw_g := in_t3 (List.mem_of_getElem? (i := 195) rfl) rfl
theorem mc_35 : Cond.code ⟨"IceParliament$Tape", "isWord", "(Ljava/lang/String;)Z"⟩ prog_9_method_11_code 4 (Option.some Jvm.ClassFile.FieldType.boolean) ∈ lw_g := in_t3 (List.mem_of_getElem? (i := 200) rfl) rfl
theorem mc_36 : Cond.code ⟨"java/lang/String", "charAt", "(I)C"⟩ prog_23_method_56_code 2 (Option.some Jvm.ClassFile.FieldType.char) ∈ lw_g := in_t3 (List.mem_of_getElem? (i := 205) rfl) rfl
theorem mc_37 : Cond.code ⟨"java/lang/StringLatin1", "charAt", "([BI)C"⟩ prog_24_method_2_code 2 (Option.some Jvm.ClassFile.FieldType.char) ∈ lw_g := in_t3 (List.mem_of_getElem? (i := 208) rfl) rfl
theorem mc_38 : Cond.code ⟨"java/lang/String", "checkIndex", "(II)V"⟩ prog_23_method_155_code 2 (Option.none : Option Jvm.ClassFile.FieldType) ∈ lw_g := in_t3 (List.mem_of_getElem? (i := 211) rfl) rfl
theorem mc_39 : Cond.code ⟨"jdk/internal/util/Preconditions", "checkIndex", "(IILjava/util/function/BiFunction;)I"⟩ prog_32_method_11_code 3 (Option.some Jvm.ClassFile.FieldType.int) ∈ lw_g := in_t3 (List.mem_of_getElem? (i := 214) rfl) rfl
theorem mc_40 : Cond.code ⟨"java/lang/StringUTF16", "charAt", "([BI)C"⟩ prog_25_method_83_code 2 (Option.some Jvm.ClassFile.FieldType.char) ∈ lw_g := in_t3 (List.mem_of_getElem? (i := 217) rfl) rfl
theorem mc_41 : Cond.code ⟨"java/lang/StringUTF16", "checkIndex", "(I[B)V"⟩ prog_25_method_91_code 2 (Option.none : Option Jvm.ClassFile.FieldType) ∈ lw_g := in_t3 (List.mem_of_getElem? (i := 220) rfl) rfl
theorem mc_42 : Cond.code ⟨"IceParliament$YardReader", "readSpot", "()Z"⟩ prog_12_method_4_code 2 (Option.some Jvm.ClassFile.FieldType.boolean) ∈ lw_g := in_t3 (List.mem_of_getElem? (i := 225) rfl) rfl
theorem mc_43 : Cond.code ⟨"IceParliament$YardReader", "takeHead", "(LIceParliament$Roll;)Z"⟩ prog_12_method_7_code 2 (Option.some Jvm.ClassFile.FieldType.boolean) ∈ lw_g := in_t3 (List.mem_of_getElem? (i := 229) rfl) rfl
theorem mc_44 : Cond.code ⟨"IceParliament$Roll", "isFull", "()Z"⟩ prog_6_method_4_code 1 (Option.some Jvm.ClassFile.FieldType.boolean) ∈ lw_g := in_t3 (List.mem_of_getElem? (i := 233) rfl) rfl
theorem mc_45 : Cond.code ⟨"IceParliament$Tape", "wrong", "(I)Z"⟩ prog_9_method_13_code 2 (Option.some Jvm.ClassFile.FieldType.boolean) ∈ lw_g := in_t3 (List.mem_of_getElem? (i := 237) rfl) rfl
theorem mc_46 : Cond.code ⟨"IceParliament$Tape", "takeNewName", "(LIceParliament$Yard;LIceParliament$Roll;)Z"⟩ prog_9_method_18_code 3 (Option.some Jvm.ClassFile.FieldType.boolean) ∈ lw_g := in_t4 (List.mem_of_getElem? (i := 2) rfl) rfl
theorem mc_47 : Cond.code ⟨"IceParliament$Tape", "isName", "()Z"⟩ prog_9_method_12_code 5 (Option.some Jvm.ClassFile.FieldType.boolean) ∈ lw_g := in_t4 (List.mem_of_getElem? (i := 6) rfl) rfl
theorem mc_48 : Cond.code ⟨"IceParliament$Yard", "knows", "(J)Z"⟩ prog_11_method_4_code 3 (Option.some Jvm.ClassFile.FieldType.boolean) ∈ lw_g := in_t4 (List.mem_of_getElem? (i := 12) rfl) rfl
theorem mc_49 : Cond.code ⟨"IceParliament$Roll", "find", "(J)I"⟩ prog_6_method_6_code 4 (Option.some Jvm.ClassFile.FieldType.int) ∈ lw_g := in_t4 (List.mem_of_getElem? (i := 16) rfl) rfl
theorem mc_50 : Cond.code ⟨"IceParliament$Roll", "add", "(J)V"⟩ prog_6_method_5_code 3 (Option.none : Option Jvm.ClassFile.FieldType) ∈ lw_g := in_t4 (List.mem_of_getElem? (i := 20) rfl) rfl
theorem mc_51 : Cond.code ⟨"IceParliament$Tape", "takeNumber", "(Ljava/lang/String;II[II)Z"⟩ prog_9_method_17_code 6 (Option.some Jvm.ClassFile.FieldType.boolean) ∈ lw_g := in_t4 (List.mem_of_getElem? (i := 25) rfl) rfl
theorem mc_52 : Cond.code ⟨"IceParliament$Tape", "takeWord", "(Ljava/lang/String;)Z"⟩ prog_9_method_14_code 2 (Option.some Jvm.ClassFile.FieldType.boolean) ∈ lw_g := in_t4 (List.mem_of_getElem? (i := 29) rfl) rfl
theorem mc_53 : Cond.code ⟨"IceParliament$Tape", "seeNumber", "(II)Z"⟩ prog_9_method_16_code 3 (Option.some Jvm.ClassFile.FieldType.boolean) ∈ lw_g := in_t4 (List.mem_of_getElem? (i := 34) rfl) rfl
theorem mc_54 : Cond.code ⟨"IceParliament$Tape", "takeSign", "(C)Z"⟩ prog_9_method_15_code 2 (Option.some Jvm.ClassFile.FieldType.boolean) ∈ lw_g := in_t4 (List.mem_of_getElem? (i := 38) rfl) rfl
theorem mc_55 : Cond.code ⟨"IceParliament$Tape", "isSign", "(C)Z"⟩ prog_9_method_10_code 2 (Option.some Jvm.ClassFile.FieldType.boolean) ∈ lw_g := in_t4 (List.mem_of_getElem? (i := 42) rfl) rfl
theorem mc_56 : Cond.code ⟨"IceParliament$YardReader", "readCarver", "()Z"⟩ prog_12_method_5_code 2 (Option.some Jvm.ClassFile.FieldType.boolean) ∈ lw_g := in_t4 (List.mem_of_getElem? (i := 47) rfl) rfl
theorem mc_57 : Cond.code ⟨"IceParliament$YardReader", "takeSide", "(I)Z"⟩ prog_12_method_8_code 3 (Option.some Jvm.ClassFile.FieldType.boolean) ∈ lw_g := in_t4 (List.mem_of_getElem? (i := 51) rfl) rfl
theorem mc_58 : Cond.code ⟨"IceParliament$YardReader", "readAct", "()Z"⟩ prog_12_method_6_code 2 (Option.some Jvm.ClassFile.FieldType.boolean) ∈ lw_g := in_t4 (List.mem_of_getElem? (i := 59) rfl) rfl
theorem mc_59 : Cond.code ⟨"IceParliament$YardReader", "takeKind", "(I)Z"⟩ prog_12_method_9_code 2 (Option.some Jvm.ClassFile.FieldType.boolean) ∈ lw_g := in_t4 (List.mem_of_getElem? (i := 63) rfl) rfl
theorem mc_60 : Cond.code ⟨"IceParliament$YardReader", "takeMover", "(I)Z"⟩ prog_12_method_10_code 2 (Option.some Jvm.ClassFile.FieldType.boolean) ∈ lw_g := in_t4 (List.mem_of_getElem? (i := 76) rfl) rfl
theorem mc_61 : Cond.code ⟨"IceParliament$Tape", "seeName", "(LIceParliament$Roll;)Z"⟩ prog_9_method_19_code 2 (Option.some Jvm.ClassFile.FieldType.boolean) ∈ lw_g := in_t4 (List.mem_of_getElem? (i := 80) rfl) rfl
theorem mc_62 : Cond.code ⟨"IceParliament$YardReader", "readClash", "()Z"⟩ prog_12_method_11_code 3 (Option.some Jvm.ClassFile.FieldType.boolean) ∈ lw_g := in_t4 (List.mem_of_getElem? (i := 86) rfl) rfl
theorem mc_63 : Cond.code ⟨"IceParliament$Tape", "takeName", "(LIceParliament$Roll;)Z"⟩ prog_9_method_20_code 2 (Option.some Jvm.ClassFile.FieldType.boolean) ∈ lw_g := in_t4 (List.mem_of_getElem? (i := 90) rfl) rfl
theorem mc_64 : Cond.code ⟨"IceParliament", "has", "(II)Z"⟩ prog_1_method_38_code 2 (Option.some Jvm.ClassFile.FieldType.boolean) ∈ lw_g := in_t4 (List.mem_of_getElem? (i := 94) rfl) rfl
theorem mc_65 : Cond.code ⟨"IceParliament$Yard", "addClash", "(II)V"⟩ prog_11_method_5_code 3 (Option.none : Option Jvm.ClassFile.FieldType) ∈ lw_g := in_t4 (List.mem_of_getElem? (i := 98) rfl) rfl
theorem mc_66 : Cond.code ⟨"IceParliament$YardReader", "readNights", "()Z"⟩ prog_12_method_12_code 2 (Option.some Jvm.ClassFile.FieldType.boolean) ∈ lw_g := in_t4 (List.mem_of_getElem? (i := 103) rfl) rfl
theorem mc_67 : Cond.code ⟨"IceParliament$Tape", "isNumber", "()Z"⟩ prog_9_method_9_code 1 (Option.some Jvm.ClassFile.FieldType.boolean) ∈ lw_g := in_t4 (List.mem_of_getElem? (i := 107) rfl) rfl
theorem mc_68 : Cond.code ⟨"IceParliament$Yard", "addNight", "(I)V"⟩ prog_11_method_6_code 2 (Option.none : Option Jvm.ClassFile.FieldType) ∈ lw_g := in_t4 (List.mem_of_getElem? (i := 112) rfl) rfl
theorem mc_69 : Cond.code ⟨"IceParliament$YardReader", "readMild", "()Z"⟩ prog_12_method_13_code 1 (Option.some Jvm.ClassFile.FieldType.boolean) ∈ lw_g := in_t4 (List.mem_of_getElem? (i := 117) rfl) rfl
theorem mc_70 : Cond.code ⟨"IceParliament$LawReader", "readInto", "(LIceParliament$Law;Z)Z"⟩ prog_4_method_2_code 5 (Option.some Jvm.ClassFile.FieldType.boolean) ∈ lw_g := in_t4 (List.mem_of_getElem? (i := 122) rfl) rfl
theorem mc_71 : Cond.code ⟨"IceParliament$LawReader", "takeOpenings", "()Z"⟩ prog_4_method_3_code 3 (Option.some Jvm.ClassFile.FieldType.boolean) ∈ lw_g := in_t4 (List.mem_of_getElem? (i := 129) rfl) rfl
theorem mc_72 : Cond.code ⟨"IceParliament$LawReader", "push", "(I)V"⟩ prog_4_method_11_code 2 (Option.none : Option Jvm.ClassFile.FieldType) ∈ lw_g := in_t4 (List.mem_of_getElem? (i := 136) rfl) rfl
theorem mc_73 : Cond.code ⟨"IceParliament$LawReader", "takeLeaf", "()Z"⟩ prog_4_method_4_code 2 (Option.some Jvm.ClassFile.FieldType.boolean) ∈ lw_g := in_t4 (List.mem_of_getElem? (i := 140) rfl) rfl
theorem mc_74 : Cond.code ⟨"IceParliament$LawReader", "factHere", "()I"⟩ prog_4_method_5_code 1 (Option.some Jvm.ClassFile.FieldType.int) ∈ lw_g := in_t4 (List.mem_of_getElem? (i := 145) rfl) rfl
theorem mc_75 : Cond.code ⟨"IceParliament$LawReader", "closeNots", "()V"⟩ prog_4_method_13_code 1 (Option.none : Option Jvm.ClassFile.FieldType) ∈ lw_g := in_t4 (List.mem_of_getElem? (i := 155) rfl) rfl
theorem mc_76 : Cond.code ⟨"IceParliament$LawReader", "takeClosings", "()V"⟩ prog_4_method_6_code 2 (Option.none : Option Jvm.ClassFile.FieldType) ∈ lw_g := in_t4 (List.mem_of_getElem? (i := 159) rfl) rfl
theorem mc_77 : Cond.code ⟨"IceParliament$LawReader", "settle", "(I)V"⟩ prog_4_method_12_code 2 (Option.none : Option Jvm.ClassFile.FieldType) ∈ lw_g := in_t4 (List.mem_of_getElem? (i := 163) rfl) rfl
theorem mc_78 : Cond.code ⟨"IceParliament$LawReader", "rankOf", "(I)I"⟩ prog_4_method_10_code 1 (Option.some Jvm.ClassFile.FieldType.int) ∈ lw_g := in_t4 (List.mem_of_getElem? (i := 166) rfl) rfl
theorem mc_79 : Cond.code ⟨"IceParliament$LawReader", "joinHere", "()I"⟩ prog_4_method_7_code 1 (Option.some Jvm.ClassFile.FieldType.int) ∈ lw_g := in_t4 (List.mem_of_getElem? (i := 170) rfl) rfl
theorem mc_80 : Cond.code ⟨"IceParliament$LawReader", "takeEnd", "()Z"⟩ prog_4_method_9_code 1 (Option.some Jvm.ClassFile.FieldType.boolean) ∈ lw_g := in_t4 (List.mem_of_getElem? (i := 176) rfl) rfl
theorem mc_81 : Cond.code ⟨"IceParliament$LawReader", "takeJoin", "(I)Z"⟩ prog_4_method_8_code 4 (Option.some Jvm.ClassFile.FieldType.boolean) ∈ lw_g := in_t4 (List.mem_of_getElem? (i := 181) rfl) rfl
theorem mc_82 : Cond.code ⟨"IceParliament$Tape", "clear", "()V"⟩ prog_9_method_3_code 1 (Option.none : Option Jvm.ClassFile.FieldType) ∈ lw_g := in_t4 (List.mem_of_getElem? (i := 186) rfl) rfl
theorem mc_83 : Cond.code ⟨"IceParliament$Yard", "copyFrom", "(LIceParliament$Yard;)V"⟩ prog_11_method_3_code 2 (Option.none : Option Jvm.ClassFile.FieldType) ∈ lw_g := in_t4 (List.mem_of_getElem? (i := 190) rfl) rfl
theorem mc_84 : Cond.code ⟨"IceParliament$Roll", "copyFrom", "(LIceParliament$Roll;)V"⟩ prog_6_method_3_code 2 (Option.none : Option Jvm.ClassFile.FieldType) ∈ lw_g := in_t4 (List.mem_of_getElem? (i := 194) rfl) rfl
theorem mc_85 : Cond.code ⟨"IceParliament$Law", "copyFrom", "(LIceParliament$Law;)V"⟩ prog_3_method_4_code 2 (Option.none : Option Jvm.ClassFile.FieldType) ∈ lw_g := in_t4 (List.mem_of_getElem? (i := 200) rfl) rfl
theorem mc_86 : Cond.code ⟨"IceParliament$Session", "clear", "()V"⟩ prog_7_method_2_code 1 (Option.none : Option Jvm.ClassFile.FieldType) ∈ lw_g := in_t4 (List.mem_of_getElem? (i := 206) rfl) rfl
theorem mc_87 : Cond.code ⟨"IceParliament", "session", "()I"⟩ prog_1_method_4_code 2 (Option.some Jvm.ClassFile.FieldType.int) ∈ lw_g := in_t4 (List.mem_of_getElem? (i := 211) rfl) rfl
theorem mc_88 : Cond.code ⟨"IceParliament$Session", "read", "(LIceParliament$Tape;LIceParliament$Yard;)I"⟩ prog_7_method_4_code 4 (Option.some Jvm.ClassFile.FieldType.int) ∈ lw_g := in_t4 (List.mem_of_getElem? (i := 215) rfl) rfl
theorem mc_89 : Cond.code ⟨"IceParliament$Session", "readLine", "(LIceParliament$Tape;LIceParliament$Yard;)Z"⟩ prog_7_method_5_code 4 (Option.some Jvm.ClassFile.FieldType.boolean) ∈ lw_g := in_t4 (List.mem_of_getElem? (i := 222) rfl) rfl
theorem mc_90 : Cond.code ⟨"IceParliament$Session", "deedHere", "(LIceParliament$Tape;)I"⟩ prog_7_method_6_code 1 (Option.some Jvm.ClassFile.FieldType.int) ∈ lw_g := in_t4 (List.mem_of_getElem? (i := 225) rfl) rfl
theorem mc_91 : Cond.code ⟨"IceParliament$Session", "takeNames", "(LIceParliament$Tape;LIceParliament$Yard;I)Z"⟩ prog_7_method_7_code 4 (Option.some Jvm.ClassFile.FieldType.boolean) ∈ lw_g := in_t4 (List.mem_of_getElem? (i := 237) rfl) rfl
theorem mc_92 : Cond.code ⟨"IceParliament$Session", "copyFrom", "(LIceParliament$Session;)V"⟩ prog_7_method_3_code 2 (Option.none : Option Jvm.ClassFile.FieldType) ∈ lw_g := in_t5 (List.mem_of_getElem? (i := 3) rfl) rfl
theorem mc_93 : Cond.code ⟨"IceParliament", "act", "(II)I"⟩ prog_1_method_5_code 3 (Option.some Jvm.ClassFile.FieldType.int) ∈ lw_g := in_t5 (List.mem_of_getElem? (i := 8) rfl) rfl
theorem mc_94 : Cond.code ⟨"IceParliament", "isAct", "(I)Z"⟩ prog_1_method_37_code 2 (Option.some Jvm.ClassFile.FieldType.boolean) ∈ lw_g := in_t5 (List.mem_of_getElem? (i := 12) rfl) rfl
theorem mc_95 : Cond.code ⟨"IceParliament$Yard", "doneBy", "(I)I"⟩ prog_11_method_8_code 2 (Option.some Jvm.ClassFile.FieldType.int) ∈ lw_g := in_t5 (List.mem_of_getElem? (i := 16) rfl) rfl
theorem mc_96 : Cond.code ⟨"IceParliament$State", "isInForce", "(I)Z"⟩ prog_8_method_7_code 2 (Option.some Jvm.ClassFile.FieldType.boolean) ∈ lw_g := in_t5 (List.mem_of_getElem? (i := 21) rfl) rfl
theorem mc_97 : Cond.code ⟨"IceParliament$State", "isUp", "(I)Z"⟩ prog_8_method_5_code 2 (Option.some Jvm.ClassFile.FieldType.boolean) ∈ lw_g := in_t5 (List.mem_of_getElem? (i := 25) rfl) rfl
theorem mc_98 : Cond.code ⟨"IceParliament$State", "up", "()I"⟩ prog_8_method_4_code 1 (Option.some Jvm.ClassFile.FieldType.int) ∈ lw_g := in_t5 (List.mem_of_getElem? (i := 29) rfl) rfl
theorem mc_99 : Cond.code ⟨"IceParliament$State", "isDone", "(I)Z"⟩ prog_8_method_6_code 2 (Option.some Jvm.ClassFile.FieldType.boolean) ∈ lw_g := in_t5 (List.mem_of_getElem? (i := 34) rfl) rfl
theorem mc_100 : Cond.code ⟨"IceParliament$State", "meltsTonight", "(II)I"⟩ prog_8_method_19_code 3 (Option.some Jvm.ClassFile.FieldType.int) ∈ lw_g := in_t5 (List.mem_of_getElem? (i := 41) rfl) rfl
theorem mc_101 : Cond.code ⟨"IceParliament$Yard", "warmthOf", "(I)I"⟩ prog_11_method_7_code 2 (Option.some Jvm.ClassFile.FieldType.int) ∈ lw_g := in_t5 (List.mem_of_getElem? (i := 45) rfl) rfl
theorem mc_102 : Cond.code ⟨"java/lang/Math", "floorMod", "(II)I"⟩ prog_21_method_50_code 3 (Option.some Jvm.ClassFile.FieldType.int) ∈ lw_g := in_t5 (List.mem_of_getElem? (i := 48) rfl) rfl
theorem mc_103 : Cond.code ⟨"IceParliament$Yard", "meltingOf", "(IIIII)I"⟩ prog_11_method_9_code 7 (Option.some Jvm.ClassFile.FieldType.int) ∈ lw_g := in_t5 (List.mem_of_getElem? (i := 52) rfl) rfl
theorem mc_104 : Cond.code ⟨"IceParliament$Law", "valueOf", "(III)I"⟩ prog_3_method_5_code 7 (Option.some Jvm.ClassFile.FieldType.int) ∈ lw_g := in_t5 (List.mem_of_getElem? (i := 56) rfl) rfl
theorem mc_105 : Cond.code ⟨"IceParliament$Law", "pick", "(IIII)I"⟩ prog_3_method_6_code 4 (Option.some Jvm.ClassFile.FieldType.int) ∈ lw_g := in_t5 (List.mem_of_getElem? (i := 59) rfl) rfl
theorem mc_106 : Cond.code ⟨"IceParliament$Law", "join", "(III)I"⟩ prog_3_method_7_code 3 (Option.some Jvm.ClassFile.FieldType.int) ∈ lw_g := in_t5 (List.mem_of_getElem? (i := 62) rfl) rfl
theorem mc_107 : Cond.code ⟨"IceParliament", "carver", "(II)I"⟩ prog_1_method_6_code 3 (Option.some Jvm.ClassFile.FieldType.int) ∈ lw_g := in_t5 (List.mem_of_getElem? (i := 67) rfl) rfl
theorem mc_108 : Cond.code ⟨"IceParliament", "isCarver", "(I)Z"⟩ prog_1_method_36_code 2 (Option.some Jvm.ClassFile.FieldType.boolean) ∈ lw_g := in_t5 (List.mem_of_getElem? (i := 71) rfl) rfl
theorem mc_109 : Cond.code ⟨"IceParliament", "force", "()I"⟩ prog_1_method_7_code 1 (Option.some Jvm.ClassFile.FieldType.int) ∈ lw_g := in_t5 (List.mem_of_getElem? (i := 75) rfl) rfl
theorem mc_110 : Cond.code ⟨"IceParliament$State", "inForce", "()I"⟩ prog_8_method_8_code 3 (Option.some Jvm.ClassFile.FieldType.int) ∈ lw_g := in_t5 (List.mem_of_getElem? (i := 79) rfl) rfl
theorem mc_111 : Cond.code ⟨"IceParliament", "side", "(I)I"⟩ prog_1_method_8_code 4 (Option.some Jvm.ClassFile.FieldType.int) ∈ lw_g := in_t5 (List.mem_of_getElem? (i := 84) rfl) rfl
theorem mc_112 : Cond.code ⟨"IceParliament", "count", "(I)I"⟩ prog_1_method_9_code 2 (Option.some Jvm.ClassFile.FieldType.int) ∈ lw_g := in_t5 (List.mem_of_getElem? (i := 88) rfl) rfl
theorem mc_113 : Cond.code ⟨"IceParliament$State", "worthInForce", "()I"⟩ prog_8_method_9_code 1 (Option.some Jvm.ClassFile.FieldType.int) ∈ lw_g := in_t5 (List.mem_of_getElem? (i := 94) rfl) rfl
theorem mc_114 : Cond.code ⟨"IceParliament$Yard", "worthOf", "(I)I"⟩ prog_11_method_12_code 4 (Option.some Jvm.ClassFile.FieldType.int) ∈ lw_g := in_t5 (List.mem_of_getElem? (i := 99) rfl) rfl
theorem mc_115 : Cond.code ⟨"IceParliament$State", "howManyTold", "()I"⟩ prog_8_method_10_code 3 (Option.some Jvm.ClassFile.FieldType.int) ∈ lw_g := in_t5 (List.mem_of_getElem? (i := 104) rfl) rfl
theorem mc_116 : Cond.code ⟨"IceParliament", "begin", "(II)Z"⟩ prog_1_method_10_code 3 (Option.some Jvm.ClassFile.FieldType.boolean) ∈ lw_g := in_t5 (List.mem_of_getElem? (i := 108) rfl) rfl
theorem mc_117 : Cond.code ⟨"IceParliament", "isSpot", "(I)Z"⟩ prog_1_method_35_code 2 (Option.some Jvm.ClassFile.FieldType.boolean) ∈ lw_g := in_t5 (List.mem_of_getElem? (i := 112) rfl) rfl
theorem mc_118 : Cond.code ⟨"IceParliament$State", "canBegin", "(II)Z"⟩ prog_8_method_12_code 3 (Option.some Jvm.ClassFile.FieldType.boolean) ∈ lw_g := in_t5 (List.mem_of_getElem? (i := 116) rfl) rfl
theorem mc_119 : Cond.code ⟨"IceParliament$State", "isFree", "(I)Z"⟩ prog_8_method_11_code 3 (Option.some Jvm.ClassFile.FieldType.boolean) ∈ lw_g := in_t5 (List.mem_of_getElem? (i := 120) rfl) rfl
theorem mc_120 : Cond.code ⟨"IceParliament", "keepForUndo", "()V"⟩ prog_1_method_17_code 3 (Option.none : Option Jvm.ClassFile.FieldType) ∈ lw_g := in_t5 (List.mem_of_getElem? (i := 124) rfl) rfl
theorem mc_121 : Cond.code ⟨"IceParliament$State", "copyFrom", "(LIceParliament$State;)V"⟩ prog_8_method_3_code 2 (Option.none : Option Jvm.ClassFile.FieldType) ∈ lw_g := in_t5 (List.mem_of_getElem? (i := 128) rfl) rfl
theorem mc_122 : Cond.code ⟨"IceParliament$State", "startAt", "(II)V"⟩ prog_8_method_13_code 3 (Option.none : Option Jvm.ClassFile.FieldType) ∈ lw_g := in_t5 (List.mem_of_getElem? (i := 132) rfl) rfl
theorem mc_123 : Cond.code ⟨"IceParliament", "carve", "(II)I"⟩ prog_1_method_11_code 3 (Option.some Jvm.ClassFile.FieldType.int) ∈ lw_g := in_t5 (List.mem_of_getElem? (i := 136) rfl) rfl
theorem mc_124 : Cond.code ⟨"IceParliament$State", "canCarve", "(II)Z"⟩ prog_8_method_14_code 3 (Option.some Jvm.ClassFile.FieldType.boolean) ∈ lw_g := in_t5 (List.mem_of_getElem? (i := 140) rfl) rfl
theorem mc_125 : Cond.code ⟨"IceParliament$State", "cutBy", "(II)V"⟩ prog_8_method_15_code 3 (Option.none : Option Jvm.ClassFile.FieldType) ∈ lw_g := in_t5 (List.mem_of_getElem? (i := 144) rfl) rfl
theorem mc_126 : Cond.code ⟨"IceParliament$Yard", "chipsBy", "(III)I"⟩ prog_11_method_10_code 5 (Option.some Jvm.ClassFile.FieldType.int) ∈ lw_g := in_t5 (List.mem_of_getElem? (i := 148) rfl) rfl
theorem mc_127 : Cond.code ⟨"IceParliament", "prop", "(I)I"⟩ prog_1_method_12_code 2 (Option.some Jvm.ClassFile.FieldType.int) ∈ lw_g := in_t5 (List.mem_of_getElem? (i := 152) rfl) rfl
theorem mc_128 : Cond.code ⟨"IceParliament$State", "canProp", "(I)Z"⟩ prog_8_method_16_code 2 (Option.some Jvm.ClassFile.FieldType.boolean) ∈ lw_g := in_t5 (List.mem_of_getElem? (i := 156) rfl) rfl
theorem mc_129 : Cond.code ⟨"IceParliament", "torch", "(I)I"⟩ prog_1_method_13_code 2 (Option.some Jvm.ClassFile.FieldType.int) ∈ lw_g := in_t5 (List.mem_of_getElem? (i := 160) rfl) rfl
theorem mc_130 : Cond.code ⟨"IceParliament$State", "burn", "(I)V"⟩ prog_8_method_17_code 2 (Option.none : Option Jvm.ClassFile.FieldType) ∈ lw_g := in_t5 (List.mem_of_getElem? (i := 164) rfl) rfl
theorem mc_131 : Cond.code ⟨"IceParliament$State", "lose", "(II)Z"⟩ prog_8_method_18_code 3 (Option.some Jvm.ClassFile.FieldType.boolean) ∈ lw_g := in_t5 (List.mem_of_getElem? (i := 168) rfl) rfl
theorem mc_132 : Cond.code ⟨"IceParliament", "night", "()I"⟩ prog_1_method_14_code 1 (Option.some Jvm.ClassFile.FieldType.int) ∈ lw_g := in_t5 (List.mem_of_getElem? (i := 173) rfl) rfl
theorem mc_133 : Cond.code ⟨"IceParliament$State", "passNight", "(I)I"⟩ prog_8_method_21_code 4 (Option.some Jvm.ClassFile.FieldType.int) ∈ lw_g := in_t5 (List.mem_of_getElem? (i := 177) rfl) rfl
theorem mc_134 : Cond.code ⟨"IceParliament", "undo", "()Z"⟩ prog_1_method_15_code 1 (Option.some Jvm.ClassFile.FieldType.boolean) ∈ lw_g := in_t5 (List.mem_of_getElem? (i := 182) rfl) rfl
theorem mc_135 : Cond.code ⟨"IceParliament", "mark", "(IZ)Z"⟩ prog_1_method_16_code 3 (Option.some Jvm.ClassFile.FieldType.boolean) ∈ lw_g := in_t5 (List.mem_of_getElem? (i := 186) rfl) rfl
theorem mc_136 : Cond.code ⟨"IceParliament", "judged", "(I)I"⟩ prog_1_method_18_code 2 (Option.some Jvm.ClassFile.FieldType.int) ∈ lw_g := in_t5 (List.mem_of_getElem? (i := 190) rfl) rfl
theorem mc_137 : Cond.code ⟨"IceParliament$Trial", "judge", "(LIceParliament$Session;)V"⟩ prog_10_method_2_code 3 (Option.none : Option Jvm.ClassFile.FieldType) ∈ lw_g := in_t5 (List.mem_of_getElem? (i := 194) rfl) rfl
theorem mc_138 : Cond.code ⟨"IceParliament$Trial", "follow", "(III)Z"⟩ prog_10_method_3_code 4 (Option.some Jvm.ClassFile.FieldType.boolean) ∈ lw_g := in_t5 (List.mem_of_getElem? (i := 199) rfl) rfl
theorem mc_139 : Cond.code ⟨"IceParliament$Trial", "tryBegin", "(II)Z"⟩ prog_10_method_4_code 3 (Option.some Jvm.ClassFile.FieldType.boolean) ∈ lw_g := in_t5 (List.mem_of_getElem? (i := 203) rfl) rfl
theorem mc_140 : Cond.code ⟨"IceParliament$Trial", "tryCarve", "(II)Z"⟩ prog_10_method_5_code 3 (Option.some Jvm.ClassFile.FieldType.boolean) ∈ lw_g := in_t5 (List.mem_of_getElem? (i := 209) rfl) rfl
theorem mc_141 : Cond.code ⟨"IceParliament", "decades", "(III)I"⟩ prog_1_method_19_code 4 (Option.some Jvm.ClassFile.FieldType.int) ∈ lw_g := in_t5 (List.mem_of_getElem? (i := 221) rfl) rfl
theorem mc_142 : Cond.code ⟨"IceParliament$Trial", "live", "(LIceParliament$State;II)V"⟩ prog_10_method_6_code 5 (Option.none : Option Jvm.ClassFile.FieldType) ∈ lw_g := in_t5 (List.mem_of_getElem? (i := 225) rfl) rfl
theorem mc_143 : Cond.code ⟨"IceParliament$Trial", "liveDay", "()V"⟩ prog_10_method_7_code 2 (Option.none : Option Jvm.ClassFile.FieldType) ∈ lw_g := in_t5 (List.mem_of_getElem? (i := 230) rfl) rfl
theorem mc_144 : Cond.code ⟨"IceParliament$Trial", "draw", "(I)I"⟩ prog_10_method_8_code 2 (Option.some Jvm.ClassFile.FieldType.int) ∈ lw_g := in_t5 (List.mem_of_getElem? (i := 234) rfl) rfl
theorem mc_145 : Cond.code ⟨"java/lang/Integer", "bitCount", "(I)I"⟩ prog_20_method_49_code 1 (Option.some Jvm.ClassFile.FieldType.int) ∈ lw_g := in_t6 (List.mem_of_getElem? (i := 1) rfl) rfl
theorem mc_146 : Cond.code ⟨"IceParliament", "falls", "(I)I"⟩ prog_1_method_20_code 3 (Option.some Jvm.ClassFile.FieldType.int) ∈ lw_g := in_t6 (List.mem_of_getElem? (i := 8) rfl) rfl
theorem mc_147 : Cond.code ⟨"IceParliament$State", "fallsIn", "(III)I"⟩ prog_8_method_20_code 4 (Option.some Jvm.ClassFile.FieldType.int) ∈ lw_g := in_t6 (List.mem_of_getElem? (i := 12) rfl) rfl
theorem mc_148 : Cond.code ⟨"IceParliament$Yard", "fallsIn", "(IIIIII)I"⟩ prog_11_method_11_code 9 (Option.some Jvm.ClassFile.FieldType.int) ∈ lw_g := in_t6 (List.mem_of_getElem? (i := 16) rfl) rfl
theorem mc_149 : Cond.code ⟨"IceParliament", "clashes", "()I"⟩ prog_1_method_21_code 1 (Option.some Jvm.ClassFile.FieldType.int) ∈ lw_g := in_t6 (List.mem_of_getElem? (i := 22) rfl) rfl
theorem mc_150 : Cond.code ⟨"IceParliament$Yard", "clashesIn", "(I)I"⟩ prog_11_method_13_code 4 (Option.some Jvm.ClassFile.FieldType.int) ∈ lw_g := in_t6 (List.mem_of_getElem? (i := 26) rfl) rfl
theorem mc_151 : Cond.code ⟨"IceParliament", "mend", "(I)I"⟩ prog_1_method_22_code 3 (Option.some Jvm.ClassFile.FieldType.int) ∈ lw_g := in_t6 (List.mem_of_getElem? (i := 31) rfl) rfl
theorem mc_152 : Cond.code ⟨"IceParliament$Planner", "leastToLetGo", "()I"⟩ prog_5_method_2_code 5 (Option.some Jvm.ClassFile.FieldType.int) ∈ lw_g := in_t6 (List.mem_of_getElem? (i := 35) rfl) rfl
theorem mc_153 : Cond.code ⟨"IceParliament", "work", "(II)I"⟩ prog_1_method_23_code 4 (Option.some Jvm.ClassFile.FieldType.int) ∈ lw_g := in_t6 (List.mem_of_getElem? (i := 43) rfl) rfl
theorem mc_154 : Cond.code ⟨"IceParliament$Planner", "shareWork", "(I)I"⟩ prog_5_method_3_code 6 (Option.some Jvm.ClassFile.FieldType.int) ∈ lw_g := in_t6 (List.mem_of_getElem? (i := 47) rfl) rfl
theorem mc_155 : Cond.code ⟨"IceParliament$Planner", "callWorkers", "()V"⟩ prog_5_method_4_code 2 (Option.none : Option Jvm.ClassFile.FieldType) ∈ lw_g := in_t6 (List.mem_of_getElem? (i := 51) rfl) rfl
theorem mc_156 : Cond.code ⟨"IceParliament$Planner", "listStanding", "()V"⟩ prog_5_method_5_code 2 (Option.none : Option Jvm.ClassFile.FieldType) ∈ lw_g := in_t6 (List.mem_of_getElem? (i := 56) rfl) rfl
theorem mc_157 : Cond.code ⟨"IceParliament$Planner", "worthByCrew", "(III)I"⟩ prog_5_method_6_code 9 (Option.some Jvm.ClassFile.FieldType.int) ∈ lw_g := in_t6 (List.mem_of_getElem? (i := 61) rfl) rfl
theorem mc_158 : Cond.code ⟨"IceParliament$Planner", "canWork", "(II)Z"⟩ prog_5_method_7_code 4 (Option.some Jvm.ClassFile.FieldType.boolean) ∈ lw_g := in_t6 (List.mem_of_getElem? (i := 66) rfl) rfl
theorem mc_159 : Cond.code ⟨"IceParliament$Planner", "howManyRows", "()I"⟩ prog_5_method_8_code 3 (Option.some Jvm.ClassFile.FieldType.int) ∈ lw_g := in_t6 (List.mem_of_getElem? (i := 75) rfl) rfl
theorem mc_160 : Cond.code ⟨"IceParliament$Planner", "worthOfRow", "()I"⟩ prog_5_method_9_code 3 (Option.some Jvm.ClassFile.FieldType.int) ∈ lw_g := in_t6 (List.mem_of_getElem? (i := 79) rfl) rfl
theorem mc_161 : Cond.code ⟨"IceParliament$Planner", "keepRow", "()V"⟩ prog_5_method_10_code 2 (Option.none : Option Jvm.ClassFile.FieldType) ∈ lw_g := in_t6 (List.mem_of_getElem? (i := 83) rfl) rfl
theorem mc_162 : Cond.code ⟨"IceParliament$Planner", "stepRow", "()V"⟩ prog_5_method_11_code 2 (Option.none : Option Jvm.ClassFile.FieldType) ∈ lw_g := in_t6 (List.mem_of_getElem? (i := 87) rfl) rfl
theorem mc_163 : Cond.code ⟨"IceParliament", "places", "(I)I"⟩ prog_1_method_24_code 3 (Option.some Jvm.ClassFile.FieldType.int) ∈ lw_g := in_t6 (List.mem_of_getElem? (i := 91) rfl) rfl
theorem mc_164 : Cond.code ⟨"IceParliament$Planner", "findPlaces", "()I"⟩ prog_5_method_12_code 3 (Option.some Jvm.ClassFile.FieldType.int) ∈ lw_g := in_t6 (List.mem_of_getElem? (i := 95) rfl) rfl
theorem mc_165 : Cond.code ⟨"IceParliament$Planner", "fillGains", "()V"⟩ prog_5_method_14_code 3 (Option.none : Option Jvm.ClassFile.FieldType) ∈ lw_g := in_t6 (List.mem_of_getElem? (i := 99) rfl) rfl
theorem mc_166 : Cond.code ⟨"IceParliament$Planner", "fillBest", "()V"⟩ prog_5_method_15_code 6 (Option.none : Option Jvm.ClassFile.FieldType) ∈ lw_g := in_t6 (List.mem_of_getElem? (i := 105) rfl) rfl
theorem mc_167 : Cond.code ⟨"IceParliament$Planner", "firstPlace", "(II)I"⟩ prog_5_method_13_code 4 (Option.some Jvm.ClassFile.FieldType.int) ∈ lw_g := in_t6 (List.mem_of_getElem? (i := 110) rfl) rfl
theorem mc_168 : Cond.code ⟨"IceParliament", "thin", "(III)I"⟩ prog_1_method_25_code 5 (Option.some Jvm.ClassFile.FieldType.int) ∈ lw_g := in_t6 (List.mem_of_getElem? (i := 114) rfl) rfl
theorem mc_169 : Cond.code ⟨"IceParliament", "stands", "(II)I"⟩ prog_1_method_26_code 3 (Option.some Jvm.ClassFile.FieldType.int) ∈ lw_g := in_t6 (List.mem_of_getElem? (i := 119) rfl) rfl
theorem mc_170 : Cond.code ⟨"IceParliament$Planner", "chanceToStand", "(II)I"⟩ prog_5_method_16_code 8 (Option.some Jvm.ClassFile.FieldType.int) ∈ lw_g := in_t6 (List.mem_of_getElem? (i := 123) rfl) rfl
theorem mc_171 : Cond.code ⟨"java/util/Arrays", "fill", "([JJ)V"⟩ prog_30_method_101_code 5 (Option.none : Option Jvm.ClassFile.FieldType) ∈ lw_g := in_t6 (List.mem_of_getElem? (i := 126) rfl) rfl
theorem mc_172 : Cond.code ⟨"IceParliament$Planner", "spreadOdds", "(III)V"⟩ prog_5_method_17_code 6 (Option.none : Option Jvm.ClassFile.FieldType) ∈ lw_g := in_t6 (List.mem_of_getElem? (i := 130) rfl) rfl
theorem mc_173 : Cond.code ⟨"IceParliament", "propped", "(I)I"⟩ prog_1_method_27_code 2 (Option.some Jvm.ClassFile.FieldType.int) ∈ lw_g := in_t6 (List.mem_of_getElem? (i := 137) rfl) rfl
theorem mc_174 : Cond.code ⟨"IceParliament$Planner", "bestToProp", "(I)I"⟩ prog_5_method_18_code 6 (Option.some Jvm.ClassFile.FieldType.int) ∈ lw_g := in_t6 (List.mem_of_getElem? (i := 141) rfl) rfl
theorem mc_175 : Cond.code ⟨"IceParliament$Planner", "worthBehind", "(III)I"⟩ prog_5_method_19_code 4 (Option.some Jvm.ClassFile.FieldType.int) ∈ lw_g := in_t6 (List.mem_of_getElem? (i := 146) rfl) rfl
theorem mc_176 : Cond.code ⟨"IceParliament", "tell", "(II)Z"⟩ prog_1_method_28_code 3 (Option.some Jvm.ClassFile.FieldType.boolean) ∈ lw_g := in_t6 (List.mem_of_getElem? (i := 152) rfl) rfl
theorem mc_177 : Cond.code ⟨"IceParliament", "sets", "(I)I"⟩ prog_1_method_29_code 2 (Option.some Jvm.ClassFile.FieldType.int) ∈ lw_g := in_t6 (List.mem_of_getElem? (i := 156) rfl) rfl
theorem mc_178 : Cond.code ⟨"IceParliament$Breath", "findSets", "()V"⟩ prog_2_method_2_code 3 (Option.none : Option Jvm.ClassFile.FieldType) ∈ lw_g := in_t6 (List.mem_of_getElem? (i := 160) rfl) rfl
theorem mc_179 : Cond.code ⟨"IceParliament$Breath", "foresee", "()V"⟩ prog_2_method_3_code 3 (Option.none : Option Jvm.ClassFile.FieldType) ∈ lw_g := in_t6 (List.mem_of_getElem? (i := 164) rfl) rfl
theorem mc_180 : Cond.code ⟨"IceParliament$Breath", "isAsTold", "(I)Z"⟩ prog_2_method_5_code 3 (Option.some Jvm.ClassFile.FieldType.boolean) ∈ lw_g := in_t6 (List.mem_of_getElem? (i := 171) rfl) rfl
theorem mc_181 : Cond.code ⟨"IceParliament$Breath", "feetBy", "(II)I"⟩ prog_2_method_4_code 3 (Option.some Jvm.ClassFile.FieldType.int) ∈ lw_g := in_t6 (List.mem_of_getElem? (i := 175) rfl) rfl
theorem mc_182 : Cond.code ⟨"IceParliament$Breath", "inAll", "()I"⟩ prog_2_method_6_code 3 (Option.some Jvm.ClassFile.FieldType.int) ∈ lw_g := in_t6 (List.mem_of_getElem? (i := 180) rfl) rfl
theorem mc_183 : Cond.code ⟨"IceParliament$Breath", "inSome", "()I"⟩ prog_2_method_7_code 3 (Option.some Jvm.ClassFile.FieldType.int) ∈ lw_g := in_t6 (List.mem_of_getElem? (i := 184) rfl) rfl
theorem mc_184 : Cond.code ⟨"IceParliament", "look", "()I"⟩ prog_1_method_30_code 1 (Option.some Jvm.ClassFile.FieldType.int) ∈ lw_g := in_t6 (List.mem_of_getElem? (i := 188) rfl) rfl
theorem mc_185 : Cond.code ⟨"IceParliament$Breath", "bestToLookAt", "()I"⟩ prog_2_method_8_code 5 (Option.some Jvm.ClassFile.FieldType.int) ∈ lw_g := in_t6 (List.mem_of_getElem? (i := 192) rfl) rfl
theorem mc_186 : Cond.code ⟨"IceParliament$Breath", "greatestAlike", "(I)I"⟩ prog_2_method_9_code 5 (Option.some Jvm.ClassFile.FieldType.int) ∈ lw_g := in_t6 (List.mem_of_getElem? (i := 197) rfl) rfl
theorem mc_187 : Cond.code ⟨"IceParliament", "rests", "(IIII)I"⟩ prog_1_method_31_code 7 (Option.some Jvm.ClassFile.FieldType.int) ∈ lw_g := in_t6 (List.mem_of_getElem? (i := 206) rfl) rfl
theorem mc_188 : Cond.code ⟨"IceParliament", "isDigit", "(I)Z"⟩ prog_1_method_34_code 1 (Option.some Jvm.ClassFile.FieldType.boolean) ∈ lw_g := in_t6 (List.mem_of_getElem? (i := 209) rfl) rfl
theorem mc_189 : Cond.code ⟨"IceParliament", "isRest", "(IIII)Z"⟩ prog_1_method_32_code 6 (Option.some Jvm.ClassFile.FieldType.boolean) ∈ lw_g := in_t7 (List.mem_of_getElem? (i := 33) rfl) rfl
theorem mc_190 : Cond.code ⟨"IceParliament", "gets", "(IIIII)I"⟩ prog_1_method_33_code 5 (Option.some Jvm.ClassFile.FieldType.int) ∈ lw_g := in_t7 (List.mem_of_getElem? (i := 36) rfl) rfl
theorem mc_191 : Cond.code ⟨"IceParliamentModel", "thrown", "()I"⟩ prog_14_method_1_code 1 (Option.some Jvm.ClassFile.FieldType.int) ∈ lw_g := in_t7 (List.mem_of_getElem? (i := 40) rfl) rfl
theorem mc_192 : Cond.code ⟨"IceParliamentModel", "feed", "(JJJ)I"⟩ prog_14_method_2_code 7 (Option.some Jvm.ClassFile.FieldType.int) ∈ lw_g := in_t7 (List.mem_of_getElem? (i := 44) rfl) rfl
theorem mc_193 : Cond.code ⟨"IceParliamentModel", "lay", "(J)V"⟩ prog_14_method_3_code 5 (Option.none : Option Jvm.ClassFile.FieldType) ∈ lw_g := in_t7 (List.mem_of_getElem? (i := 49) rfl) rfl
theorem mc_194 : Cond.code ⟨"IceParliamentModel", "standsAsAlways", "(I)V"⟩ prog_14_method_18_code 3 (Option.none : Option Jvm.ClassFile.FieldType) ∈ lw_g := in_t7 (List.mem_of_getElem? (i := 91) rfl) rfl
theorem mc_195 : Cond.code ⟨"IceParliamentModel", "begins", "()V"⟩ prog_14_method_47_code 2 (Option.none : Option Jvm.ClassFile.FieldType) ∈ lw_g := in_t7 (List.mem_of_getElem? (i := 95) rfl) rfl
theorem mc_196 : Cond.code ⟨"IceParliamentModel", "starts", "(I)V"⟩ prog_14_method_46_code 3 (Option.none : Option Jvm.ClassFile.FieldType) ∈ lw_g := in_t7 (List.mem_of_getElem? (i := 99) rfl) rfl
theorem mc_197 : Cond.code ⟨"IceParliamentModel", "acts", "()I"⟩ prog_14_method_51_code 1 (Option.some Jvm.ClassFile.FieldType.int) ∈ lw_g := in_t7 (List.mem_of_getElem? (i := 103) rfl) rfl
theorem mc_198 : Cond.code ⟨"IceParliamentModel", "actOf", "(II)I"⟩ prog_14_method_52_code 3 (Option.some Jvm.ClassFile.FieldType.int) ∈ lw_g := in_t7 (List.mem_of_getElem? (i := 107) rfl) rfl
theorem mc_199 : Cond.code ⟨"IceParliamentModel", "yard", "()I"⟩ prog_14_method_27_code 2 (Option.some Jvm.ClassFile.FieldType.int) ∈ lw_g := in_t7 (List.mem_of_getElem? (i := 233) rfl) rfl
theorem mc_200 : Cond.code ⟨"IceParliamentModel", "cutAll", "()V"⟩ prog_14_method_9_code 7 (Option.none : Option Jvm.ClassFile.FieldType) ∈ lw_g := in_t7 (List.mem_of_getElem? (i := 237) rfl) rfl
theorem mc_201 : Cond.code ⟨"IceParliamentModel", "isLetter", "(I)Z"⟩ prog_14_method_5_code 1 (Option.some Jvm.ClassFile.FieldType.boolean) ∈ lw_g := in_t8 (List.mem_of_getElem? (i := 0) rfl) rfl
theorem mc_202 : Cond.code ⟨"IceParliamentModel", "rank", "(I)I"⟩ prog_14_method_7_code 1 (Option.some Jvm.ClassFile.FieldType.int) ∈ lw_g := in_t8 (List.mem_of_getElem? (i := 4) rfl) rfl
theorem mc_203 : Cond.code ⟨"IceParliamentModel", "isDigit", "(I)Z"⟩ prog_14_method_6_code 1 (Option.some Jvm.ClassFile.FieldType.boolean) ∈ lw_g := in_t8 (List.mem_of_getElem? (i := 7) rfl) rfl
theorem mc_204 : Cond.code ⟨"IceParliamentModel", "isSignOf", "(I)Z"⟩ prog_14_method_8_code 1 (Option.some Jvm.ClassFile.FieldType.boolean) ∈ lw_g := in_t8 (List.mem_of_getElem? (i := 12) rfl) rfl
theorem mc_205 : Cond.code ⟨"IceParliamentModel", "readLine", "()V"⟩ prog_14_method_28_code 1 (Option.none : Option Jvm.ClassFile.FieldType) ∈ lw_g := in_t8 (List.mem_of_getElem? (i := 16) rfl) rfl
theorem mc_206 : Cond.code ⟨"IceParliamentModel", "isWord", "(I)Z"⟩ prog_14_method_12_code 2 (Option.some Jvm.ClassFile.FieldType.boolean) ∈ lw_g := in_t8 (List.mem_of_getElem? (i := 20) rfl) rfl
theorem mc_207 : Cond.code ⟨"IceParliamentModel", "readSpot", "()V"⟩ prog_14_method_30_code 2 (Option.none : Option Jvm.ClassFile.FieldType) ∈ lw_g := in_t8 (List.mem_of_getElem? (i := 24) rfl) rfl
theorem mc_208 : Cond.code ⟨"IceParliamentModel", "wrong", "(I)V"⟩ prog_14_method_10_code 2 (Option.none : Option Jvm.ClassFile.FieldType) ∈ lw_g := in_t8 (List.mem_of_getElem? (i := 28) rfl) rfl
theorem mc_209 : Cond.code ⟨"IceParliamentModel", "readName", "(I)V"⟩ prog_14_method_29_code 2 (Option.none : Option Jvm.ClassFile.FieldType) ∈ lw_g := in_t8 (List.mem_of_getElem? (i := 32) rfl) rfl
theorem mc_210 : Cond.code ⟨"IceParliamentModel", "isName", "()Z"⟩ prog_14_method_23_code 1 (Option.some Jvm.ClassFile.FieldType.boolean) ∈ lw_g := in_t8 (List.mem_of_getElem? (i := 36) rfl) rfl
theorem mc_211 : Cond.code ⟨"IceParliamentModel", "wordHere", "(II)I"⟩ prog_14_method_21_code 5 (Option.some Jvm.ClassFile.FieldType.int) ∈ lw_g := in_t8 (List.mem_of_getElem? (i := 40) rfl) rfl
theorem mc_212 : Cond.code ⟨"IceParliamentModel", "find", "(Z)I"⟩ prog_14_method_24_code 3 (Option.some Jvm.ClassFile.FieldType.int) ∈ lw_g := in_t8 (List.mem_of_getElem? (i := 44) rfl) rfl
theorem mc_213 : Cond.code ⟨"IceParliamentModel", "takeAfter", "(III)I"⟩ prog_14_method_20_code 4 (Option.some Jvm.ClassFile.FieldType.int) ∈ lw_g := in_t8 (List.mem_of_getElem? (i := 48) rfl) rfl
theorem mc_214 : Cond.code ⟨"IceParliamentModel", "takeWord", "(I)V"⟩ prog_14_method_16_code 2 (Option.none : Option Jvm.ClassFile.FieldType) ∈ lw_g := in_t8 (List.mem_of_getElem? (i := 52) rfl) rfl
theorem mc_215 : Cond.code ⟨"IceParliamentModel", "hasWord", "(I)Z"⟩ prog_14_method_15_code 3 (Option.some Jvm.ClassFile.FieldType.boolean) ∈ lw_g := in_t8 (List.mem_of_getElem? (i := 56) rfl) rfl
theorem mc_216 : Cond.code ⟨"IceParliamentModel", "takeNumber", "(II)I"⟩ prog_14_method_19_code 3 (Option.some Jvm.ClassFile.FieldType.int) ∈ lw_g := in_t8 (List.mem_of_getElem? (i := 60) rfl) rfl
theorem mc_217 : Cond.code ⟨"IceParliamentModel", "readCarver", "()V"⟩ prog_14_method_31_code 2 (Option.none : Option Jvm.ClassFile.FieldType) ∈ lw_g := in_t8 (List.mem_of_getElem? (i := 64) rfl) rfl
theorem mc_218 : Cond.code ⟨"IceParliamentModel", "takeOne", "(II)I"⟩ prog_14_method_22_code 4 (Option.some Jvm.ClassFile.FieldType.int) ∈ lw_g := in_t8 (List.mem_of_getElem? (i := 68) rfl) rfl
theorem mc_219 : Cond.code ⟨"IceParliamentModel", "readAct", "()V"⟩ prog_14_method_32_code 3 (Option.none : Option Jvm.ClassFile.FieldType) ∈ lw_g := in_t8 (List.mem_of_getElem? (i := 72) rfl) rfl
theorem mc_220 : Cond.code ⟨"IceParliamentModel", "takeTold", "(ZI)I"⟩ prog_14_method_26_code 4 (Option.some Jvm.ClassFile.FieldType.int) ∈ lw_g := in_t8 (List.mem_of_getElem? (i := 76) rfl) rfl
theorem mc_221 : Cond.code ⟨"IceParliamentModel", "toldHere", "(ZI)I"⟩ prog_14_method_25_code 4 (Option.some Jvm.ClassFile.FieldType.int) ∈ lw_g := in_t8 (List.mem_of_getElem? (i := 80) rfl) rfl
theorem mc_222 : Cond.code ⟨"IceParliamentModel", "within", "(III)Z"⟩ prog_14_method_17_code 3 (Option.some Jvm.ClassFile.FieldType.boolean) ∈ lw_g := in_t8 (List.mem_of_getElem? (i := 83) rfl) rfl
theorem mc_223 : Cond.code ⟨"IceParliamentModel", "readClash", "()V"⟩ prog_14_method_33_code 3 (Option.none : Option Jvm.ClassFile.FieldType) ∈ lw_g := in_t8 (List.mem_of_getElem? (i := 87) rfl) rfl
theorem mc_224 : Cond.code ⟨"IceParliamentModel", "readOnce", "()V"⟩ prog_14_method_34_code 2 (Option.none : Option Jvm.ClassFile.FieldType) ∈ lw_g := in_t8 (List.mem_of_getElem? (i := 91) rfl) rfl
theorem mc_225 : Cond.code ⟨"IceParliamentModel", "readNights", "()V"⟩ prog_14_method_35_code 3 (Option.none : Option Jvm.ClassFile.FieldType) ∈ lw_g := in_t8 (List.mem_of_getElem? (i := 95) rfl) rfl
theorem mc_226 : Cond.code ⟨"IceParliamentModel", "all", "(I)V"⟩ prog_14_method_38_code 3 (Option.none : Option Jvm.ClassFile.FieldType) ∈ lw_g := in_t8 (List.mem_of_getElem? (i := 99) rfl) rfl
theorem mc_227 : Cond.code ⟨"IceParliamentModel", "test", "(I)V"⟩ prog_14_method_39_code 3 (Option.none : Option Jvm.ClassFile.FieldType) ∈ lw_g := in_t8 (List.mem_of_getElem? (i := 103) rfl) rfl
theorem mc_228 : Cond.code ⟨"IceParliamentModel", "sums", "(I)V"⟩ prog_14_method_40_code 3 (Option.none : Option Jvm.ClassFile.FieldType) ∈ lw_g := in_t8 (List.mem_of_getElem? (i := 107) rfl) rfl
theorem mc_229 : Cond.code ⟨"IceParliamentModel", "products", "(I)V"⟩ prog_14_method_41_code 2 (Option.none : Option Jvm.ClassFile.FieldType) ∈ lw_g := in_t8 (List.mem_of_getElem? (i := 111) rfl) rfl
theorem mc_230 : Cond.code ⟨"IceParliamentModel", "takePart", "(I)V"⟩ prog_14_method_42_code 4 (Option.none : Option Jvm.ClassFile.FieldType) ∈ lw_g := in_t8 (List.mem_of_getElem? (i := 115) rfl) rfl
theorem mc_231 : Cond.code ⟨"IceParliamentModel", "isSign", "(I)Z"⟩ prog_14_method_11_code 2 (Option.some Jvm.ClassFile.FieldType.boolean) ∈ lw_g := in_t8 (List.mem_of_getElem? (i := 119) rfl) rfl
theorem mc_232 : Cond.code ⟨"IceParliamentModel", "emit", "(II)V"⟩ prog_14_method_37_code 3 (Option.none : Option Jvm.ClassFile.FieldType) ∈ lw_g := in_t8 (List.mem_of_getElem? (i := 123) rfl) rfl
theorem mc_233 : Cond.code ⟨"IceParliamentModel", "hasSign", "(I)Z"⟩ prog_14_method_14_code 3 (Option.some Jvm.ClassFile.FieldType.boolean) ∈ lw_g := in_t8 (List.mem_of_getElem? (i := 127) rfl) rfl
theorem mc_234 : Cond.code ⟨"IceParliamentModel", "takeSign", "(I)V"⟩ prog_14_method_13_code 2 (Option.none : Option Jvm.ClassFile.FieldType) ∈ lw_g := in_t8 (List.mem_of_getElem? (i := 131) rfl) rfl
theorem mc_235 : Cond.code ⟨"IceParliamentModel", "session", "()I"⟩ prog_14_method_36_code 3 (Option.some Jvm.ClassFile.FieldType.int) ∈ lw_g := in_t8 (List.mem_of_getElem? (i := 135) rfl) rfl
theorem mc_236 : Cond.code ⟨"IceParliamentModel", "act", "(II)I"⟩ prog_14_method_66_code 4 (Option.some Jvm.ClassFile.FieldType.int) ∈ lw_g := in_t8 (List.mem_of_getElem? (i := 139) rfl) rfl
theorem mc_237 : Cond.code ⟨"IceParliamentModel", "isAct", "(I)Z"⟩ prog_14_method_53_code 2 (Option.some Jvm.ClassFile.FieldType.boolean) ∈ lw_g := in_t8 (List.mem_of_getElem? (i := 143) rfl) rfl
theorem mc_238 : Cond.code ⟨"IceParliamentModel", "stood", "(II)Z"⟩ prog_14_method_56_code 3 (Option.some Jvm.ClassFile.FieldType.boolean) ∈ lw_g := in_t8 (List.mem_of_getElem? (i := 147) rfl) rfl
theorem mc_239 : Cond.code ⟨"IceParliamentModel", "needs", "(I)I"⟩ prog_14_method_57_code 3 (Option.some Jvm.ClassFile.FieldType.int) ∈ lw_g := in_t8 (List.mem_of_getElem? (i := 151) rfl) rfl
theorem mc_240 : Cond.code ⟨"IceParliamentModel", "inForce", "(II)Z"⟩ prog_14_method_58_code 3 (Option.some Jvm.ClassFile.FieldType.boolean) ∈ lw_g := in_t8 (List.mem_of_getElem? (i := 155) rfl) rfl
theorem mc_241 : Cond.code ⟨"IceParliamentModel", "meltsNow", "(IIZ)I"⟩ prog_14_method_63_code 5 (Option.some Jvm.ClassFile.FieldType.int) ∈ lw_g := in_t8 (List.mem_of_getElem? (i := 159) rfl) rfl
theorem mc_242 : Cond.code ⟨"IceParliamentModel", "meltOf", "(IIIIZ)I"⟩ prog_14_method_62_code 8 (Option.some Jvm.ClassFile.FieldType.int) ∈ lw_g := in_t8 (List.mem_of_getElem? (i := 163) rfl) rfl
theorem mc_243 : Cond.code ⟨"IceParliamentModel", "warmthOf", "(IZ)I"⟩ prog_14_method_61_code 3 (Option.some Jvm.ClassFile.FieldType.int) ∈ lw_g := in_t8 (List.mem_of_getElem? (i := 167) rfl) rfl
theorem mc_244 : Cond.code ⟨"IceParliamentModel", "worthAt", "(I)I"⟩ prog_14_method_43_code 5 (Option.some Jvm.ClassFile.FieldType.int) ∈ lw_g := in_t8 (List.mem_of_getElem? (i := 171) rfl) rfl
theorem mc_245 : Cond.code ⟨"IceParliamentModel", "both", "(III)I"⟩ prog_14_method_44_code 3 (Option.some Jvm.ClassFile.FieldType.int) ∈ lw_g := in_t8 (List.mem_of_getElem? (i := 174) rfl) rfl
theorem mc_246 : Cond.code ⟨"IceParliamentModel", "carver", "(II)I"⟩ prog_14_method_67_code 3 (Option.some Jvm.ClassFile.FieldType.int) ∈ lw_g := in_t8 (List.mem_of_getElem? (i := 178) rfl) rfl
theorem mc_247 : Cond.code ⟨"IceParliamentModel", "isCarver", "(I)Z"⟩ prog_14_method_55_code 2 (Option.some Jvm.ClassFile.FieldType.boolean) ∈ lw_g := in_t8 (List.mem_of_getElem? (i := 182) rfl) rfl
theorem mc_248 : Cond.code ⟨"IceParliamentModel", "carvers", "()I"⟩ prog_14_method_50_code 1 (Option.some Jvm.ClassFile.FieldType.int) ∈ lw_g := in_t8 (List.mem_of_getElem? (i := 186) rfl) rfl
theorem mc_249 : Cond.code ⟨"IceParliamentModel", "force", "()I"⟩ prog_14_method_68_code 1 (Option.some Jvm.ClassFile.FieldType.int) ∈ lw_g := in_t8 (List.mem_of_getElem? (i := 190) rfl) rfl
theorem mc_250 : Cond.code ⟨"IceParliamentModel", "forceOf", "(I)I"⟩ prog_14_method_59_code 4 (Option.some Jvm.ClassFile.FieldType.int) ∈ lw_g := in_t8 (List.mem_of_getElem? (i := 194) rfl) rfl
theorem mc_251 : Cond.code ⟨"IceParliamentModel", "side", "(I)I"⟩ prog_14_method_69_code 4 (Option.some Jvm.ClassFile.FieldType.int) ∈ lw_g := in_t8 (List.mem_of_getElem? (i := 198) rfl) rfl
theorem mc_252 : Cond.code ⟨"IceParliamentModel", "worthOf", "(I)I"⟩ prog_14_method_60_code 4 (Option.some Jvm.ClassFile.FieldType.int) ∈ lw_g := in_t8 (List.mem_of_getElem? (i := 202) rfl) rfl
theorem mc_253 : Cond.code ⟨"IceParliamentModel", "begin", "(II)Z"⟩ prog_14_method_77_code 3 (Option.some Jvm.ClassFile.FieldType.boolean) ∈ lw_g := in_t8 (List.mem_of_getElem? (i := 206) rfl) rfl
theorem mc_254 : Cond.code ⟨"IceParliamentModel", "isSpot", "(I)Z"⟩ prog_14_method_54_code 2 (Option.some Jvm.ClassFile.FieldType.boolean) ∈ lw_g := in_t8 (List.mem_of_getElem? (i := 210) rfl) rfl
theorem mc_255 : Cond.code ⟨"IceParliamentModel", "spots", "()I"⟩ prog_14_method_49_code 1 (Option.some Jvm.ClassFile.FieldType.int) ∈ lw_g := in_t8 (List.mem_of_getElem? (i := 214) rfl) rfl
theorem mc_256 : Cond.code ⟨"IceParliamentModel", "mayBegin", "(III)Z"⟩ prog_14_method_71_code 4 (Option.some Jvm.ClassFile.FieldType.boolean) ∈ lw_g := in_t8 (List.mem_of_getElem? (i := 218) rfl) rfl
theorem mc_257 : Cond.code ⟨"IceParliamentModel", "isFree", "(II)Z"⟩ prog_14_method_70_code 5 (Option.some Jvm.ClassFile.FieldType.boolean) ∈ lw_g := in_t8 (List.mem_of_getElem? (i := 222) rfl) rfl
theorem mc_258 : Cond.code ⟨"IceParliamentModel", "keeps", "()V"⟩ prog_14_method_48_code 2 (Option.none : Option Jvm.ClassFile.FieldType) ∈ lw_g := in_t8 (List.mem_of_getElem? (i := 226) rfl) rfl
theorem mc_259 : Cond.code ⟨"IceParliamentModel", "copies", "(II)V"⟩ prog_14_method_45_code 4 (Option.none : Option Jvm.ClassFile.FieldType) ∈ lw_g := in_t8 (List.mem_of_getElem? (i := 230) rfl) rfl
theorem mc_260 : Cond.code ⟨"IceParliamentModel", "puts", "(III)V"⟩ prog_14_method_72_code 4 (Option.none : Option Jvm.ClassFile.FieldType) ∈ lw_g := in_t8 (List.mem_of_getElem? (i := 234) rfl) rfl
theorem mc_261 : Cond.code ⟨"IceParliamentModel", "carve", "(II)I"⟩ prog_14_method_78_code 3 (Option.some Jvm.ClassFile.FieldType.int) ∈ lw_g := in_t8 (List.mem_of_getElem? (i := 238) rfl) rfl
theorem mc_262 : Cond.code ⟨"IceParliamentModel", "mayCarve", "(III)Z"⟩ prog_14_method_73_code 5 (Option.some Jvm.ClassFile.FieldType.boolean) ∈ lw_g := in_t9 (List.mem_of_getElem? (i := 2) rfl) rfl
theorem mc_263 : Cond.code ⟨"IceParliamentModel", "chips", "(III)I"⟩ prog_14_method_74_code 5 (Option.some Jvm.ClassFile.FieldType.int) ∈ lw_g := in_t9 (List.mem_of_getElem? (i := 6) rfl) rfl
theorem mc_264 : Cond.code ⟨"IceParliamentModel", "prop", "(I)I"⟩ prog_14_method_79_code 2 (Option.some Jvm.ClassFile.FieldType.int) ∈ lw_g := in_t9 (List.mem_of_getElem? (i := 10) rfl) rfl
theorem mc_265 : Cond.code ⟨"IceParliamentModel", "mayProp", "(II)Z"⟩ prog_14_method_75_code 3 (Option.some Jvm.ClassFile.FieldType.boolean) ∈ lw_g := in_t9 (List.mem_of_getElem? (i := 14) rfl) rfl
theorem mc_266 : Cond.code ⟨"IceParliamentModel", "torch", "(I)I"⟩ prog_14_method_80_code 2 (Option.some Jvm.ClassFile.FieldType.int) ∈ lw_g := in_t9 (List.mem_of_getElem? (i := 18) rfl) rfl
theorem mc_267 : Cond.code ⟨"IceParliamentModel", "burns", "(II)I"⟩ prog_14_method_76_code 3 (Option.some Jvm.ClassFile.FieldType.int) ∈ lw_g := in_t9 (List.mem_of_getElem? (i := 22) rfl) rfl
theorem mc_268 : Cond.code ⟨"IceParliamentModel", "night", "()I"⟩ prog_14_method_81_code 1 (Option.some Jvm.ClassFile.FieldType.int) ∈ lw_g := in_t9 (List.mem_of_getElem? (i := 26) rfl) rfl
theorem mc_269 : Cond.code ⟨"IceParliamentModel", "passes", "(IZ)I"⟩ prog_14_method_65_code 6 (Option.some Jvm.ClassFile.FieldType.int) ∈ lw_g := in_t9 (List.mem_of_getElem? (i := 30) rfl) rfl
theorem mc_270 : Cond.code ⟨"IceParliamentModel", "tallThen", "(IIZ)I"⟩ prog_14_method_64_code 5 (Option.some Jvm.ClassFile.FieldType.int) ∈ lw_g := in_t9 (List.mem_of_getElem? (i := 34) rfl) rfl
theorem mc_271 : Cond.code ⟨"IceParliamentModel", "undo", "()Z"⟩ prog_14_method_82_code 1 (Option.some Jvm.ClassFile.FieldType.boolean) ∈ lw_g := in_t9 (List.mem_of_getElem? (i := 38) rfl) rfl
theorem mc_272 : Cond.code ⟨"IceParliamentModel", "judged", "(I)I"⟩ prog_14_method_84_code 7 (Option.some Jvm.ClassFile.FieldType.int) ∈ lw_g := in_t9 (List.mem_of_getElem? (i := 42) rfl) rfl
theorem mc_273 : Cond.code ⟨"IceParliamentModel", "does", "(III)Z"⟩ prog_14_method_83_code 5 (Option.some Jvm.ClassFile.FieldType.boolean) ∈ lw_g := in_t9 (List.mem_of_getElem? (i := 46) rfl) rfl
theorem mc_274 : Cond.code ⟨"IceParliamentModel", "falls", "(I)I"⟩ prog_14_method_85_code 3 (Option.some Jvm.ClassFile.FieldType.int) ∈ lw_g := in_t9 (List.mem_of_getElem? (i := 50) rfl) rfl
theorem mc_275 : Cond.code ⟨"IceParliamentModel", "clashes", "()I"⟩ prog_14_method_87_code 1 (Option.some Jvm.ClassFile.FieldType.int) ∈ lw_g := in_t9 (List.mem_of_getElem? (i := 54) rfl) rfl
theorem mc_276 : Cond.code ⟨"IceParliamentModel", "clashesIn", "(I)I"⟩ prog_14_method_86_code 5 (Option.some Jvm.ClassFile.FieldType.int) ∈ lw_g := in_t9 (List.mem_of_getElem? (i := 58) rfl) rfl
theorem mc_277 : Cond.code ⟨"IceParliamentModel", "mend", "(I)I"⟩ prog_14_method_88_code 6 (Option.some Jvm.ClassFile.FieldType.int) ∈ lw_g := in_t9 (List.mem_of_getElem? (i := 62) rfl) rfl
theorem mc_278 : Cond.code ⟨"IceParliamentModel", "work", "(II)I"⟩ prog_14_method_92_code 5 (Option.some Jvm.ClassFile.FieldType.int) ∈ lw_g := in_t9 (List.mem_of_getElem? (i := 66) rfl) rfl
theorem mc_279 : Cond.code ⟨"IceParliamentModel", "findTakers", "()V"⟩ prog_14_method_89_code 2 (Option.none : Option Jvm.ClassFile.FieldType) ∈ lw_g := in_t9 (List.mem_of_getElem? (i := 70) rfl) rfl
theorem mc_280 : Cond.code ⟨"IceParliamentModel", "works", "(II)V"⟩ prog_14_method_91_code 4 (Option.none : Option Jvm.ClassFile.FieldType) ∈ lw_g := in_t9 (List.mem_of_getElem? (i := 74) rfl) rfl
theorem mc_281 : Cond.code ⟨"IceParliamentModel", "worksBy", "(I)V"⟩ prog_14_method_90_code 4 (Option.none : Option Jvm.ClassFile.FieldType) ∈ lw_g := in_t9 (List.mem_of_getElem? (i := 78) rfl) rfl
theorem mc_282 : Cond.code ⟨"IceParliamentModel", "places", "(I)I"⟩ prog_14_method_95_code 6 (Option.some Jvm.ClassFile.FieldType.int) ∈ lw_g := in_t9 (List.mem_of_getElem? (i := 82) rfl) rfl
theorem mc_283 : Cond.code ⟨"IceParliamentModel", "nightsAt", "(III)I"⟩ prog_14_method_93_code 6 (Option.some Jvm.ClassFile.FieldType.int) ∈ lw_g := in_t9 (List.mem_of_getElem? (i := 86) rfl) rfl
theorem mc_284 : Cond.code ⟨"IceParliamentModel", "laysPlaces", "(IIII)V"⟩ prog_14_method_94_code 6 (Option.none : Option Jvm.ClassFile.FieldType) ∈ lw_g := in_t9 (List.mem_of_getElem? (i := 90) rfl) rfl
theorem mc_285 : Cond.code ⟨"IceParliamentModel", "thin", "(III)I"⟩ prog_14_method_96_code 5 (Option.some Jvm.ClassFile.FieldType.int) ∈ lw_g := in_t9 (List.mem_of_getElem? (i := 94) rfl) rfl
theorem mc_286 : Cond.code ⟨"IceParliamentModel", "stands", "(II)I"⟩ prog_14_method_98_code 6 (Option.some Jvm.ClassFile.FieldType.int) ∈ lw_g := in_t9 (List.mem_of_getElem? (i := 98) rfl) rfl
theorem mc_287 : Cond.code ⟨"IceParliamentModel", "standing", "(IIIIII)J"⟩ prog_14_method_97_code 12 (Option.some Jvm.ClassFile.FieldType.long) ∈ lw_g := in_t9 (List.mem_of_getElem? (i := 102) rfl) rfl
theorem mc_288 : Cond.code ⟨"IceParliamentModel", "propped", "(I)I"⟩ prog_14_method_100_code 6 (Option.some Jvm.ClassFile.FieldType.int) ∈ lw_g := in_t9 (List.mem_of_getElem? (i := 107) rfl) rfl
theorem mc_289 : Cond.code ⟨"IceParliamentModel", "worthBehind", "(II)I"⟩ prog_14_method_99_code 4 (Option.some Jvm.ClassFile.FieldType.int) ∈ lw_g := in_t9 (List.mem_of_getElem? (i := 111) rfl) rfl
theorem mc_290 : Cond.code ⟨"IceParliamentModel", "tell", "(II)Z"⟩ prog_14_method_104_code 3 (Option.some Jvm.ClassFile.FieldType.boolean) ∈ lw_g := in_t9 (List.mem_of_getElem? (i := 115) rfl) rfl
theorem mc_291 : Cond.code ⟨"IceParliamentModel", "sets", "(I)I"⟩ prog_14_method_105_code 6 (Option.some Jvm.ClassFile.FieldType.int) ∈ lw_g := in_t9 (List.mem_of_getElem? (i := 119) rfl) rfl
theorem mc_292 : Cond.code ⟨"IceParliamentModel", "fitsTold", "(I)Z"⟩ prog_14_method_103_code 4 (Option.some Jvm.ClassFile.FieldType.boolean) ∈ lw_g := in_t9 (List.mem_of_getElem? (i := 123) rfl) rfl
theorem mc_293 : Cond.code ⟨"IceParliamentModel", "carvedSet", "()I"⟩ prog_14_method_101_code 3 (Option.some Jvm.ClassFile.FieldType.int) ∈ lw_g := in_t9 (List.mem_of_getElem? (i := 127) rfl) rfl
theorem mc_294 : Cond.code ⟨"IceParliamentModel", "tallBy", "(II)I"⟩ prog_14_method_102_code 5 (Option.some Jvm.ClassFile.FieldType.int) ∈ lw_g := in_t9 (List.mem_of_getElem? (i := 131) rfl) rfl
theorem mc_295 : Cond.code ⟨"IceParliamentModel", "look", "()I"⟩ prog_14_method_107_code 5 (Option.some Jvm.ClassFile.FieldType.int) ∈ lw_g := in_t9 (List.mem_of_getElem? (i := 135) rfl) rfl
theorem mc_296 : Cond.code ⟨"IceParliamentModel", "greatestAt", "(I)I"⟩ prog_14_method_106_code 5 (Option.some Jvm.ClassFile.FieldType.int) ∈ lw_g := in_t9 (List.mem_of_getElem? (i := 139) rfl) rfl
theorem mc_297 : Cond.code ⟨"IceParliamentModel", "rests", "(IIII)I"⟩ prog_14_method_109_code 12 (Option.some Jvm.ClassFile.FieldType.int) ∈ lw_g := in_t9 (List.mem_of_getElem? (i := 143) rfl) rfl
theorem mc_298 : Cond.code ⟨"IceParliamentModel", "burnsFor", "(IIIII)I"⟩ prog_14_method_108_code 5 (Option.some Jvm.ClassFile.FieldType.int) ∈ lw_g := in_t9 (List.mem_of_getElem? (i := 146) rfl) rfl
theorem mc_299 : Cond.code ⟨"IceParliamentModel", "decades", "(III)I"⟩ prog_14_method_112_code 8 (Option.some Jvm.ClassFile.FieldType.int) ∈ lw_g := in_t9 (List.mem_of_getElem? (i := 150) rfl) rfl
theorem mc_300 : Cond.code ⟨"IceParliamentModel", "drawsNight", "()I"⟩ prog_14_method_111_code 3 (Option.some Jvm.ClassFile.FieldType.int) ∈ lw_g := in_t9 (List.mem_of_getElem? (i := 154) rfl) rfl
theorem mc_301 : Cond.code ⟨"IceParliamentModel", "draw", "(I)I"⟩ prog_14_method_110_code 2 (Option.some Jvm.ClassFile.FieldType.int) ∈ lw_g := in_t9 (List.mem_of_getElem? (i := 158) rfl) rfl
theorem mc_302 : Cond.code ⟨"IceParliamentModel", "mark", "(IZ)Z"⟩ prog_14_method_113_code 3 (Option.some Jvm.ClassFile.FieldType.boolean) ∈ lw_g := in_t9 (List.mem_of_getElem? (i := 166) rfl) rfl
theorem mc_303 : Cond.code ⟨"IceParliamentModel", "count", "(I)I"⟩ prog_14_method_116_code 2 (Option.some Jvm.ClassFile.FieldType.int) ∈ lw_g := in_t9 (List.mem_of_getElem? (i := 170) rfl) rfl
theorem mc_304 : Cond.code ⟨"IceParliamentModel", "howMany", "(I)I"⟩ prog_14_method_114_code 4 (Option.some Jvm.ClassFile.FieldType.int) ∈ lw_g := in_t9 (List.mem_of_getElem? (i := 174) rfl) rfl
theorem mc_305 : Cond.code ⟨"IceParliamentModel", "toldMany", "()I"⟩ prog_14_method_115_code 3 (Option.some Jvm.ClassFile.FieldType.int) ∈ lw_g := in_t9 (List.mem_of_getElem? (i := 178) rfl) rfl
set_option maxRecDepth 100000 in
theorem mc_all : ∀ m ∈ mdL, Cond.code m.1 m.2.1 m.2.2.1 m.2.2.2.1 ∈ lw_g :=
  List.forall_mem_cons.mpr ⟨mc_0, List.forall_mem_cons.mpr ⟨mc_1, List.forall_mem_cons.mpr ⟨mc_2, List.forall_mem_cons.mpr ⟨mc_3, List.forall_mem_cons.mpr ⟨mc_4, List.forall_mem_cons.mpr ⟨mc_5, List.forall_mem_cons.mpr ⟨mc_6, List.forall_mem_cons.mpr ⟨mc_7, List.forall_mem_cons.mpr ⟨mc_8, List.forall_mem_cons.mpr ⟨mc_9, List.forall_mem_cons.mpr ⟨mc_10, List.forall_mem_cons.mpr ⟨mc_11, List.forall_mem_cons.mpr ⟨mc_12, List.forall_mem_cons.mpr ⟨mc_13, List.forall_mem_cons.mpr ⟨mc_14, List.forall_mem_cons.mpr ⟨mc_15, List.forall_mem_cons.mpr ⟨mc_16, List.forall_mem_cons.mpr ⟨mc_17, List.forall_mem_cons.mpr ⟨mc_18, List.forall_mem_cons.mpr ⟨mc_19, List.forall_mem_cons.mpr ⟨mc_20, List.forall_mem_cons.mpr ⟨mc_21, List.forall_mem_cons.mpr ⟨mc_22, List.forall_mem_cons.mpr ⟨mc_23, List.forall_mem_cons.mpr ⟨mc_24, List.forall_mem_cons.mpr ⟨mc_25, List.forall_mem_cons.mpr ⟨mc_26, List.forall_mem_cons.mpr ⟨mc_27, List.forall_mem_cons.mpr ⟨mc_28, List.forall_mem_cons.mpr ⟨mc_29, List.forall_mem_cons.mpr ⟨mc_30, List.forall_mem_cons.mpr ⟨mc_31, List.forall_mem_cons.mpr ⟨mc_32, List.forall_mem_cons.mpr ⟨mc_33, List.forall_mem_cons.mpr ⟨mc_34, List.forall_mem_cons.mpr ⟨mc_35, List.forall_mem_cons.mpr ⟨mc_36, List.forall_mem_cons.mpr ⟨mc_37, List.forall_mem_cons.mpr ⟨mc_38, List.forall_mem_cons.mpr ⟨mc_39, List.forall_mem_cons.mpr ⟨mc_40, List.forall_mem_cons.mpr ⟨mc_41, List.forall_mem_cons.mpr ⟨mc_42, List.forall_mem_cons.mpr ⟨mc_43, List.forall_mem_cons.mpr ⟨mc_44, List.forall_mem_cons.mpr ⟨mc_45, List.forall_mem_cons.mpr ⟨mc_46, List.forall_mem_cons.mpr ⟨mc_47, List.forall_mem_cons.mpr ⟨mc_48, List.forall_mem_cons.mpr ⟨mc_49, List.forall_mem_cons.mpr ⟨mc_50, List.forall_mem_cons.mpr ⟨mc_51, List.forall_mem_cons.mpr ⟨mc_52, List.forall_mem_cons.mpr ⟨mc_53, List.forall_mem_cons.mpr ⟨mc_54, List.forall_mem_cons.mpr ⟨mc_55, List.forall_mem_cons.mpr ⟨mc_56, List.forall_mem_cons.mpr ⟨mc_57, List.forall_mem_cons.mpr ⟨mc_58, List.forall_mem_cons.mpr ⟨mc_59, List.forall_mem_cons.mpr ⟨mc_60, List.forall_mem_cons.mpr ⟨mc_61, List.forall_mem_cons.mpr ⟨mc_62, List.forall_mem_cons.mpr ⟨mc_63, List.forall_mem_cons.mpr ⟨mc_64, List.forall_mem_cons.mpr ⟨mc_65, List.forall_mem_cons.mpr ⟨mc_66, List.forall_mem_cons.mpr ⟨mc_67, List.forall_mem_cons.mpr ⟨mc_68, List.forall_mem_cons.mpr ⟨mc_69, List.forall_mem_cons.mpr ⟨mc_70, List.forall_mem_cons.mpr ⟨mc_71, List.forall_mem_cons.mpr ⟨mc_72, List.forall_mem_cons.mpr ⟨mc_73, List.forall_mem_cons.mpr ⟨mc_74, List.forall_mem_cons.mpr ⟨mc_75, List.forall_mem_cons.mpr ⟨mc_76, List.forall_mem_cons.mpr ⟨mc_77, List.forall_mem_cons.mpr ⟨mc_78, List.forall_mem_cons.mpr ⟨mc_79, List.forall_mem_cons.mpr ⟨mc_80, List.forall_mem_cons.mpr ⟨mc_81, List.forall_mem_cons.mpr ⟨mc_82, List.forall_mem_cons.mpr ⟨mc_83, List.forall_mem_cons.mpr ⟨mc_84, List.forall_mem_cons.mpr ⟨mc_85, List.forall_mem_cons.mpr ⟨mc_86, List.forall_mem_cons.mpr ⟨mc_87, List.forall_mem_cons.mpr ⟨mc_88, List.forall_mem_cons.mpr ⟨mc_89, List.forall_mem_cons.mpr ⟨mc_90, List.forall_mem_cons.mpr ⟨mc_91, List.forall_mem_cons.mpr ⟨mc_92, List.forall_mem_cons.mpr ⟨mc_93, List.forall_mem_cons.mpr ⟨mc_94, List.forall_mem_cons.mpr ⟨mc_95, List.forall_mem_cons.mpr ⟨mc_96, List.forall_mem_cons.mpr ⟨mc_97, List.forall_mem_cons.mpr ⟨mc_98, List.forall_mem_cons.mpr ⟨mc_99, List.forall_mem_cons.mpr ⟨mc_100, List.forall_mem_cons.mpr ⟨mc_101, List.forall_mem_cons.mpr ⟨mc_102, List.forall_mem_cons.mpr ⟨mc_103, List.forall_mem_cons.mpr ⟨mc_104, List.forall_mem_cons.mpr ⟨mc_105, List.forall_mem_cons.mpr ⟨mc_106, List.forall_mem_cons.mpr ⟨mc_107, List.forall_mem_cons.mpr ⟨mc_108, List.forall_mem_cons.mpr ⟨mc_109, List.forall_mem_cons.mpr ⟨mc_110, List.forall_mem_cons.mpr ⟨mc_111, List.forall_mem_cons.mpr ⟨mc_112, List.forall_mem_cons.mpr ⟨mc_113, List.forall_mem_cons.mpr ⟨mc_114, List.forall_mem_cons.mpr ⟨mc_115, List.forall_mem_cons.mpr ⟨mc_116, List.forall_mem_cons.mpr ⟨mc_117, List.forall_mem_cons.mpr ⟨mc_118, List.forall_mem_cons.mpr ⟨mc_119, List.forall_mem_cons.mpr ⟨mc_120, List.forall_mem_cons.mpr ⟨mc_121, List.forall_mem_cons.mpr ⟨mc_122, List.forall_mem_cons.mpr ⟨mc_123, List.forall_mem_cons.mpr ⟨mc_124, List.forall_mem_cons.mpr ⟨mc_125, List.forall_mem_cons.mpr ⟨mc_126, List.forall_mem_cons.mpr ⟨mc_127, List.forall_mem_cons.mpr ⟨mc_128, List.forall_mem_cons.mpr ⟨mc_129, List.forall_mem_cons.mpr ⟨mc_130, List.forall_mem_cons.mpr ⟨mc_131, List.forall_mem_cons.mpr ⟨mc_132, List.forall_mem_cons.mpr ⟨mc_133, List.forall_mem_cons.mpr ⟨mc_134, List.forall_mem_cons.mpr ⟨mc_135, List.forall_mem_cons.mpr ⟨mc_136, List.forall_mem_cons.mpr ⟨mc_137, List.forall_mem_cons.mpr ⟨mc_138, List.forall_mem_cons.mpr ⟨mc_139, List.forall_mem_cons.mpr ⟨mc_140, List.forall_mem_cons.mpr ⟨mc_141, List.forall_mem_cons.mpr ⟨mc_142, List.forall_mem_cons.mpr ⟨mc_143, List.forall_mem_cons.mpr ⟨mc_144, List.forall_mem_cons.mpr ⟨mc_145, List.forall_mem_cons.mpr ⟨mc_146, List.forall_mem_cons.mpr ⟨mc_147, List.forall_mem_cons.mpr ⟨mc_148, List.forall_mem_cons.mpr ⟨mc_149, List.forall_mem_cons.mpr ⟨mc_150, List.forall_mem_cons.mpr ⟨mc_151, List.forall_mem_cons.mpr ⟨mc_152, List.forall_mem_cons.mpr ⟨mc_153, List.forall_mem_cons.mpr ⟨mc_154, List.forall_mem_cons.mpr ⟨mc_155, List.forall_mem_cons.mpr ⟨mc_156, List.forall_mem_cons.mpr ⟨mc_157, List.forall_mem_cons.mpr ⟨mc_158, List.forall_mem_cons.mpr ⟨mc_159, List.forall_mem_cons.mpr ⟨mc_160, List.forall_mem_cons.mpr ⟨mc_161, List.forall_mem_cons.mpr ⟨mc_162, List.forall_mem_cons.mpr ⟨mc_163, List.forall_mem_cons.mpr ⟨mc_164, List.forall_mem_cons.mpr ⟨mc_165, List.forall_mem_cons.mpr ⟨mc_166, List.forall_mem_cons.mpr ⟨mc_167, List.forall_mem_cons.mpr ⟨mc_168, List.forall_mem_cons.mpr ⟨mc_169, List.forall_mem_cons.mpr ⟨mc_170, List.forall_mem_cons.mpr ⟨mc_171, List.forall_mem_cons.mpr ⟨mc_172, List.forall_mem_cons.mpr ⟨mc_173, List.forall_mem_cons.mpr ⟨mc_174, List.forall_mem_cons.mpr ⟨mc_175, List.forall_mem_cons.mpr ⟨mc_176, List.forall_mem_cons.mpr ⟨mc_177, List.forall_mem_cons.mpr ⟨mc_178, List.forall_mem_cons.mpr ⟨mc_179, List.forall_mem_cons.mpr ⟨mc_180, List.forall_mem_cons.mpr ⟨mc_181, List.forall_mem_cons.mpr ⟨mc_182, List.forall_mem_cons.mpr ⟨mc_183, List.forall_mem_cons.mpr ⟨mc_184, List.forall_mem_cons.mpr ⟨mc_185, List.forall_mem_cons.mpr ⟨mc_186, List.forall_mem_cons.mpr ⟨mc_187, List.forall_mem_cons.mpr ⟨mc_188, List.forall_mem_cons.mpr ⟨mc_189, List.forall_mem_cons.mpr ⟨mc_190, List.forall_mem_cons.mpr ⟨mc_191, List.forall_mem_cons.mpr ⟨mc_192, List.forall_mem_cons.mpr ⟨mc_193, List.forall_mem_cons.mpr ⟨mc_194, List.forall_mem_cons.mpr ⟨mc_195, List.forall_mem_cons.mpr ⟨mc_196, List.forall_mem_cons.mpr ⟨mc_197, List.forall_mem_cons.mpr ⟨mc_198, List.forall_mem_cons.mpr ⟨mc_199, List.forall_mem_cons.mpr ⟨mc_200, List.forall_mem_cons.mpr ⟨mc_201, List.forall_mem_cons.mpr ⟨mc_202, List.forall_mem_cons.mpr ⟨mc_203, List.forall_mem_cons.mpr ⟨mc_204, List.forall_mem_cons.mpr ⟨mc_205, List.forall_mem_cons.mpr ⟨mc_206, List.forall_mem_cons.mpr ⟨mc_207, List.forall_mem_cons.mpr ⟨mc_208, List.forall_mem_cons.mpr ⟨mc_209, List.forall_mem_cons.mpr ⟨mc_210, List.forall_mem_cons.mpr ⟨mc_211, List.forall_mem_cons.mpr ⟨mc_212, List.forall_mem_cons.mpr ⟨mc_213, List.forall_mem_cons.mpr ⟨mc_214, List.forall_mem_cons.mpr ⟨mc_215, List.forall_mem_cons.mpr ⟨mc_216, List.forall_mem_cons.mpr ⟨mc_217, List.forall_mem_cons.mpr ⟨mc_218, List.forall_mem_cons.mpr ⟨mc_219, List.forall_mem_cons.mpr ⟨mc_220, List.forall_mem_cons.mpr ⟨mc_221, List.forall_mem_cons.mpr ⟨mc_222, List.forall_mem_cons.mpr ⟨mc_223, List.forall_mem_cons.mpr ⟨mc_224, List.forall_mem_cons.mpr ⟨mc_225, List.forall_mem_cons.mpr ⟨mc_226, List.forall_mem_cons.mpr ⟨mc_227, List.forall_mem_cons.mpr ⟨mc_228, List.forall_mem_cons.mpr ⟨mc_229, List.forall_mem_cons.mpr ⟨mc_230, List.forall_mem_cons.mpr ⟨mc_231, List.forall_mem_cons.mpr ⟨mc_232, List.forall_mem_cons.mpr ⟨mc_233, List.forall_mem_cons.mpr ⟨mc_234, List.forall_mem_cons.mpr ⟨mc_235, List.forall_mem_cons.mpr ⟨mc_236, List.forall_mem_cons.mpr ⟨mc_237, List.forall_mem_cons.mpr ⟨mc_238, List.forall_mem_cons.mpr ⟨mc_239, List.forall_mem_cons.mpr ⟨mc_240, List.forall_mem_cons.mpr ⟨mc_241, List.forall_mem_cons.mpr ⟨mc_242, List.forall_mem_cons.mpr ⟨mc_243, List.forall_mem_cons.mpr ⟨mc_244, List.forall_mem_cons.mpr ⟨mc_245, List.forall_mem_cons.mpr ⟨mc_246, List.forall_mem_cons.mpr ⟨mc_247, List.forall_mem_cons.mpr ⟨mc_248, List.forall_mem_cons.mpr ⟨mc_249, List.forall_mem_cons.mpr ⟨mc_250, List.forall_mem_cons.mpr ⟨mc_251, List.forall_mem_cons.mpr ⟨mc_252, List.forall_mem_cons.mpr ⟨mc_253, List.forall_mem_cons.mpr ⟨mc_254, List.forall_mem_cons.mpr ⟨mc_255, List.forall_mem_cons.mpr ⟨mc_256, List.forall_mem_cons.mpr ⟨mc_257, List.forall_mem_cons.mpr ⟨mc_258, List.forall_mem_cons.mpr ⟨mc_259, List.forall_mem_cons.mpr ⟨mc_260, List.forall_mem_cons.mpr ⟨mc_261, List.forall_mem_cons.mpr ⟨mc_262, List.forall_mem_cons.mpr ⟨mc_263, List.forall_mem_cons.mpr ⟨mc_264, List.forall_mem_cons.mpr ⟨mc_265, List.forall_mem_cons.mpr ⟨mc_266, List.forall_mem_cons.mpr ⟨mc_267, List.forall_mem_cons.mpr ⟨mc_268, List.forall_mem_cons.mpr ⟨mc_269, List.forall_mem_cons.mpr ⟨mc_270, List.forall_mem_cons.mpr ⟨mc_271, List.forall_mem_cons.mpr ⟨mc_272, List.forall_mem_cons.mpr ⟨mc_273, List.forall_mem_cons.mpr ⟨mc_274, List.forall_mem_cons.mpr ⟨mc_275, List.forall_mem_cons.mpr ⟨mc_276, List.forall_mem_cons.mpr ⟨mc_277, List.forall_mem_cons.mpr ⟨mc_278, List.forall_mem_cons.mpr ⟨mc_279, List.forall_mem_cons.mpr ⟨mc_280, List.forall_mem_cons.mpr ⟨mc_281, List.forall_mem_cons.mpr ⟨mc_282, List.forall_mem_cons.mpr ⟨mc_283, List.forall_mem_cons.mpr ⟨mc_284, List.forall_mem_cons.mpr ⟨mc_285, List.forall_mem_cons.mpr ⟨mc_286, List.forall_mem_cons.mpr ⟨mc_287, List.forall_mem_cons.mpr ⟨mc_288, List.forall_mem_cons.mpr ⟨mc_289, List.forall_mem_cons.mpr ⟨mc_290, List.forall_mem_cons.mpr ⟨mc_291, List.forall_mem_cons.mpr ⟨mc_292, List.forall_mem_cons.mpr ⟨mc_293, List.forall_mem_cons.mpr ⟨mc_294, List.forall_mem_cons.mpr ⟨mc_295, List.forall_mem_cons.mpr ⟨mc_296, List.forall_mem_cons.mpr ⟨mc_297, List.forall_mem_cons.mpr ⟨mc_298, List.forall_mem_cons.mpr ⟨mc_299, List.forall_mem_cons.mpr ⟨mc_300, List.forall_mem_cons.mpr ⟨mc_301, List.forall_mem_cons.mpr ⟨mc_302, List.forall_mem_cons.mpr ⟨mc_303, List.forall_mem_cons.mpr ⟨mc_304, List.forall_mem_cons.mpr ⟨mc_305, fun _ h => absurd h List.not_mem_nil⟩⟩⟩⟩⟩⟩⟩⟩⟩⟩⟩⟩⟩⟩⟩⟩⟩⟩⟩⟩⟩⟩⟩⟩⟩⟩⟩⟩⟩⟩⟩⟩⟩⟩⟩⟩⟩⟩⟩⟩⟩⟩⟩⟩⟩⟩⟩⟩⟩⟩⟩⟩⟩⟩⟩⟩⟩⟩⟩⟩⟩⟩⟩⟩⟩⟩⟩⟩⟩⟩⟩⟩⟩⟩⟩⟩⟩⟩⟩⟩⟩⟩⟩⟩⟩⟩⟩⟩⟩⟩⟩⟩⟩⟩⟩⟩⟩⟩⟩⟩⟩⟩⟩⟩⟩⟩⟩⟩⟩⟩⟩⟩⟩⟩⟩⟩⟩⟩⟩⟩⟩⟩⟩⟩⟩⟩⟩⟩⟩⟩⟩⟩⟩⟩⟩⟩⟩⟩⟩⟩⟩⟩⟩⟩⟩⟩⟩⟩⟩⟩⟩⟩⟩⟩⟩⟩⟩⟩⟩⟩⟩⟩⟩⟩⟩⟩⟩⟩⟩⟩⟩⟩⟩⟩⟩⟩⟩⟩⟩⟩⟩⟩⟩⟩⟩⟩⟩⟩⟩⟩⟩⟩⟩⟩⟩⟩⟩⟩⟩⟩⟩⟩⟩⟩⟩⟩⟩⟩⟩⟩⟩⟩⟩⟩⟩⟩⟩⟩⟩⟩⟩⟩⟩⟩⟩⟩⟩⟩⟩⟩⟩⟩⟩⟩⟩⟩⟩⟩⟩⟩⟩⟩⟩⟩⟩⟩⟩⟩⟩⟩⟩⟩⟩⟩⟩⟩⟩⟩⟩⟩⟩⟩⟩⟩⟩⟩⟩⟩⟩⟩⟩⟩⟩⟩⟩⟩⟩⟩⟩⟩⟩⟩⟩⟩⟩⟩⟩⟩⟩⟩⟩⟩⟩⟩⟩⟩⟩⟩⟩⟩⟩⟩⟩⟩⟩⟩
theorem MDk_of {m : MD} {p : Nat × Nat × Nat × Nat} (h1 : okP m p = true) (h2 : Cond.code m.1 m.2.1 m.2.2.1 m.2.2.2.1 ∈ lw_g) : MDk m := by
  obtain ⟨y, b, mL, rt, ow, tg⟩ := m
  simp only [okP, Bool.and_eq_true, decide_eq_true_eq] at h1
  obtain ⟨⟨⟨⟨⟨⟨a1, a2⟩, a3⟩, a4⟩, a5⟩, a6⟩, a7⟩ := h1
  refine ⟨lw_mem _ a6 rfl, h2, a1, ⟨a2, a3⟩, a4, Nat.le_of_ble_eq_true a5, ?_⟩
  dsimp only
  split at a7
  · rename_i h99
    exact Or.inl ⟨h99, lw_mem _ (of_decide_eq_true a7) rfl⟩
  · rename_i h99
    simp only [Bool.and_eq_true, decide_eq_true_eq] at a7
    refine Or.inr ⟨h99, lw_mem _ a7.1.1 rfl, lw_mem _ a7.1.2 rfl, ?_⟩
    have a8 := a7.2
    split at a8
    · rename_i h40
      exact Or.inl ⟨h40, of_decide_eq_true a8⟩
    · simp only [Bool.and_eq_true, decide_eq_true_eq] at a8
      exact Or.inr a8
theorem MDk_chunk {n c : Nat} (h1 : ((List.range n).all fun i => match mdL[c + i]?, pT[c + i]? with
  | some m, some p => okP m p
  | _, _ => false) = true) {x : Nat} {md : MD} (hx : mdT x = some md) (hl : c ≤ x) (hh : x < c + n) : MDk md := by
  have e1 := List.all_eq_true.mp h1 (x - c) (List.mem_range.mpr (by omega))
  rw [show c + (x - c) = x by omega] at e1
  have hx' : mdL[x]? = some md := hx
  rw [hx'] at e1
  cases hp : pT[x]? with
  | none => rw [hp] at e1; cases e1
  | some p =>
    rw [hp] at e1
    exact MDk_of e1 (mc_all md (List.mem_of_getElem? hx'))
theorem md_all : ∀ x md, mdT x = some md → MDk md := by
  intro x md h
  have hl : x < 306 := by
    have := (List.getElem?_eq_some_iff.mp h).1
    rw [mdL_len] at this; exact this
  by_cases h0 : x < 60
  · exact MDk_chunk pT_ok0 h (by omega) (by omega)
  by_cases h1 : x < 120
  · exact MDk_chunk pT_ok1 h (by omega) (by omega)
  by_cases h2 : x < 180
  · exact MDk_chunk pT_ok2 h (by omega) (by omega)
  by_cases h3 : x < 240
  · exact MDk_chunk pT_ok3 h (by omega) (by omega)
  by_cases h4 : x < 300
  · exact MDk_chunk pT_ok4 h (by omega) (by omega)
  exact MDk_chunk pT_ok5 h (by omega) (by omega)
end
section
theorem cd_ok0 : ((List.range 11).all fun i => match mdL[0 + i]? with
  | some m => (codL.getD (0 + i) []).all fun pe => okE m pe.1 pe.2
  | _ => false) = true := by decide +kernel
theorem cd_ok1 : ((List.range 8).all fun i => match mdL[11 + i]? with
  | some m => (codL.getD (11 + i) []).all fun pe => okE m pe.1 pe.2
  | _ => false) = true := by decide +kernel
theorem cd_ok2 : ((List.range 16).all fun i => match mdL[19 + i]? with
  | some m => (codL.getD (19 + i) []).all fun pe => okE m pe.1 pe.2
  | _ => false) = true := by decide +kernel
theorem cd_ok3 : ((List.range 14).all fun i => match mdL[35 + i]? with
  | some m => (codL.getD (35 + i) []).all fun pe => okE m pe.1 pe.2
  | _ => false) = true := by decide +kernel
theorem cd_ok4 : ((List.range 10).all fun i => match mdL[49 + i]? with
  | some m => (codL.getD (49 + i) []).all fun pe => okE m pe.1 pe.2
  | _ => false) = true := by decide +kernel
theorem cd_ok5 : ((List.range 8).all fun i => match mdL[59 + i]? with
  | some m => (codL.getD (59 + i) []).all fun pe => okE m pe.1 pe.2
  | _ => false) = true := by decide +kernel
theorem cd_ok6 : ((List.range 8).all fun i => match mdL[67 + i]? with
  | some m => (codL.getD (67 + i) []).all fun pe => okE m pe.1 pe.2
  | _ => false) = true := by decide +kernel
theorem cd_ok7 : ((List.range 9).all fun i => match mdL[75 + i]? with
  | some m => (codL.getD (75 + i) []).all fun pe => okE m pe.1 pe.2
  | _ => false) = true := by decide +kernel
theorem cd_ok8 : ((List.range 10).all fun i => match mdL[84 + i]? with
  | some m => (codL.getD (84 + i) []).all fun pe => okE m pe.1 pe.2
  | _ => false) = true := by decide +kernel
theorem cd_ok9 : ((List.range 11).all fun i => match mdL[94 + i]? with
  | some m => (codL.getD (94 + i) []).all fun pe => okE m pe.1 pe.2
  | _ => false) = true := by decide +kernel
theorem cd_ok10 : ((List.range 10).all fun i => match mdL[105 + i]? with
  | some m => (codL.getD (105 + i) []).all fun pe => okE m pe.1 pe.2
  | _ => false) = true := by decide +kernel
theorem cd_ok11 : ((List.range 9).all fun i => match mdL[115 + i]? with
  | some m => (codL.getD (115 + i) []).all fun pe => okE m pe.1 pe.2
  | _ => false) = true := by decide +kernel
theorem cd_ok12 : ((List.range 11).all fun i => match mdL[124 + i]? with
  | some m => (codL.getD (124 + i) []).all fun pe => okE m pe.1 pe.2
  | _ => false) = true := by decide +kernel
theorem cd_ok13 : ((List.range 7).all fun i => match mdL[135 + i]? with
  | some m => (codL.getD (135 + i) []).all fun pe => okE m pe.1 pe.2
  | _ => false) = true := by decide +kernel
theorem cd_ok14 : ((List.range 7).all fun i => match mdL[142 + i]? with
  | some m => (codL.getD (142 + i) []).all fun pe => okE m pe.1 pe.2
  | _ => false) = true := by decide +kernel
theorem cd_ok15 : ((List.range 8).all fun i => match mdL[149 + i]? with
  | some m => (codL.getD (149 + i) []).all fun pe => okE m pe.1 pe.2
  | _ => false) = true := by decide +kernel
theorem cd_ok16 : ((List.range 6).all fun i => match mdL[157 + i]? with
  | some m => (codL.getD (157 + i) []).all fun pe => okE m pe.1 pe.2
  | _ => false) = true := by decide +kernel
theorem cd_ok17 : ((List.range 5).all fun i => match mdL[163 + i]? with
  | some m => (codL.getD (163 + i) []).all fun pe => okE m pe.1 pe.2
  | _ => false) = true := by decide +kernel
theorem cd_ok18 : ((List.range 7).all fun i => match mdL[168 + i]? with
  | some m => (codL.getD (168 + i) []).all fun pe => okE m pe.1 pe.2
  | _ => false) = true := by decide +kernel
theorem cd_ok19 : ((List.range 7).all fun i => match mdL[175 + i]? with
  | some m => (codL.getD (175 + i) []).all fun pe => okE m pe.1 pe.2
  | _ => false) = true := by decide +kernel
theorem cd_ok20 : ((List.range 11).all fun i => match mdL[182 + i]? with
  | some m => (codL.getD (182 + i) []).all fun pe => okE m pe.1 pe.2
  | _ => false) = true := by decide +kernel
theorem cd_ok21 : ((List.range 7).all fun i => match mdL[193 + i]? with
  | some m => (codL.getD (193 + i) []).all fun pe => okE m pe.1 pe.2
  | _ => false) = true := by decide +kernel
theorem cd_ok22 : ((List.range 6).all fun i => match mdL[200 + i]? with
  | some m => (codL.getD (200 + i) []).all fun pe => okE m pe.1 pe.2
  | _ => false) = true := by decide +kernel
theorem cd_ok23 : ((List.range 11).all fun i => match mdL[206 + i]? with
  | some m => (codL.getD (206 + i) []).all fun pe => okE m pe.1 pe.2
  | _ => false) = true := by decide +kernel
theorem cd_ok24 : ((List.range 7).all fun i => match mdL[217 + i]? with
  | some m => (codL.getD (217 + i) []).all fun pe => okE m pe.1 pe.2
  | _ => false) = true := by decide +kernel
theorem cd_ok25 : ((List.range 7).all fun i => match mdL[224 + i]? with
  | some m => (codL.getD (224 + i) []).all fun pe => okE m pe.1 pe.2
  | _ => false) = true := by decide +kernel
theorem cd_ok26 : ((List.range 6).all fun i => match mdL[231 + i]? with
  | some m => (codL.getD (231 + i) []).all fun pe => okE m pe.1 pe.2
  | _ => false) = true := by decide +kernel
theorem cd_ok27 : ((List.range 8).all fun i => match mdL[237 + i]? with
  | some m => (codL.getD (237 + i) []).all fun pe => okE m pe.1 pe.2
  | _ => false) = true := by decide +kernel
theorem cd_ok28 : ((List.range 10).all fun i => match mdL[245 + i]? with
  | some m => (codL.getD (245 + i) []).all fun pe => okE m pe.1 pe.2
  | _ => false) = true := by decide +kernel
theorem cd_ok29 : ((List.range 9).all fun i => match mdL[255 + i]? with
  | some m => (codL.getD (255 + i) []).all fun pe => okE m pe.1 pe.2
  | _ => false) = true := by decide +kernel
theorem cd_ok30 : ((List.range 7).all fun i => match mdL[264 + i]? with
  | some m => (codL.getD (264 + i) []).all fun pe => okE m pe.1 pe.2
  | _ => false) = true := by decide +kernel
theorem cd_ok31 : ((List.range 6).all fun i => match mdL[271 + i]? with
  | some m => (codL.getD (271 + i) []).all fun pe => okE m pe.1 pe.2
  | _ => false) = true := by decide +kernel
theorem cd_ok32 : ((List.range 5).all fun i => match mdL[277 + i]? with
  | some m => (codL.getD (277 + i) []).all fun pe => okE m pe.1 pe.2
  | _ => false) = true := by decide +kernel
theorem cd_ok33 : ((List.range 4).all fun i => match mdL[282 + i]? with
  | some m => (codL.getD (282 + i) []).all fun pe => okE m pe.1 pe.2
  | _ => false) = true := by decide +kernel
theorem cd_ok34 : ((List.range 6).all fun i => match mdL[286 + i]? with
  | some m => (codL.getD (286 + i) []).all fun pe => okE m pe.1 pe.2
  | _ => false) = true := by decide +kernel
theorem cd_ok35 : ((List.range 6).all fun i => match mdL[292 + i]? with
  | some m => (codL.getD (292 + i) []).all fun pe => okE m pe.1 pe.2
  | _ => false) = true := by decide +kernel
theorem cd_ok36 : ((List.range 6).all fun i => match mdL[298 + i]? with
  | some m => (codL.getD (298 + i) []).all fun pe => okE m pe.1 pe.2
  | _ => false) = true := by decide +kernel
theorem cd_ok37 : ((List.range 2).all fun i => match mdL[304 + i]? with
  | some m => (codL.getD (304 + i) []).all fun pe => okE m pe.1 pe.2
  | _ => false) = true := by decide +kernel
theorem cd_chunk {n c : Nat} (h1 : ((List.range n).all fun i => match mdL[c + i]? with
  | some m => (codL.getD (c + i) []).all fun pe => okE m pe.1 pe.2
  | _ => false) = true) {x : Nat} {md : MD} (hx : mdT x = some md) (hl : c ≤ x) (hh : x < c + n) : ∀ pe ∈ codT x, okE md pe.1 pe.2 = true := by
  have e1 := List.all_eq_true.mp h1 (x - c) (List.mem_range.mpr (by omega))
  rw [show c + (x - c) = x by omega] at e1
  have hx' : mdL[x]? = some md := hx
  rw [hx'] at e1
  intro pe hpe
  exact List.all_eq_true.mp e1 pe hpe
theorem cd_all : ∀ x md, mdT x = some md → ∀ pe ∈ codT x, okE md pe.1 pe.2 = true := by
  intro x md h
  have hl : x < 306 := by
    have := (List.getElem?_eq_some_iff.mp h).1
    rw [mdL_len] at this; exact this
  by_cases h0 : x < 11
  · exact cd_chunk cd_ok0 h (by omega) (by omega)
  by_cases h1 : x < 19
  · exact cd_chunk cd_ok1 h (by omega) (by omega)
  by_cases h2 : x < 35
  · exact cd_chunk cd_ok2 h (by omega) (by omega)
  by_cases h3 : x < 49
  · exact cd_chunk cd_ok3 h (by omega) (by omega)
  by_cases h4 : x < 59
  · exact cd_chunk cd_ok4 h (by omega) (by omega)
  by_cases h5 : x < 67
  · exact cd_chunk cd_ok5 h (by omega) (by omega)
  by_cases h6 : x < 75
  · exact cd_chunk cd_ok6 h (by omega) (by omega)
  by_cases h7 : x < 84
  · exact cd_chunk cd_ok7 h (by omega) (by omega)
  by_cases h8 : x < 94
  · exact cd_chunk cd_ok8 h (by omega) (by omega)
  by_cases h9 : x < 105
  · exact cd_chunk cd_ok9 h (by omega) (by omega)
  by_cases h10 : x < 115
  · exact cd_chunk cd_ok10 h (by omega) (by omega)
  by_cases h11 : x < 124
  · exact cd_chunk cd_ok11 h (by omega) (by omega)
  by_cases h12 : x < 135
  · exact cd_chunk cd_ok12 h (by omega) (by omega)
  by_cases h13 : x < 142
  · exact cd_chunk cd_ok13 h (by omega) (by omega)
  by_cases h14 : x < 149
  · exact cd_chunk cd_ok14 h (by omega) (by omega)
  by_cases h15 : x < 157
  · exact cd_chunk cd_ok15 h (by omega) (by omega)
  by_cases h16 : x < 163
  · exact cd_chunk cd_ok16 h (by omega) (by omega)
  by_cases h17 : x < 168
  · exact cd_chunk cd_ok17 h (by omega) (by omega)
  by_cases h18 : x < 175
  · exact cd_chunk cd_ok18 h (by omega) (by omega)
  by_cases h19 : x < 182
  · exact cd_chunk cd_ok19 h (by omega) (by omega)
  by_cases h20 : x < 193
  · exact cd_chunk cd_ok20 h (by omega) (by omega)
  by_cases h21 : x < 200
  · exact cd_chunk cd_ok21 h (by omega) (by omega)
  by_cases h22 : x < 206
  · exact cd_chunk cd_ok22 h (by omega) (by omega)
  by_cases h23 : x < 217
  · exact cd_chunk cd_ok23 h (by omega) (by omega)
  by_cases h24 : x < 224
  · exact cd_chunk cd_ok24 h (by omega) (by omega)
  by_cases h25 : x < 231
  · exact cd_chunk cd_ok25 h (by omega) (by omega)
  by_cases h26 : x < 237
  · exact cd_chunk cd_ok26 h (by omega) (by omega)
  by_cases h27 : x < 245
  · exact cd_chunk cd_ok27 h (by omega) (by omega)
  by_cases h28 : x < 255
  · exact cd_chunk cd_ok28 h (by omega) (by omega)
  by_cases h29 : x < 264
  · exact cd_chunk cd_ok29 h (by omega) (by omega)
  by_cases h30 : x < 271
  · exact cd_chunk cd_ok30 h (by omega) (by omega)
  by_cases h31 : x < 277
  · exact cd_chunk cd_ok31 h (by omega) (by omega)
  by_cases h32 : x < 282
  · exact cd_chunk cd_ok32 h (by omega) (by omega)
  by_cases h33 : x < 286
  · exact cd_chunk cd_ok33 h (by omega) (by omega)
  by_cases h34 : x < 292
  · exact cd_chunk cd_ok34 h (by omega) (by omega)
  by_cases h35 : x < 298
  · exact cd_chunk cd_ok35 h (by omega) (by omega)
  by_cases h36 : x < 304
  · exact cd_chunk cd_ok36 h (by omega) (by omega)
  exact cd_chunk cd_ok37 h (by omega) (by omega)
end
section
/-! THE EVALUATOR IS SOUND -/
def argL : Nat → List AV → Lv
  | n, [] => List.replicate n none
  | n, .inl v :: t => some (.inl v) :: argL (n - 1) t
  | n, .inr (.inl v) :: t => some (.inr (.inl v)) :: none :: argL (n - 2) t
  | n, .inr (.inr v) :: t => some (.inr (.inr v)) :: argL (n - 1) t
def memN (n : Nat) : List Nat → Bool
  | [] => false
  | a :: t => match Nat.beq a n with
    | true => true
    | false => memN n t
def hdL : List (List Nat) := [[], [], [5], [], [], [], [], [3, 38, 72], [], [21], [], [0, 39, 52, 114, 149, 175], [5], [5], [], [], [], [], [], [], [], [], [], [7], [], [], [], [], [], [], [3], [], [28], [], [], [41], [], [], [], [], [], [], [], [], [], [], [], [14], [], [2], [], [], [], [], [], [], [], [], [], [], [], [], [], [], [], [], [28], [], [], [], [54], [2], [], [], [24, 52, 80], [0], [2], [0], [], [], [], [21, 36, 74], [], [78, 123, 168, 199], [], [], [], [], [10], [], [], [30, 55, 80], [], [], [], [], [], [], [], [], [], [], [], [24, 26, 85], [6, 74, 119, 161], [], [], [], [], [], [4], [15], [], [], [4], [4], [], [], [], [2], [21], [], [], [], [], [], [], [], [], [], [], [], [], [4], [], [], [], [19, 65, 98], [], [], [], [], [27], [76], [], [], [], [], [6], [], [4], [], [24], [], [10, 20, 88], [7], [7], [35, 44], [], [4], [10, 45], [2], [7], [], [12], [2, 18], [45, 51, 71], [2], [32], [], [28, 130], [6], [3], [], [7], [], [], [], [8, 58], [2, 69], [2], [], [5], [4], [], [13], [12], [41], [], [], [], [], [], [3], [2], [19], [2, 25], [], [], [30, 76, 105, 153], [17, 44, 70, 123, 129, 149, 159, 212, 218, 237, 262, 265], [], [], [], [], [], [], [], [], [38], [], [5], [2, 21, 53], [], [], [], [28, 65, 70], [], [18, 34, 55], [], [], [19, 38, 59], [], [57, 62], [37, 131], [2, 26, 65, 86, 89], [5], [], [5], [5], [27, 55, 57, 91, 101, 190], [], [], [], [], [11, 123, 158, 161, 170, 191], [23], [], [], [], [], [], [75, 100, 138, 161], [], [4, 33, 65, 101, 134], [], [], [], [], [], [4], [24], [4], [], [], [], [], [5], [11], [2], [], [], [], [85, 117, 142], [], [], [], [], [], [5, 137], [], [], [31, 99, 101, 126, 128], [75, 96, 119, 146, 160], [26], [], [4, 15], [27, 64, 67, 90, 95, 97], [59], [7], [16], [10, 17, 124], [28, 64, 96], [6], [34, 71], [36], [31], [20, 52, 77, 124], [29], [28], [], [33], [19], [4], [22], [9, 45], [2, 25], [40, 43, 52, 107, 141, 144, 161, 165, 180, 186, 210], [], [63, 103], [55], [], [27, 29, 68, 84], [], [4], [4]]
def hdT (x : Nat) : List Nat := hdL.getD x []
section EVP
variable (code : Nat → Option Ent) (hd : List Nat) (call : Nat → List AV → Mem → Res)
/-- from pc on, till a head (with nothing on the stack), a jump back or the end -/
noncomputable def evj (back : Nat → Lv → Mem → Res) : Nat → Nat → Lv → List AV → Mem → Res
  | 0, _, _, _, _ => none
  | B + 1, pc, lv, st, M => match memN pc hd, st with
    | true, [] => back pc lv M
    | _, st => match code pc with
      | none => none
      | some e => stepK call back (evj back B) e pc lv st M
/-- from a head on, over at most so many heads -/
noncomputable def evp : Nat → Nat → Lv → Mem → Res
  | 0, _, _, _ => none
  | F + 1, pc, lv, M => match code pc with
    | none => none
    | some e => stepK call (evp F) (evj code hd call (evp F) 4000) e pc lv [] M
noncomputable def evp0 (pc : Nat) (lv : Lv) (M : Mem) : Res := evp code hd call 20000 pc lv M
end EVP
/-- a method by its number, at most d calls deep -/
noncomputable def evD : Nat → Nat → List AV → Mem → Res
  | 0, _, _, _ => none
  | d + 1, x, as, M => match mdT x with
    | none => none
    | some md => match recvOK md.2.2.2.2.2 as && Nat.ble (catS as) md.2.2.1 with
      | true => evj (lkE (codT x)) (hdT x) (evD d) (evp0 (lkE (codT x)) (hdT x) (evD d)) 4000 0 (argL md.2.2.1 as) [] M
      | false => none
/-- a method from one of its heads on -/
noncomputable abbrev lp0 (d x pc : Nat) (lv : Lv) (M : Mem) : Res := evp0 (lkE (codT x)) (hdT x) (evD d) pc lv M
noncomputable abbrev lp (d x F pc : Nat) (lv : Lv) (M : Mem) : Res := evp (lkE (codT x)) (hdT x) (evD d) F pc lv M
theorem lkE_mem : ∀ (l : List (Nat × Ent)) (pc : Nat) (e : Ent), lkE l pc = some e → (pc, e) ∈ l
  | [], _, _, h => by cases h
  | (p, e0) :: t, pc, e, h => by
    simp only [lkE] at h
    split at h
    · rename_i hb
      cases h
      rw [nb hb]; exact List.mem_cons_self
    · exact List.mem_cons_of_mem _ (lkE_mem t pc e h)
section ALL
variable {w : List Ref3} {d : Nat} {r : Option AV × Mem} {call : Nat → List AV → Mem → Res}
theorem evj_sound {hd : List Nat} (hclo : Clo w) (hwt : WT w) (hmd : ∀ x md, mdT x = some md → MDk md) {md : MD} {cd : List (Nat × Ent)} (hok : ∀ pe ∈ cd, okE md pe.1 pe.2 = true)
    (hcall : ∀ x as M r', call x as M = some r' → VOKs w as → MOK w M → ∃ md, mdT x = some md ∧ recvOK md.2.2.2.2.2 as = true ∧ CSem w md.1 md.2.1 md.2.2.1 md.2.2.2.1 d as M r' ∧ ROK w r')
    {back : Nat → Lv → Mem → Res} (hback : ∀ pc' lv' M', back pc' lv' M' = some r → VOKl w lv' → MOK w M' → WQ w (ownS md.2.2.2.2.1) md.2.1 md.2.2.1 md.2.2.2.1 (d + 1) pc' lv' [] M' r) :
    ∀ (B pc : Nat) (lv : Lv) (st : List AV) (M : Mem), evj (lkE cd) hd call back B pc lv st M = some r → VOKl w lv → VOKs w st → MOK w M → WQ w (ownS md.2.2.2.2.1) md.2.1 md.2.2.1 md.2.2.2.1 (d + 1) pc lv st M r
  | 0, _, _, _, _, h, _, _, _ => by cases h
  | B + 1, pc, lv, st, M, h, hvl, hvs, hm => by
    simp only [evj] at h
    split at h
    · exact hback _ _ _ h hvl hm
    · split at h
      · cases h
      · rename_i e he
        have hoke : okE md pc e = true := hok (pc, e) (lkE_mem _ _ _ he)
        exact stepK_sound (call := call) (back := back) (k := evj (lkE cd) hd call back B) hclo hwt hmd hoke hcall hback (fun pc' lv' st' M' h' => evj_sound hclo hwt hmd hok hcall hback B pc' lv' st' M' h') h hvl hvs hm
theorem evp_sound {hd : List Nat} (hclo : Clo w) (hwt : WT w) (hmd : ∀ x md, mdT x = some md → MDk md) {md : MD} {cd : List (Nat × Ent)} (hok : ∀ pe ∈ cd, okE md pe.1 pe.2 = true)
    (hcall : ∀ x as M r', call x as M = some r' → VOKs w as → MOK w M → ∃ md, mdT x = some md ∧ recvOK md.2.2.2.2.2 as = true ∧ CSem w md.1 md.2.1 md.2.2.1 md.2.2.2.1 d as M r' ∧ ROK w r') :
    ∀ (F pc : Nat) (lv : Lv) (M : Mem), evp (lkE cd) hd call F pc lv M = some r → VOKl w lv → MOK w M → WQ w (ownS md.2.2.2.2.1) md.2.1 md.2.2.1 md.2.2.2.1 (d + 1) pc lv [] M r
  | 0, _, _, _, h, _, _ => by cases h
  | F + 1, pc, lv, M, h, hvl, hm => by
    simp only [evp] at h
    split at h
    · cases h
    · rename_i e he
      have hoke : okE md pc e = true := hok (pc, e) (lkE_mem _ _ _ he)
      have hb : ∀ pc' lv' M', evp (lkE cd) hd call F pc' lv' M' = some r → VOKl w lv' → MOK w M' → WQ w (ownS md.2.2.2.2.1) md.2.1 md.2.2.1 md.2.2.2.1 (d + 1) pc' lv' [] M' r := fun pc' lv' M' h' hv' hm' => evp_sound hclo hwt hmd hok hcall F pc' lv' M' h' hv' hm'
      exact stepK_sound (call := call) (back := evp (lkE cd) hd call F) (k := evj (lkE cd) hd call (evp (lkE cd) hd call F) 4000) hclo hwt hmd hoke hcall hb (fun pc' lv' st' M' h' => evj_sound hclo hwt hmd hok hcall hb 4000 pc' lv' st' M' h') h hvl (fun _ z => by cases z) hm
end ALL
theorem lvat_rep : ∀ (n i : Nat) (v : AV), lvat (List.replicate n none) i = some v → False
  | 0, _, _, h => by simp [lvat] at h
  | n + 1, 0, _, h => by simp [List.replicate_succ, lvat] at h
  | n + 1, i + 1, v, h => lvat_rep n i v (by simpa [List.replicate_succ, lvat] using h)
theorem argL_mem : ∀ (as : List AV) (n i : Nat) (v : AV), lvat (argL n as) i = some v → v ∈ as
  | [], n, i, v, h => (lvat_rep n i v h).elim
  | .inl x :: t, n, 0, v, h => by simp [argL, lvat] at h; simp [h]
  | .inl x :: t, n, i + 1, v, h => by simp only [argL, lvat] at h; exact List.mem_cons_of_mem _ (argL_mem t _ i v h)
  | .inr (.inl x) :: t, n, 0, v, h => by simp [argL, lvat] at h; simp [h]
  | .inr (.inl x) :: t, n, 1, v, h => by simp [argL, lvat] at h
  | .inr (.inl x) :: t, n, i + 2, v, h => by simp only [argL, lvat] at h; exact List.mem_cons_of_mem _ (argL_mem t _ i v h)
  | .inr (.inr x) :: t, n, 0, v, h => by simp [argL, lvat] at h; simp [h]
  | .inr (.inr x) :: t, n, i + 1, v, h => by simp only [argL, lvat] at h; exact List.mem_cons_of_mem _ (argL_mem t _ i v h)
theorem argL_args {ρ : Nat → Nat} : ∀ (as : List AV) (n i j : Nat) (v : AV), lvat (argL n as) i = some v → (j + i, cv ρ v) ∈ lv_args j (as.map (cv ρ))
  | [], n, i, j, v, h => (lvat_rep n i v h).elim
  | .inl x :: t, n, 0, j, v, h => by simp [argL, lvat] at h; subst h; exact List.mem_cons_self
  | .inl x :: t, n, i + 1, j, v, h => by
    simp only [argL, lvat] at h
    have := argL_args (ρ := ρ) t _ i (j + 1) v h
    rw [show j + 1 + i = j + (i + 1) by omega] at this
    exact List.mem_cons_of_mem _ this
  | .inr (.inl x) :: t, n, 0, j, v, h => by simp [argL, lvat] at h; subst h; exact List.mem_cons_self
  | .inr (.inl x) :: t, n, 1, j, v, h => by simp [argL, lvat] at h
  | .inr (.inl x) :: t, n, i + 2, j, v, h => by
    simp only [argL, lvat] at h
    have := argL_args (ρ := ρ) t _ i (j + 2) v h
    rw [show j + 2 + i = j + (i + 2) by omega] at this
    exact List.mem_cons_of_mem _ this
  | .inr (.inr x) :: t, n, 0, j, v, h => by simp [argL, lvat] at h; subst h; exact List.mem_cons_self
  | .inr (.inr x) :: t, n, i + 1, j, v, h => by
    simp only [argL, lvat] at h
    have := argL_args (ρ := ρ) t _ i (j + 1) v h
    rw [show j + 1 + i = j + (i + 1) by omega] at this
    exact List.mem_cons_of_mem _ this
theorem catS_sl {ρ : Nat → Nat} : ∀ as : List AV, (lg_sl (as.map (cv ρ))).length = catS as
  | [] => rfl
  | .inl x :: t => by have := catS_sl (ρ := ρ) t; simp [lg_sl, cv, Value.category, catS] at this ⊢; omega
  | .inr (.inl x) :: t => by have := catS_sl (ρ := ρ) t; simp [lg_sl, cv, Value.category, catS] at this ⊢; omega
  | .inr (.inr x) :: t => by have := catS_sl (ρ := ρ) t; simp [lg_sl, cv, Value.category, catS] at this ⊢; omega
/-- a body that is right makes a contract -/
theorem CSem_of {w : List Ref3} {md : MD} (hk : MDk md) {d : Nat} {as : List AV} {M : Mem} {r : Option AV × Mem} (hc : catS as ≤ md.2.2.1)
    (h : WPs w (ownS md.2.2.2.2.1) md.2.1 md.2.2.1 md.2.2.2.1 d 0 (argL md.2.2.1 as) [] M r) : CSem w md.1 md.2.1 md.2.2.1 md.2.2.2.1 d as M r := by
  obtain ⟨y, cc, nL, ret, ow, tg⟩ := md
  obtain ⟨k1, k2, k3, k4, k5, k6, k7⟩ := hk
  dsimp only at k1 k2 k3 k4 k5 k6 k7 h hc ⊢
  intro l dC dI cA ρ A sz
  refine va_MetF (cc := cc) (maxL := nL) (ret := ret) k5 rfl ?_
  intro p e s m args below meth c s₁ B hml hv
  obtain ⟨rfl, hsz, hA, hP, hD, hK, hF, hW⟩ := hv
  have hts := atoms_spec (ws := Cond.code y cc nL ret :: lw_g) B.pre
  have hown : s.vm.findClass (ownS ow) = some m.cls := by rw [← k3]; exact findClass_of_methodNamed B.named
  have hl := lv_entry (as.map (cv ρ)) (n := nL) (by rw [catS_sl]; exact hc)
  rw [lg_entry_eq]
  exact h p l e s m _ below meth c dC dI cA ρ A s.heap [] _ ⟨B.exec, B.bytes, hml, hown, fun w hw => hts w (List.mem_cons_of_mem _ hw), B.returns, B.notSynchronized⟩ ⟨hK, hF, hW, fun q hq => hA q (by rw [← hsz]; exact hq)⟩ hP hD va_S.rf ⟨_, hl, fun i v hv => by have := argL_args (ρ := ρ) as _ i 0 v hv; simpa using this⟩
theorem evD_sound {w : List Ref3} (hclo : Clo w) (hwt : WT w) (hmd : ∀ x md, mdT x = some md → MDk md) (hok : ∀ x md, mdT x = some md → ∀ pe ∈ codT x, okE md pe.1 pe.2 = true) :
    ∀ (d x : Nat) (as : List AV) (M : Mem) (r : Option AV × Mem), evD d x as M = some r → VOKs w as → MOK w M → ∃ md, mdT x = some md ∧ recvOK md.2.2.2.2.2 as = true ∧ CSem w md.1 md.2.1 md.2.2.1 md.2.2.2.1 d as M r ∧ ROK w r
  | 0, _, _, _, _, h, _, _ => by cases h
  | d + 1, x, as, M, r, h, hv, hm => by
    simp only [evD] at h
    split at h
    · cases h
    · rename_i md hx
      split at h
      · rename_i hb
        simp only [Bool.and_eq_true] at hb
        have hc := fun x' as' M' r' h' hv' hm' => evD_sound hclo hwt hmd hok d x' as' M' r' h' hv' hm'
        obtain ⟨w1, w2⟩ := evj_sound hclo hwt hmd (hok x md hx) hc (fun pc' lv' M' h' hv' hm' => evp_sound hclo hwt hmd (hok x md hx) hc 20000 pc' lv' M' h' hv' hm') 4000 0 _ [] M h (fun i v hi => hv v (argL_mem as _ i v hi)) (fun _ z => by cases z) hm
        exact ⟨md, hx, hb.1, CSem_of (hmd x md hx) (Nat.le_of_ble_eq_true hb.2) w1, w2⟩
      · cases h
theorem lp0_eq (d x pc : Nat) (lv : Lv) (M : Mem) : lp0 d x pc lv M = lp d x 20000 pc lv M := by unfold lp0 evp0; rfl
theorem evD_step {d x : Nat} {as : List AV} {M : Mem} {md : MD} (hx : mdT x = some md) (hr : (recvOK md.2.2.2.2.2 as && Nat.ble (catS as) md.2.2.1) = true) : evD (d + 1) x as M = evj (lkE (codT x)) (hdT x) (evD d) (evp0 (lkE (codT x)) (hdT x) (evD d)) 4000 0 (argL md.2.2.1 as) [] M := by
  simp only [evD, hx, hr]
theorem evp_step {code : Nat → Option Ent} {hd : List Nat} {call : Nat → List AV → Mem → Res} {F pc : Nat} {lv : Lv} {M : Mem} {e : Ent} (he : code pc = some e) : evp code hd call (F + 1) pc lv M = stepK call (evp code hd call F) (evj code hd call (evp code hd call F) 4000) e pc lv [] M := by
  simp only [evp, he]
theorem ic_t {P : Prop} {A B : Res} (h : P) : ic P A B = A := if_pos h
theorem ic_f {P : Prop} {A B : Res} (h : ¬ P) : ic P A B = B := if_neg h
end
section
-- IceParliament$Yard copyFrom(LIceParliament$Yard;)V
set_option maxRecDepth 100000 in
theorem j83 (call : Nat → List AV → Mem → Res) (back : Nat → Lv → Mem → Res) (kY : Nat) (kY' : Nat) (M : Mem) : evj (lkE cd_83) [78, 123, 168, 199] call back 4000 0 [some (vR 9 0 kY), some (vR 9 0 kY')] [] M =
  cVd (call 84 [vR 4 0 (kY + 1), vR 4 0 (kY' + 1)] M) fun M1 =>
  cVd (call 84 [vR 4 0 (kY + 3), vR 4 0 (kY' + 3)] M1) fun M2 =>
  cVd (call 84 [vR 4 0 (kY + 5), vR 4 0 (kY' + 5)] M2) fun M3 =>
  ic ((0 : Int32) < 0 ∨ (0 : Int32) < 0 ∨ (6 : Int32) < 0 ∨ 6 < (0 : Int32).toNatClampNeg + (6 : Int32).toNatClampNeg ∨ 6 < (0 : Int32).toNatClampNeg + (6 : Int32).toNatClampNeg) none (
    ic ((0 : Int32) < 0 ∨ (0 : Int32) < 0 ∨ (6 : Int32) < 0 ∨ 6 < (0 : Int32).toNatClampNeg + (6 : Int32).toNatClampNeg ∨ 6 < (0 : Int32).toNatClampNeg + (6 : Int32).toNatClampNeg) none (
      ic ((0 : Int32) < 0 ∨ (0 : Int32) < 0 ∨ (6 : Int32) < 0 ∨ 6 < (0 : Int32).toNatClampNeg + (6 : Int32).toNatClampNeg ∨ 6 < (0 : Int32).toNatClampNeg + (6 : Int32).toNatClampNeg) none (
        back 78 [some (vR 9 0 kY), some (vR 9 0 kY')] (cpI (cpI (cpI M3 (kY' + 7) ((0 : Int32).toNatClampNeg) (kY + 7) ((0 : Int32).toNatClampNeg) ((6 : Int32).toNatClampNeg)) (kY' + 8) ((0 : Int32).toNatClampNeg) (kY + 8) ((0 : Int32).toNatClampNeg) ((6 : Int32).toNatClampNeg)) (kY' + 9) ((0 : Int32).toNatClampNeg) (kY + 9) ((0 : Int32).toNatClampNeg) ((6 : Int32).toNatClampNeg))))) := rfl
set_option maxRecDepth 100000 in
theorem e83 (d : Nat) (kY : Nat) (kY' : Nat) (M : Mem) : evD (d + 1) 83 [vR 9 0 kY, vR 9 0 kY'] M =
  cVd (evD d 84 [vR 4 0 (kY + 1), vR 4 0 (kY' + 1)] M) fun M1 =>
  cVd (evD d 84 [vR 4 0 (kY + 3), vR 4 0 (kY' + 3)] M1) fun M2 =>
  cVd (evD d 84 [vR 4 0 (kY + 5), vR 4 0 (kY' + 5)] M2) fun M3 =>
  lp0 d 83 78 [some (vR 9 0 kY), some (vR 9 0 kY')] (cpI (cpI (cpI M3 (kY' + 7) 0 (kY + 7) 0 6) (kY' + 8) 0 (kY + 8) 0 6) (kY' + 9) 0 (kY + 9) 0 6) := ((evD_step (d := d) (x := 83) (as := [vR 9 0 kY, vR 9 0 kY']) (M := M) (md := (⟨"IceParliament$Yard", "copyFrom", "(LIceParliament$Yard;)V"⟩, prog_11_method_3_code, 2, (Option.none : Option Jvm.ClassFile.FieldType), 9, 9)) rfl rfl).trans (j83 (evD d) (evp0 (lkE (codT 83)) (hdT 83) (evD d)) kY kY' M)).trans (by (try simp only [ic_f (show ¬ ((0 : Int32) < 0 ∨ (0 : Int32) < 0 ∨ (6 : Int32) < 0 ∨ 6 < (0 : Int32).toNatClampNeg + (6 : Int32).toNatClampNeg ∨ 6 < (0 : Int32).toNatClampNeg + (6 : Int32).toNatClampNeg) by decide)]); (try simp only [show (0 : Int32).toNatClampNeg = 0 from rfl, show (6 : Int32).toNatClampNeg = 6 from rfl]))
set_option maxRecDepth 100000 in
theorem g83_78 (call : Nat → List AV → Mem → Res) (back : Nat → Lv → Mem → Res) (kY : Nat) (kY' : Nat) (M : Mem) : stepK call back (evj (lkE cd_83) [78, 123, 168, 199] call back 4000) (.aload_n 1, 1, 1, 0, 0, 0, 0) 78 [some (vR 9 0 kY), some (vR 9 0 kY')] [] M =
  ic ((0 : Int32) < 0 ∨ (0 : Int32) < 0 ∨ (6 : Int32) < 0 ∨ 6 < (0 : Int32).toNatClampNeg + (6 : Int32).toNatClampNeg ∨ 6 < (0 : Int32).toNatClampNeg + (6 : Int32).toNatClampNeg) none (
    ic ((0 : Int32) < 0 ∨ (0 : Int32) < 0 ∨ (6 : Int32) < 0 ∨ 6 < (0 : Int32).toNatClampNeg + (6 : Int32).toNatClampNeg ∨ 6 < (0 : Int32).toNatClampNeg + (6 : Int32).toNatClampNeg) none (
      ic ((0 : Int32) < 0 ∨ (0 : Int32) < 0 ∨ (6 : Int32) < 0 ∨ 6 < (0 : Int32).toNatClampNeg + (6 : Int32).toNatClampNeg ∨ 6 < (0 : Int32).toNatClampNeg + (6 : Int32).toNatClampNeg) none (
        back 123 [some (vR 9 0 kY), some (vR 9 0 kY')] (cpI (cpI (cpI M (kY' + 10) ((0 : Int32).toNatClampNeg) (kY + 10) ((0 : Int32).toNatClampNeg) ((6 : Int32).toNatClampNeg)) (kY' + 11) ((0 : Int32).toNatClampNeg) (kY + 11) ((0 : Int32).toNatClampNeg) ((6 : Int32).toNatClampNeg)) (kY' + 12) ((0 : Int32).toNatClampNeg) (kY + 12) ((0 : Int32).toNatClampNeg) ((6 : Int32).toNatClampNeg))))) := rfl
set_option maxRecDepth 100000 in
theorem e83_78 (d F : Nat) (kY : Nat) (kY' : Nat) (M : Mem) : lp d 83 (F + 1) 78 [some (vR 9 0 kY), some (vR 9 0 kY')] M =
  lp d 83 F 123 [some (vR 9 0 kY), some (vR 9 0 kY')] (cpI (cpI (cpI M (kY' + 10) 0 (kY + 10) 0 6) (kY' + 11) 0 (kY + 11) 0 6) (kY' + 12) 0 (kY + 12) 0 6) := ((evp_step (code := lkE (codT 83)) (hd := hdT 83) (call := evD d) (F := F) (pc := 78) (lv := [some (vR 9 0 kY), some (vR 9 0 kY')]) (M := M) (e := (.aload_n 1, 1, 1, 0, 0, 0, 0)) rfl).trans (g83_78 (evD d) (evp (lkE (codT 83)) (hdT 83) (evD d) F) kY kY' M)).trans (by (try simp only [ic_f (show ¬ ((0 : Int32) < 0 ∨ (0 : Int32) < 0 ∨ (6 : Int32) < 0 ∨ 6 < (0 : Int32).toNatClampNeg + (6 : Int32).toNatClampNeg ∨ 6 < (0 : Int32).toNatClampNeg + (6 : Int32).toNatClampNeg) by decide)]); (try simp only [show (0 : Int32).toNatClampNeg = 0 from rfl, show (6 : Int32).toNatClampNeg = 6 from rfl]))
set_option maxRecDepth 100000 in
theorem g83_123 (call : Nat → List AV → Mem → Res) (back : Nat → Lv → Mem → Res) (kY : Nat) (kY' : Nat) (M : Mem) : stepK call back (evj (lkE cd_83) [78, 123, 168, 199] call back 4000) (.aload_n 1, 1, 1, 0, 0, 0, 0) 123 [some (vR 9 0 kY), some (vR 9 0 kY')] [] M =
  ic ((0 : Int32) < 0 ∨ (0 : Int32) < 0 ∨ (6 : Int32) < 0 ∨ 6 < (0 : Int32).toNatClampNeg + (6 : Int32).toNatClampNeg ∨ 6 < (0 : Int32).toNatClampNeg + (6 : Int32).toNatClampNeg) none (
    ic ((0 : Int32) < 0 ∨ (0 : Int32) < 0 ∨ (6 : Int32) < 0 ∨ 6 < (0 : Int32).toNatClampNeg + (6 : Int32).toNatClampNeg ∨ 6 < (0 : Int32).toNatClampNeg + (6 : Int32).toNatClampNeg) none (
      ic ((0 : Int32) < 0 ∨ (0 : Int32) < 0 ∨ (6 : Int32) < 0 ∨ 6 < (0 : Int32).toNatClampNeg + (6 : Int32).toNatClampNeg ∨ 6 < (0 : Int32).toNatClampNeg + (6 : Int32).toNatClampNeg) none (
        back 168 [some (vR 9 0 kY), some (vR 9 0 kY')] (cpI (cpI (cpI M (kY' + 13) ((0 : Int32).toNatClampNeg) (kY + 13) ((0 : Int32).toNatClampNeg) ((6 : Int32).toNatClampNeg)) (kY' + 14) ((0 : Int32).toNatClampNeg) (kY + 14) ((0 : Int32).toNatClampNeg) ((6 : Int32).toNatClampNeg)) (kY' + 15) ((0 : Int32).toNatClampNeg) (kY + 15) ((0 : Int32).toNatClampNeg) ((6 : Int32).toNatClampNeg))))) := rfl
set_option maxRecDepth 100000 in
theorem e83_123 (d F : Nat) (kY : Nat) (kY' : Nat) (M : Mem) : lp d 83 (F + 1) 123 [some (vR 9 0 kY), some (vR 9 0 kY')] M =
  lp d 83 F 168 [some (vR 9 0 kY), some (vR 9 0 kY')] (cpI (cpI (cpI M (kY' + 13) 0 (kY + 13) 0 6) (kY' + 14) 0 (kY + 14) 0 6) (kY' + 15) 0 (kY + 15) 0 6) := ((evp_step (code := lkE (codT 83)) (hd := hdT 83) (call := evD d) (F := F) (pc := 123) (lv := [some (vR 9 0 kY), some (vR 9 0 kY')]) (M := M) (e := (.aload_n 1, 1, 1, 0, 0, 0, 0)) rfl).trans (g83_123 (evD d) (evp (lkE (codT 83)) (hdT 83) (evD d) F) kY kY' M)).trans (by (try simp only [ic_f (show ¬ ((0 : Int32) < 0 ∨ (0 : Int32) < 0 ∨ (6 : Int32) < 0 ∨ 6 < (0 : Int32).toNatClampNeg + (6 : Int32).toNatClampNeg ∨ 6 < (0 : Int32).toNatClampNeg + (6 : Int32).toNatClampNeg) by decide)]); (try simp only [show (0 : Int32).toNatClampNeg = 0 from rfl, show (6 : Int32).toNatClampNeg = 6 from rfl]))
set_option maxRecDepth 100000 in
theorem g83_168 (call : Nat → List AV → Mem → Res) (back : Nat → Lv → Mem → Res) (kY : Nat) (kY' : Nat) (M : Mem) : stepK call back (evj (lkE cd_83) [78, 123, 168, 199] call back 4000) (.aload_n 0, 1, 0, 0, 0, 0, 0) 168 [some (vR 9 0 kY), some (vR 9 0 kY')] [] M =
  ic ((0 : Int32) < 0 ∨ (0 : Int32) < 0 ∨ (14 : Int32) < 0 ∨ 14 < (0 : Int32).toNatClampNeg + (14 : Int32).toNatClampNeg ∨ 14 < (0 : Int32).toNatClampNeg + (14 : Int32).toNatClampNeg) none (
    back 199 [some (vR 9 0 kY), some (vR 9 0 kY')] (sI (cpI (sI M kY 12 (M.1 kY' 12)) (kY' + 16) ((0 : Int32).toNatClampNeg) (kY + 16) ((0 : Int32).toNatClampNeg) ((14 : Int32).toNatClampNeg)) kY 14 ((cpI (sI M kY 12 (M.1 kY' 12)) (kY' + 16) ((0 : Int32).toNatClampNeg) (kY + 16) ((0 : Int32).toNatClampNeg) ((14 : Int32).toNatClampNeg)).1 kY' 14))) := rfl
set_option maxRecDepth 100000 in
theorem e83_168 (d F : Nat) (kY : Nat) (kY' : Nat) (M : Mem) : lp d 83 (F + 1) 168 [some (vR 9 0 kY), some (vR 9 0 kY')] M =
  lp d 83 F 199 [some (vR 9 0 kY), some (vR 9 0 kY')] (sI (cpI (sI M kY 12 (M.1 kY' 12)) (kY' + 16) 0 (kY + 16) 0 14) kY 14 ((cpI (sI M kY 12 (M.1 kY' 12)) (kY' + 16) 0 (kY + 16) 0 14).1 kY' 14)) := ((evp_step (code := lkE (codT 83)) (hd := hdT 83) (call := evD d) (F := F) (pc := 168) (lv := [some (vR 9 0 kY), some (vR 9 0 kY')]) (M := M) (e := (.aload_n 0, 1, 0, 0, 0, 0, 0)) rfl).trans (g83_168 (evD d) (evp (lkE (codT 83)) (hdT 83) (evD d) F) kY kY' M)).trans (by (try simp only [ic_f (show ¬ ((0 : Int32) < 0 ∨ (0 : Int32) < 0 ∨ (14 : Int32) < 0 ∨ 14 < (0 : Int32).toNatClampNeg + (14 : Int32).toNatClampNeg ∨ 14 < (0 : Int32).toNatClampNeg + (14 : Int32).toNatClampNeg) by decide)]); (try simp only [show (0 : Int32).toNatClampNeg = 0 from rfl, show (14 : Int32).toNatClampNeg = 14 from rfl]))
set_option maxRecDepth 100000 in
theorem g83_199 (call : Nat → List AV → Mem → Res) (back : Nat → Lv → Mem → Res) (kY : Nat) (kY' : Nat) (M : Mem) : stepK call back (evj (lkE cd_83) [78, 123, 168, 199] call back 4000) (.aload_n 0, 1, 0, 0, 0, 0, 0) 199 [some (vR 9 0 kY), some (vR 9 0 kY')] [] M =
  cVd (call 85 [vR 1 0 (kY + 17), vR 1 0 (kY' + 17)] (sI M kY 15 (M.1 kY' 15))) fun M1 =>
  cVd (call 85 [vR 1 0 (kY + 20), vR 1 0 (kY' + 20)] M1) fun M2 =>
  some (none, M2) := rfl
set_option maxRecDepth 100000 in
theorem e83_199 (d F : Nat) (kY : Nat) (kY' : Nat) (M : Mem) : lp d 83 (F + 1) 199 [some (vR 9 0 kY), some (vR 9 0 kY')] M =
  cVd (evD d 85 [vR 1 0 (kY + 17), vR 1 0 (kY' + 17)] (sI M kY 15 (M.1 kY' 15))) fun M1 =>
  cVd (evD d 85 [vR 1 0 (kY + 20), vR 1 0 (kY' + 20)] M1) fun M2 =>
  some (none, M2) := ((evp_step (code := lkE (codT 83)) (hd := hdT 83) (call := evD d) (F := F) (pc := 199) (lv := [some (vR 9 0 kY), some (vR 9 0 kY')]) (M := M) (e := (.aload_n 0, 1, 0, 0, 0, 0, 0)) rfl).trans (g83_199 (evD d) (evp (lkE (codT 83)) (hdT 83) (evD d) F) kY kY' M))
end
