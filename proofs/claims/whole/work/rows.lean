section
-- ===== PART A: goes FIRST, ahead of the names: the tables' words, and 'selects' of the private methods out of them =====
/-- a private method of a class that the tables say can be made, by its rows of tables_1 -/
def lw_okq (q : MethodName × Nat) : Prop := (q.1.cls ≠ "java/lang/invoke/MethodHandle" ∧ q.1.cls ≠ "java/lang/invoke/VarHandle") ∧ Cond.instantiable q.1.cls q.2 ∈ tables_1 ∧ Cond.privateMethod q.1 ∈ tables_1 ∧ Cond.instanceMethod q.1 ∈ tables_1
theorem lw_p0 : lw_okq (⟨"IceParliament$Tape", "takeLetters", "()V"⟩, 9) := ⟨⟨by decide +kernel, by decide +kernel⟩, List.mem_of_getElem? (i := 36) (by decide +kernel), List.mem_of_getElem? (i := 573) (by decide +kernel), List.mem_of_getElem? (i := 574) (by decide +kernel)⟩
theorem lw_p1 : lw_okq (⟨"IceParliament$Tape", "takeDigits", "()V"⟩, 9) := ⟨⟨by decide +kernel, by decide +kernel⟩, List.mem_of_getElem? (i := 36) (by decide +kernel), List.mem_of_getElem? (i := 578) (by decide +kernel), List.mem_of_getElem? (i := 579) (by decide +kernel)⟩
theorem lw_p2 : lw_okq (⟨"IceParliament$YardReader", "readLine", "()Z"⟩, 4) := ⟨⟨by decide +kernel, by decide +kernel⟩, List.mem_of_getElem? (i := 244) (by decide +kernel), List.mem_of_getElem? (i := 673) (by decide +kernel), List.mem_of_getElem? (i := 674) (by decide +kernel)⟩
theorem lw_p3 : lw_okq (⟨"IceParliament$YardReader", "readSpot", "()Z"⟩, 4) := ⟨⟨by decide +kernel, by decide +kernel⟩, List.mem_of_getElem? (i := 244) (by decide +kernel), List.mem_of_getElem? (i := 703) (by decide +kernel), List.mem_of_getElem? (i := 704) (by decide +kernel)⟩
theorem lw_p4 : lw_okq (⟨"IceParliament$YardReader", "takeHead", "(LIceParliament$Roll;)Z"⟩, 4) := ⟨⟨by decide +kernel, by decide +kernel⟩, List.mem_of_getElem? (i := 244) (by decide +kernel), List.mem_of_getElem? (i := 707) (by decide +kernel), List.mem_of_getElem? (i := 708) (by decide +kernel)⟩
theorem lw_p5 : lw_okq (⟨"IceParliament$Tape", "isName", "()Z"⟩, 9) := ⟨⟨by decide +kernel, by decide +kernel⟩, List.mem_of_getElem? (i := 36) (by decide +kernel), List.mem_of_getElem? (i := 724) (by decide +kernel), List.mem_of_getElem? (i := 725) (by decide +kernel)⟩
theorem lw_p6 : lw_okq (⟨"IceParliament$YardReader", "readCarver", "()Z"⟩, 4) := ⟨⟨by decide +kernel, by decide +kernel⟩, List.mem_of_getElem? (i := 244) (by decide +kernel), List.mem_of_getElem? (i := 765) (by decide +kernel), List.mem_of_getElem? (i := 766) (by decide +kernel)⟩
theorem lw_p7 : lw_okq (⟨"IceParliament$YardReader", "takeSide", "(I)Z"⟩, 4) := ⟨⟨by decide +kernel, by decide +kernel⟩, List.mem_of_getElem? (i := 244) (by decide +kernel), List.mem_of_getElem? (i := 769) (by decide +kernel), List.mem_of_getElem? (i := 770) (by decide +kernel)⟩
theorem lw_p8 : lw_okq (⟨"IceParliament$YardReader", "readAct", "()Z"⟩, 4) := ⟨⟨by decide +kernel, by decide +kernel⟩, List.mem_of_getElem? (i := 244) (by decide +kernel), List.mem_of_getElem? (i := 777) (by decide +kernel), List.mem_of_getElem? (i := 778) (by decide +kernel)⟩
theorem lw_p9 : lw_okq (⟨"IceParliament$YardReader", "takeKind", "(I)Z"⟩, 4) := ⟨⟨by decide +kernel, by decide +kernel⟩, List.mem_of_getElem? (i := 244) (by decide +kernel), List.mem_of_getElem? (i := 781) (by decide +kernel), List.mem_of_getElem? (i := 782) (by decide +kernel)⟩
theorem lw_p10 : lw_okq (⟨"IceParliament$YardReader", "takeMover", "(I)Z"⟩, 4) := ⟨⟨by decide +kernel, by decide +kernel⟩, List.mem_of_getElem? (i := 244) (by decide +kernel), List.mem_of_getElem? (i := 794) (by decide +kernel), List.mem_of_getElem? (i := 795) (by decide +kernel)⟩
theorem lw_p11 : lw_okq (⟨"IceParliament$YardReader", "readClash", "()Z"⟩, 4) := ⟨⟨by decide +kernel, by decide +kernel⟩, List.mem_of_getElem? (i := 244) (by decide +kernel), List.mem_of_getElem? (i := 804) (by decide +kernel), List.mem_of_getElem? (i := 805) (by decide +kernel)⟩
theorem lw_p12 : lw_okq (⟨"IceParliament$YardReader", "readNights", "()Z"⟩, 4) := ⟨⟨by decide +kernel, by decide +kernel⟩, List.mem_of_getElem? (i := 244) (by decide +kernel), List.mem_of_getElem? (i := 821) (by decide +kernel), List.mem_of_getElem? (i := 822) (by decide +kernel)⟩
theorem lw_p13 : lw_okq (⟨"IceParliament$YardReader", "readMild", "()Z"⟩, 4) := ⟨⟨by decide +kernel, by decide +kernel⟩, List.mem_of_getElem? (i := 244) (by decide +kernel), List.mem_of_getElem? (i := 835) (by decide +kernel), List.mem_of_getElem? (i := 836) (by decide +kernel)⟩
theorem lw_p14 : lw_okq (⟨"IceParliament$LawReader", "takeOpenings", "()Z"⟩, 6) := ⟨⟨by decide +kernel, by decide +kernel⟩, List.mem_of_getElem? (i := 250) (by decide +kernel), List.mem_of_getElem? (i := 847) (by decide +kernel), List.mem_of_getElem? (i := 848) (by decide +kernel)⟩
theorem lw_p15 : lw_okq (⟨"IceParliament$LawReader", "push", "(I)V"⟩, 6) := ⟨⟨by decide +kernel, by decide +kernel⟩, List.mem_of_getElem? (i := 250) (by decide +kernel), List.mem_of_getElem? (i := 854) (by decide +kernel), List.mem_of_getElem? (i := 855) (by decide +kernel)⟩
def lw_privs_1 : List (MethodName × Nat) := [(⟨"IceParliament$Tape", "takeLetters", "()V"⟩, 9), (⟨"IceParliament$Tape", "takeDigits", "()V"⟩, 9), (⟨"IceParliament$YardReader", "readLine", "()Z"⟩, 4), (⟨"IceParliament$YardReader", "readSpot", "()Z"⟩, 4), (⟨"IceParliament$YardReader", "takeHead", "(LIceParliament$Roll;)Z"⟩, 4), (⟨"IceParliament$Tape", "isName", "()Z"⟩, 9), (⟨"IceParliament$YardReader", "readCarver", "()Z"⟩, 4), (⟨"IceParliament$YardReader", "takeSide", "(I)Z"⟩, 4), (⟨"IceParliament$YardReader", "readAct", "()Z"⟩, 4), (⟨"IceParliament$YardReader", "takeKind", "(I)Z"⟩, 4), (⟨"IceParliament$YardReader", "takeMover", "(I)Z"⟩, 4), (⟨"IceParliament$YardReader", "readClash", "()Z"⟩, 4), (⟨"IceParliament$YardReader", "readNights", "()Z"⟩, 4), (⟨"IceParliament$YardReader", "readMild", "()Z"⟩, 4), (⟨"IceParliament$LawReader", "takeOpenings", "()Z"⟩, 6), (⟨"IceParliament$LawReader", "push", "(I)V"⟩, 6)]
theorem lw_r1 : ∀ q ∈ lw_privs_1, lw_okq q := List.forall_mem_cons.mpr ⟨lw_p0, List.forall_mem_cons.mpr ⟨lw_p1, List.forall_mem_cons.mpr ⟨lw_p2, List.forall_mem_cons.mpr ⟨lw_p3, List.forall_mem_cons.mpr ⟨lw_p4, List.forall_mem_cons.mpr ⟨lw_p5, List.forall_mem_cons.mpr ⟨lw_p6, List.forall_mem_cons.mpr ⟨lw_p7, List.forall_mem_cons.mpr ⟨lw_p8, List.forall_mem_cons.mpr ⟨lw_p9, List.forall_mem_cons.mpr ⟨lw_p10, List.forall_mem_cons.mpr ⟨lw_p11, List.forall_mem_cons.mpr ⟨lw_p12, List.forall_mem_cons.mpr ⟨lw_p13, List.forall_mem_cons.mpr ⟨lw_p14, List.forall_mem_cons.mpr ⟨lw_p15, fun _ h => absurd h List.not_mem_nil⟩⟩⟩⟩⟩⟩⟩⟩⟩⟩⟩⟩⟩⟩⟩⟩
theorem lw_p16 : lw_okq (⟨"IceParliament$LawReader", "takeLeaf", "()Z"⟩, 6) := ⟨⟨by decide +kernel, by decide +kernel⟩, List.mem_of_getElem? (i := 250) (by decide +kernel), List.mem_of_getElem? (i := 858) (by decide +kernel), List.mem_of_getElem? (i := 859) (by decide +kernel)⟩
theorem lw_p17 : lw_okq (⟨"IceParliament$LawReader", "factHere", "()I"⟩, 6) := ⟨⟨by decide +kernel, by decide +kernel⟩, List.mem_of_getElem? (i := 250) (by decide +kernel), List.mem_of_getElem? (i := 863) (by decide +kernel), List.mem_of_getElem? (i := 864) (by decide +kernel)⟩
theorem lw_p18 : lw_okq (⟨"IceParliament$LawReader", "closeNots", "()V"⟩, 6) := ⟨⟨by decide +kernel, by decide +kernel⟩, List.mem_of_getElem? (i := 250) (by decide +kernel), List.mem_of_getElem? (i := 873) (by decide +kernel), List.mem_of_getElem? (i := 874) (by decide +kernel)⟩
theorem lw_p19 : lw_okq (⟨"IceParliament$LawReader", "takeClosings", "()V"⟩, 6) := ⟨⟨by decide +kernel, by decide +kernel⟩, List.mem_of_getElem? (i := 250) (by decide +kernel), List.mem_of_getElem? (i := 877) (by decide +kernel), List.mem_of_getElem? (i := 878) (by decide +kernel)⟩
theorem lw_p20 : lw_okq (⟨"IceParliament$LawReader", "settle", "(I)V"⟩, 6) := ⟨⟨by decide +kernel, by decide +kernel⟩, List.mem_of_getElem? (i := 250) (by decide +kernel), List.mem_of_getElem? (i := 881) (by decide +kernel), List.mem_of_getElem? (i := 882) (by decide +kernel)⟩
theorem lw_p21 : lw_okq (⟨"IceParliament$LawReader", "joinHere", "()I"⟩, 6) := ⟨⟨by decide +kernel, by decide +kernel⟩, List.mem_of_getElem? (i := 250) (by decide +kernel), List.mem_of_getElem? (i := 888) (by decide +kernel), List.mem_of_getElem? (i := 889) (by decide +kernel)⟩
theorem lw_p22 : lw_okq (⟨"IceParliament$LawReader", "takeEnd", "()Z"⟩, 6) := ⟨⟨by decide +kernel, by decide +kernel⟩, List.mem_of_getElem? (i := 250) (by decide +kernel), List.mem_of_getElem? (i := 894) (by decide +kernel), List.mem_of_getElem? (i := 895) (by decide +kernel)⟩
theorem lw_p23 : lw_okq (⟨"IceParliament$LawReader", "takeJoin", "(I)Z"⟩, 6) := ⟨⟨by decide +kernel, by decide +kernel⟩, List.mem_of_getElem? (i := 250) (by decide +kernel), List.mem_of_getElem? (i := 899) (by decide +kernel), List.mem_of_getElem? (i := 900) (by decide +kernel)⟩
theorem lw_p24 : lw_okq (⟨"IceParliament$Session", "readLine", "(LIceParliament$Tape;LIceParliament$Yard;)Z"⟩, 4) := ⟨⟨by decide +kernel, by decide +kernel⟩, List.mem_of_getElem? (i := 288) (by decide +kernel), List.mem_of_getElem? (i := 940) (by decide +kernel), List.mem_of_getElem? (i := 941) (by decide +kernel)⟩
theorem lw_p25 : lw_okq (⟨"IceParliament$Session", "takeNames", "(LIceParliament$Tape;LIceParliament$Yard;I)Z"⟩, 4) := ⟨⟨by decide +kernel, by decide +kernel⟩, List.mem_of_getElem? (i := 288) (by decide +kernel), List.mem_of_getElem? (i := 955) (by decide +kernel), List.mem_of_getElem? (i := 956) (by decide +kernel)⟩
theorem lw_p26 : lw_okq (⟨"IceParliament", "isAct", "(I)Z"⟩, 14) := ⟨⟨by decide +kernel, by decide +kernel⟩, List.mem_of_getElem? (i := 28) (by decide +kernel), List.mem_of_getElem? (i := 970) (by decide +kernel), List.mem_of_getElem? (i := 971) (by decide +kernel)⟩
theorem lw_p27 : lw_okq (⟨"IceParliament", "isCarver", "(I)Z"⟩, 14) := ⟨⟨by decide +kernel, by decide +kernel⟩, List.mem_of_getElem? (i := 28) (by decide +kernel), List.mem_of_getElem? (i := 1029) (by decide +kernel), List.mem_of_getElem? (i := 1030) (by decide +kernel)⟩
theorem lw_p28 : lw_okq (⟨"IceParliament", "isSpot", "(I)Z"⟩, 14) := ⟨⟨by decide +kernel, by decide +kernel⟩, List.mem_of_getElem? (i := 28) (by decide +kernel), List.mem_of_getElem? (i := 1070) (by decide +kernel), List.mem_of_getElem? (i := 1071) (by decide +kernel)⟩
theorem lw_p29 : lw_okq (⟨"IceParliament", "keepForUndo", "()V"⟩, 14) := ⟨⟨by decide +kernel, by decide +kernel⟩, List.mem_of_getElem? (i := 28) (by decide +kernel), List.mem_of_getElem? (i := 1082) (by decide +kernel), List.mem_of_getElem? (i := 1083) (by decide +kernel)⟩
theorem lw_p30 : lw_okq (⟨"IceParliament$State", "lose", "(II)Z"⟩, 11) := ⟨⟨by decide +kernel, by decide +kernel⟩, List.mem_of_getElem? (i := 312) (by decide +kernel), List.mem_of_getElem? (i := 1126) (by decide +kernel), List.mem_of_getElem? (i := 1127) (by decide +kernel)⟩
theorem lw_p31 : lw_okq (⟨"IceParliament$Trial", "follow", "(III)Z"⟩, 8) := ⟨⟨by decide +kernel, by decide +kernel⟩, List.mem_of_getElem? (i := 467) (by decide +kernel), List.mem_of_getElem? (i := 1157) (by decide +kernel), List.mem_of_getElem? (i := 1158) (by decide +kernel)⟩
def lw_privs_2 : List (MethodName × Nat) := [(⟨"IceParliament$LawReader", "takeLeaf", "()Z"⟩, 6), (⟨"IceParliament$LawReader", "factHere", "()I"⟩, 6), (⟨"IceParliament$LawReader", "closeNots", "()V"⟩, 6), (⟨"IceParliament$LawReader", "takeClosings", "()V"⟩, 6), (⟨"IceParliament$LawReader", "settle", "(I)V"⟩, 6), (⟨"IceParliament$LawReader", "joinHere", "()I"⟩, 6), (⟨"IceParliament$LawReader", "takeEnd", "()Z"⟩, 6), (⟨"IceParliament$LawReader", "takeJoin", "(I)Z"⟩, 6), (⟨"IceParliament$Session", "readLine", "(LIceParliament$Tape;LIceParliament$Yard;)Z"⟩, 4), (⟨"IceParliament$Session", "takeNames", "(LIceParliament$Tape;LIceParliament$Yard;I)Z"⟩, 4), (⟨"IceParliament", "isAct", "(I)Z"⟩, 14), (⟨"IceParliament", "isCarver", "(I)Z"⟩, 14), (⟨"IceParliament", "isSpot", "(I)Z"⟩, 14), (⟨"IceParliament", "keepForUndo", "()V"⟩, 14), (⟨"IceParliament$State", "lose", "(II)Z"⟩, 11), (⟨"IceParliament$Trial", "follow", "(III)Z"⟩, 8)]
theorem lw_r2 : ∀ q ∈ lw_privs_2, lw_okq q := List.forall_mem_cons.mpr ⟨lw_p16, List.forall_mem_cons.mpr ⟨lw_p17, List.forall_mem_cons.mpr ⟨lw_p18, List.forall_mem_cons.mpr ⟨lw_p19, List.forall_mem_cons.mpr ⟨lw_p20, List.forall_mem_cons.mpr ⟨lw_p21, List.forall_mem_cons.mpr ⟨lw_p22, List.forall_mem_cons.mpr ⟨lw_p23, List.forall_mem_cons.mpr ⟨lw_p24, List.forall_mem_cons.mpr ⟨lw_p25, List.forall_mem_cons.mpr ⟨lw_p26, List.forall_mem_cons.mpr ⟨lw_p27, List.forall_mem_cons.mpr ⟨lw_p28, List.forall_mem_cons.mpr ⟨lw_p29, List.forall_mem_cons.mpr ⟨lw_p30, List.forall_mem_cons.mpr ⟨lw_p31, fun _ h => absurd h List.not_mem_nil⟩⟩⟩⟩⟩⟩⟩⟩⟩⟩⟩⟩⟩⟩⟩⟩
theorem lw_p32 : lw_okq (⟨"IceParliament$Trial", "tryBegin", "(II)Z"⟩, 8) := ⟨⟨by decide +kernel, by decide +kernel⟩, List.mem_of_getElem? (i := 467) (by decide +kernel), List.mem_of_getElem? (i := 1161) (by decide +kernel), List.mem_of_getElem? (i := 1162) (by decide +kernel)⟩
theorem lw_p33 : lw_okq (⟨"IceParliament$Trial", "tryCarve", "(II)Z"⟩, 8) := ⟨⟨by decide +kernel, by decide +kernel⟩, List.mem_of_getElem? (i := 467) (by decide +kernel), List.mem_of_getElem? (i := 1167) (by decide +kernel), List.mem_of_getElem? (i := 1168) (by decide +kernel)⟩
theorem lw_p34 : lw_okq (⟨"IceParliament$Trial", "liveDay", "()V"⟩, 8) := ⟨⟨by decide +kernel, by decide +kernel⟩, List.mem_of_getElem? (i := 467) (by decide +kernel), List.mem_of_getElem? (i := 1188) (by decide +kernel), List.mem_of_getElem? (i := 1189) (by decide +kernel)⟩
theorem lw_p35 : lw_okq (⟨"IceParliament$Trial", "draw", "(I)I"⟩, 8) := ⟨⟨by decide +kernel, by decide +kernel⟩, List.mem_of_getElem? (i := 467) (by decide +kernel), List.mem_of_getElem? (i := 1192) (by decide +kernel), List.mem_of_getElem? (i := 1193) (by decide +kernel)⟩
theorem lw_p36 : lw_okq (⟨"IceParliament$Planner", "callWorkers", "()V"⟩, 15) := ⟨⟨by decide +kernel, by decide +kernel⟩, List.mem_of_getElem? (i := 382) (by decide +kernel), List.mem_of_getElem? (i := 1249) (by decide +kernel), List.mem_of_getElem? (i := 1250) (by decide +kernel)⟩
theorem lw_p37 : lw_okq (⟨"IceParliament$Planner", "listStanding", "()V"⟩, 15) := ⟨⟨by decide +kernel, by decide +kernel⟩, List.mem_of_getElem? (i := 382) (by decide +kernel), List.mem_of_getElem? (i := 1254) (by decide +kernel), List.mem_of_getElem? (i := 1255) (by decide +kernel)⟩
theorem lw_p38 : lw_okq (⟨"IceParliament$Planner", "worthByCrew", "(III)I"⟩, 15) := ⟨⟨by decide +kernel, by decide +kernel⟩, List.mem_of_getElem? (i := 382) (by decide +kernel), List.mem_of_getElem? (i := 1259) (by decide +kernel), List.mem_of_getElem? (i := 1260) (by decide +kernel)⟩
theorem lw_p39 : lw_okq (⟨"IceParliament$Planner", "canWork", "(II)Z"⟩, 15) := ⟨⟨by decide +kernel, by decide +kernel⟩, List.mem_of_getElem? (i := 382) (by decide +kernel), List.mem_of_getElem? (i := 1264) (by decide +kernel), List.mem_of_getElem? (i := 1265) (by decide +kernel)⟩
theorem lw_p40 : lw_okq (⟨"IceParliament$Planner", "howManyRows", "()I"⟩, 15) := ⟨⟨by decide +kernel, by decide +kernel⟩, List.mem_of_getElem? (i := 382) (by decide +kernel), List.mem_of_getElem? (i := 1273) (by decide +kernel), List.mem_of_getElem? (i := 1274) (by decide +kernel)⟩
theorem lw_p41 : lw_okq (⟨"IceParliament$Planner", "worthOfRow", "()I"⟩, 15) := ⟨⟨by decide +kernel, by decide +kernel⟩, List.mem_of_getElem? (i := 382) (by decide +kernel), List.mem_of_getElem? (i := 1277) (by decide +kernel), List.mem_of_getElem? (i := 1278) (by decide +kernel)⟩
theorem lw_p42 : lw_okq (⟨"IceParliament$Planner", "keepRow", "()V"⟩, 15) := ⟨⟨by decide +kernel, by decide +kernel⟩, List.mem_of_getElem? (i := 382) (by decide +kernel), List.mem_of_getElem? (i := 1281) (by decide +kernel), List.mem_of_getElem? (i := 1282) (by decide +kernel)⟩
theorem lw_p43 : lw_okq (⟨"IceParliament$Planner", "stepRow", "()V"⟩, 15) := ⟨⟨by decide +kernel, by decide +kernel⟩, List.mem_of_getElem? (i := 382) (by decide +kernel), List.mem_of_getElem? (i := 1285) (by decide +kernel), List.mem_of_getElem? (i := 1286) (by decide +kernel)⟩
theorem lw_p44 : lw_okq (⟨"IceParliament$Planner", "fillGains", "()V"⟩, 15) := ⟨⟨by decide +kernel, by decide +kernel⟩, List.mem_of_getElem? (i := 382) (by decide +kernel), List.mem_of_getElem? (i := 1297) (by decide +kernel), List.mem_of_getElem? (i := 1298) (by decide +kernel)⟩
theorem lw_p45 : lw_okq (⟨"IceParliament$Planner", "fillBest", "()V"⟩, 15) := ⟨⟨by decide +kernel, by decide +kernel⟩, List.mem_of_getElem? (i := 382) (by decide +kernel), List.mem_of_getElem? (i := 1303) (by decide +kernel), List.mem_of_getElem? (i := 1304) (by decide +kernel)⟩
theorem lw_p46 : lw_okq (⟨"IceParliament$Planner", "firstPlace", "(II)I"⟩, 15) := ⟨⟨by decide +kernel, by decide +kernel⟩, List.mem_of_getElem? (i := 382) (by decide +kernel), List.mem_of_getElem? (i := 1308) (by decide +kernel), List.mem_of_getElem? (i := 1309) (by decide +kernel)⟩
theorem lw_p47 : lw_okq (⟨"IceParliament$Planner", "spreadOdds", "(III)V"⟩, 15) := ⟨⟨by decide +kernel, by decide +kernel⟩, List.mem_of_getElem? (i := 382) (by decide +kernel), List.mem_of_getElem? (i := 1328) (by decide +kernel), List.mem_of_getElem? (i := 1329) (by decide +kernel)⟩
def lw_privs_3 : List (MethodName × Nat) := [(⟨"IceParliament$Trial", "tryBegin", "(II)Z"⟩, 8), (⟨"IceParliament$Trial", "tryCarve", "(II)Z"⟩, 8), (⟨"IceParliament$Trial", "liveDay", "()V"⟩, 8), (⟨"IceParliament$Trial", "draw", "(I)I"⟩, 8), (⟨"IceParliament$Planner", "callWorkers", "()V"⟩, 15), (⟨"IceParliament$Planner", "listStanding", "()V"⟩, 15), (⟨"IceParliament$Planner", "worthByCrew", "(III)I"⟩, 15), (⟨"IceParliament$Planner", "canWork", "(II)Z"⟩, 15), (⟨"IceParliament$Planner", "howManyRows", "()I"⟩, 15), (⟨"IceParliament$Planner", "worthOfRow", "()I"⟩, 15), (⟨"IceParliament$Planner", "keepRow", "()V"⟩, 15), (⟨"IceParliament$Planner", "stepRow", "()V"⟩, 15), (⟨"IceParliament$Planner", "fillGains", "()V"⟩, 15), (⟨"IceParliament$Planner", "fillBest", "()V"⟩, 15), (⟨"IceParliament$Planner", "firstPlace", "(II)I"⟩, 15), (⟨"IceParliament$Planner", "spreadOdds", "(III)V"⟩, 15)]
theorem lw_r3 : ∀ q ∈ lw_privs_3, lw_okq q := List.forall_mem_cons.mpr ⟨lw_p32, List.forall_mem_cons.mpr ⟨lw_p33, List.forall_mem_cons.mpr ⟨lw_p34, List.forall_mem_cons.mpr ⟨lw_p35, List.forall_mem_cons.mpr ⟨lw_p36, List.forall_mem_cons.mpr ⟨lw_p37, List.forall_mem_cons.mpr ⟨lw_p38, List.forall_mem_cons.mpr ⟨lw_p39, List.forall_mem_cons.mpr ⟨lw_p40, List.forall_mem_cons.mpr ⟨lw_p41, List.forall_mem_cons.mpr ⟨lw_p42, List.forall_mem_cons.mpr ⟨lw_p43, List.forall_mem_cons.mpr ⟨lw_p44, List.forall_mem_cons.mpr ⟨lw_p45, List.forall_mem_cons.mpr ⟨lw_p46, List.forall_mem_cons.mpr ⟨lw_p47, fun _ h => absurd h List.not_mem_nil⟩⟩⟩⟩⟩⟩⟩⟩⟩⟩⟩⟩⟩⟩⟩⟩
theorem lw_p48 : lw_okq (⟨"IceParliament$Planner", "worthBehind", "(III)I"⟩, 15) := ⟨⟨by decide +kernel, by decide +kernel⟩, List.mem_of_getElem? (i := 382) (by decide +kernel), List.mem_of_getElem? (i := 1344) (by decide +kernel), List.mem_of_getElem? (i := 1345) (by decide +kernel)⟩
theorem lw_p49 : lw_okq (⟨"IceParliament$Breath", "foresee", "()V"⟩, 7) := ⟨⟨by decide +kernel, by decide +kernel⟩, List.mem_of_getElem? (i := 438) (by decide +kernel), List.mem_of_getElem? (i := 1362) (by decide +kernel), List.mem_of_getElem? (i := 1363) (by decide +kernel)⟩
theorem lw_p50 : lw_okq (⟨"IceParliament$Breath", "isAsTold", "(I)Z"⟩, 7) := ⟨⟨by decide +kernel, by decide +kernel⟩, List.mem_of_getElem? (i := 438) (by decide +kernel), List.mem_of_getElem? (i := 1369) (by decide +kernel), List.mem_of_getElem? (i := 1370) (by decide +kernel)⟩
theorem lw_p51 : lw_okq (⟨"IceParliament$Breath", "feetBy", "(II)I"⟩, 7) := ⟨⟨by decide +kernel, by decide +kernel⟩, List.mem_of_getElem? (i := 438) (by decide +kernel), List.mem_of_getElem? (i := 1373) (by decide +kernel), List.mem_of_getElem? (i := 1374) (by decide +kernel)⟩
theorem lw_p52 : lw_okq (⟨"IceParliament$Breath", "greatestAlike", "(I)I"⟩, 7) := ⟨⟨by decide +kernel, by decide +kernel⟩, List.mem_of_getElem? (i := 438) (by decide +kernel), List.mem_of_getElem? (i := 1395) (by decide +kernel), List.mem_of_getElem? (i := 1396) (by decide +kernel)⟩
theorem lw_p53 : lw_okq (⟨"java/lang/Throwable", "fillInStackTrace", "(I)Ljava/lang/Throwable;"⟩, 6) := ⟨⟨by decide +kernel, by decide +kernel⟩, List.mem_of_getElem? (i := 1447) (by decide +kernel), List.mem_of_getElem? (i := 1445) (by decide +kernel), List.mem_of_getElem? (i := 1446) (by decide +kernel)⟩
theorem lw_p54 : lw_okq (⟨"IceParliamentModel", "lay", "(J)V"⟩, 40) := ⟨⟨by decide +kernel, by decide +kernel⟩, List.mem_of_getElem? (i := 1488) (by decide +kernel), List.mem_of_getElem? (i := 1486) (by decide +kernel), List.mem_of_getElem? (i := 1487) (by decide +kernel)⟩
theorem lw_p55 : lw_okq (⟨"IceParliamentModel", "standsAsAlways", "(I)V"⟩, 40) := ⟨⟨by decide +kernel, by decide +kernel⟩, List.mem_of_getElem? (i := 1488) (by decide +kernel), List.mem_of_getElem? (i := 1529) (by decide +kernel), List.mem_of_getElem? (i := 1530) (by decide +kernel)⟩
theorem lw_p56 : lw_okq (⟨"IceParliamentModel", "begins", "()V"⟩, 40) := ⟨⟨by decide +kernel, by decide +kernel⟩, List.mem_of_getElem? (i := 1488) (by decide +kernel), List.mem_of_getElem? (i := 1533) (by decide +kernel), List.mem_of_getElem? (i := 1534) (by decide +kernel)⟩
theorem lw_p57 : lw_okq (⟨"IceParliamentModel", "starts", "(I)V"⟩, 40) := ⟨⟨by decide +kernel, by decide +kernel⟩, List.mem_of_getElem? (i := 1488) (by decide +kernel), List.mem_of_getElem? (i := 1537) (by decide +kernel), List.mem_of_getElem? (i := 1538) (by decide +kernel)⟩
theorem lw_p58 : lw_okq (⟨"IceParliamentModel", "acts", "()I"⟩, 40) := ⟨⟨by decide +kernel, by decide +kernel⟩, List.mem_of_getElem? (i := 1488) (by decide +kernel), List.mem_of_getElem? (i := 1541) (by decide +kernel), List.mem_of_getElem? (i := 1542) (by decide +kernel)⟩
theorem lw_p59 : lw_okq (⟨"IceParliamentModel", "actOf", "(II)I"⟩, 40) := ⟨⟨by decide +kernel, by decide +kernel⟩, List.mem_of_getElem? (i := 1488) (by decide +kernel), List.mem_of_getElem? (i := 1545) (by decide +kernel), List.mem_of_getElem? (i := 1546) (by decide +kernel)⟩
theorem lw_p60 : lw_okq (⟨"IceParliamentModel", "cutAll", "()V"⟩, 40) := ⟨⟨by decide +kernel, by decide +kernel⟩, List.mem_of_getElem? (i := 1488) (by decide +kernel), List.mem_of_getElem? (i := 1675) (by decide +kernel), List.mem_of_getElem? (i := 1676) (by decide +kernel)⟩
theorem lw_p61 : lw_okq (⟨"IceParliamentModel", "readLine", "()V"⟩, 40) := ⟨⟨by decide +kernel, by decide +kernel⟩, List.mem_of_getElem? (i := 1488) (by decide +kernel), List.mem_of_getElem? (i := 1694) (by decide +kernel), List.mem_of_getElem? (i := 1695) (by decide +kernel)⟩
theorem lw_p62 : lw_okq (⟨"IceParliamentModel", "isWord", "(I)Z"⟩, 40) := ⟨⟨by decide +kernel, by decide +kernel⟩, List.mem_of_getElem? (i := 1488) (by decide +kernel), List.mem_of_getElem? (i := 1698) (by decide +kernel), List.mem_of_getElem? (i := 1699) (by decide +kernel)⟩
theorem lw_p63 : lw_okq (⟨"IceParliamentModel", "readSpot", "()V"⟩, 40) := ⟨⟨by decide +kernel, by decide +kernel⟩, List.mem_of_getElem? (i := 1488) (by decide +kernel), List.mem_of_getElem? (i := 1702) (by decide +kernel), List.mem_of_getElem? (i := 1703) (by decide +kernel)⟩
def lw_privs_4 : List (MethodName × Nat) := [(⟨"IceParliament$Planner", "worthBehind", "(III)I"⟩, 15), (⟨"IceParliament$Breath", "foresee", "()V"⟩, 7), (⟨"IceParliament$Breath", "isAsTold", "(I)Z"⟩, 7), (⟨"IceParliament$Breath", "feetBy", "(II)I"⟩, 7), (⟨"IceParliament$Breath", "greatestAlike", "(I)I"⟩, 7), (⟨"java/lang/Throwable", "fillInStackTrace", "(I)Ljava/lang/Throwable;"⟩, 6), (⟨"IceParliamentModel", "lay", "(J)V"⟩, 40), (⟨"IceParliamentModel", "standsAsAlways", "(I)V"⟩, 40), (⟨"IceParliamentModel", "begins", "()V"⟩, 40), (⟨"IceParliamentModel", "starts", "(I)V"⟩, 40), (⟨"IceParliamentModel", "acts", "()I"⟩, 40), (⟨"IceParliamentModel", "actOf", "(II)I"⟩, 40), (⟨"IceParliamentModel", "cutAll", "()V"⟩, 40), (⟨"IceParliamentModel", "readLine", "()V"⟩, 40), (⟨"IceParliamentModel", "isWord", "(I)Z"⟩, 40), (⟨"IceParliamentModel", "readSpot", "()V"⟩, 40)]
theorem lw_r4 : ∀ q ∈ lw_privs_4, lw_okq q := List.forall_mem_cons.mpr ⟨lw_p48, List.forall_mem_cons.mpr ⟨lw_p49, List.forall_mem_cons.mpr ⟨lw_p50, List.forall_mem_cons.mpr ⟨lw_p51, List.forall_mem_cons.mpr ⟨lw_p52, List.forall_mem_cons.mpr ⟨lw_p53, List.forall_mem_cons.mpr ⟨lw_p54, List.forall_mem_cons.mpr ⟨lw_p55, List.forall_mem_cons.mpr ⟨lw_p56, List.forall_mem_cons.mpr ⟨lw_p57, List.forall_mem_cons.mpr ⟨lw_p58, List.forall_mem_cons.mpr ⟨lw_p59, List.forall_mem_cons.mpr ⟨lw_p60, List.forall_mem_cons.mpr ⟨lw_p61, List.forall_mem_cons.mpr ⟨lw_p62, List.forall_mem_cons.mpr ⟨lw_p63, fun _ h => absurd h List.not_mem_nil⟩⟩⟩⟩⟩⟩⟩⟩⟩⟩⟩⟩⟩⟩⟩⟩
theorem lw_p64 : lw_okq (⟨"IceParliamentModel", "wrong", "(I)V"⟩, 40) := ⟨⟨by decide +kernel, by decide +kernel⟩, List.mem_of_getElem? (i := 1488) (by decide +kernel), List.mem_of_getElem? (i := 1706) (by decide +kernel), List.mem_of_getElem? (i := 1707) (by decide +kernel)⟩
theorem lw_p65 : lw_okq (⟨"IceParliamentModel", "readName", "(I)V"⟩, 40) := ⟨⟨by decide +kernel, by decide +kernel⟩, List.mem_of_getElem? (i := 1488) (by decide +kernel), List.mem_of_getElem? (i := 1710) (by decide +kernel), List.mem_of_getElem? (i := 1711) (by decide +kernel)⟩
theorem lw_p66 : lw_okq (⟨"IceParliamentModel", "isName", "()Z"⟩, 40) := ⟨⟨by decide +kernel, by decide +kernel⟩, List.mem_of_getElem? (i := 1488) (by decide +kernel), List.mem_of_getElem? (i := 1714) (by decide +kernel), List.mem_of_getElem? (i := 1715) (by decide +kernel)⟩
theorem lw_p67 : lw_okq (⟨"IceParliamentModel", "wordHere", "(II)I"⟩, 40) := ⟨⟨by decide +kernel, by decide +kernel⟩, List.mem_of_getElem? (i := 1488) (by decide +kernel), List.mem_of_getElem? (i := 1718) (by decide +kernel), List.mem_of_getElem? (i := 1719) (by decide +kernel)⟩
theorem lw_p68 : lw_okq (⟨"IceParliamentModel", "find", "(Z)I"⟩, 40) := ⟨⟨by decide +kernel, by decide +kernel⟩, List.mem_of_getElem? (i := 1488) (by decide +kernel), List.mem_of_getElem? (i := 1722) (by decide +kernel), List.mem_of_getElem? (i := 1723) (by decide +kernel)⟩
theorem lw_p69 : lw_okq (⟨"IceParliamentModel", "takeAfter", "(III)I"⟩, 40) := ⟨⟨by decide +kernel, by decide +kernel⟩, List.mem_of_getElem? (i := 1488) (by decide +kernel), List.mem_of_getElem? (i := 1726) (by decide +kernel), List.mem_of_getElem? (i := 1727) (by decide +kernel)⟩
theorem lw_p70 : lw_okq (⟨"IceParliamentModel", "takeWord", "(I)V"⟩, 40) := ⟨⟨by decide +kernel, by decide +kernel⟩, List.mem_of_getElem? (i := 1488) (by decide +kernel), List.mem_of_getElem? (i := 1730) (by decide +kernel), List.mem_of_getElem? (i := 1731) (by decide +kernel)⟩
theorem lw_p71 : lw_okq (⟨"IceParliamentModel", "hasWord", "(I)Z"⟩, 40) := ⟨⟨by decide +kernel, by decide +kernel⟩, List.mem_of_getElem? (i := 1488) (by decide +kernel), List.mem_of_getElem? (i := 1734) (by decide +kernel), List.mem_of_getElem? (i := 1735) (by decide +kernel)⟩
theorem lw_p72 : lw_okq (⟨"IceParliamentModel", "takeNumber", "(II)I"⟩, 40) := ⟨⟨by decide +kernel, by decide +kernel⟩, List.mem_of_getElem? (i := 1488) (by decide +kernel), List.mem_of_getElem? (i := 1738) (by decide +kernel), List.mem_of_getElem? (i := 1739) (by decide +kernel)⟩
theorem lw_p73 : lw_okq (⟨"IceParliamentModel", "readCarver", "()V"⟩, 40) := ⟨⟨by decide +kernel, by decide +kernel⟩, List.mem_of_getElem? (i := 1488) (by decide +kernel), List.mem_of_getElem? (i := 1742) (by decide +kernel), List.mem_of_getElem? (i := 1743) (by decide +kernel)⟩
theorem lw_p74 : lw_okq (⟨"IceParliamentModel", "takeOne", "(II)I"⟩, 40) := ⟨⟨by decide +kernel, by decide +kernel⟩, List.mem_of_getElem? (i := 1488) (by decide +kernel), List.mem_of_getElem? (i := 1746) (by decide +kernel), List.mem_of_getElem? (i := 1747) (by decide +kernel)⟩
theorem lw_p75 : lw_okq (⟨"IceParliamentModel", "readAct", "()V"⟩, 40) := ⟨⟨by decide +kernel, by decide +kernel⟩, List.mem_of_getElem? (i := 1488) (by decide +kernel), List.mem_of_getElem? (i := 1750) (by decide +kernel), List.mem_of_getElem? (i := 1751) (by decide +kernel)⟩
theorem lw_p76 : lw_okq (⟨"IceParliamentModel", "takeTold", "(ZI)I"⟩, 40) := ⟨⟨by decide +kernel, by decide +kernel⟩, List.mem_of_getElem? (i := 1488) (by decide +kernel), List.mem_of_getElem? (i := 1754) (by decide +kernel), List.mem_of_getElem? (i := 1755) (by decide +kernel)⟩
theorem lw_p77 : lw_okq (⟨"IceParliamentModel", "toldHere", "(ZI)I"⟩, 40) := ⟨⟨by decide +kernel, by decide +kernel⟩, List.mem_of_getElem? (i := 1488) (by decide +kernel), List.mem_of_getElem? (i := 1758) (by decide +kernel), List.mem_of_getElem? (i := 1759) (by decide +kernel)⟩
theorem lw_p78 : lw_okq (⟨"IceParliamentModel", "readClash", "()V"⟩, 40) := ⟨⟨by decide +kernel, by decide +kernel⟩, List.mem_of_getElem? (i := 1488) (by decide +kernel), List.mem_of_getElem? (i := 1765) (by decide +kernel), List.mem_of_getElem? (i := 1766) (by decide +kernel)⟩
theorem lw_p79 : lw_okq (⟨"IceParliamentModel", "readOnce", "()V"⟩, 40) := ⟨⟨by decide +kernel, by decide +kernel⟩, List.mem_of_getElem? (i := 1488) (by decide +kernel), List.mem_of_getElem? (i := 1769) (by decide +kernel), List.mem_of_getElem? (i := 1770) (by decide +kernel)⟩
def lw_privs_5 : List (MethodName × Nat) := [(⟨"IceParliamentModel", "wrong", "(I)V"⟩, 40), (⟨"IceParliamentModel", "readName", "(I)V"⟩, 40), (⟨"IceParliamentModel", "isName", "()Z"⟩, 40), (⟨"IceParliamentModel", "wordHere", "(II)I"⟩, 40), (⟨"IceParliamentModel", "find", "(Z)I"⟩, 40), (⟨"IceParliamentModel", "takeAfter", "(III)I"⟩, 40), (⟨"IceParliamentModel", "takeWord", "(I)V"⟩, 40), (⟨"IceParliamentModel", "hasWord", "(I)Z"⟩, 40), (⟨"IceParliamentModel", "takeNumber", "(II)I"⟩, 40), (⟨"IceParliamentModel", "readCarver", "()V"⟩, 40), (⟨"IceParliamentModel", "takeOne", "(II)I"⟩, 40), (⟨"IceParliamentModel", "readAct", "()V"⟩, 40), (⟨"IceParliamentModel", "takeTold", "(ZI)I"⟩, 40), (⟨"IceParliamentModel", "toldHere", "(ZI)I"⟩, 40), (⟨"IceParliamentModel", "readClash", "()V"⟩, 40), (⟨"IceParliamentModel", "readOnce", "()V"⟩, 40)]
theorem lw_r5 : ∀ q ∈ lw_privs_5, lw_okq q := List.forall_mem_cons.mpr ⟨lw_p64, List.forall_mem_cons.mpr ⟨lw_p65, List.forall_mem_cons.mpr ⟨lw_p66, List.forall_mem_cons.mpr ⟨lw_p67, List.forall_mem_cons.mpr ⟨lw_p68, List.forall_mem_cons.mpr ⟨lw_p69, List.forall_mem_cons.mpr ⟨lw_p70, List.forall_mem_cons.mpr ⟨lw_p71, List.forall_mem_cons.mpr ⟨lw_p72, List.forall_mem_cons.mpr ⟨lw_p73, List.forall_mem_cons.mpr ⟨lw_p74, List.forall_mem_cons.mpr ⟨lw_p75, List.forall_mem_cons.mpr ⟨lw_p76, List.forall_mem_cons.mpr ⟨lw_p77, List.forall_mem_cons.mpr ⟨lw_p78, List.forall_mem_cons.mpr ⟨lw_p79, fun _ h => absurd h List.not_mem_nil⟩⟩⟩⟩⟩⟩⟩⟩⟩⟩⟩⟩⟩⟩⟩⟩
theorem lw_p80 : lw_okq (⟨"IceParliamentModel", "readNights", "()V"⟩, 40) := ⟨⟨by decide +kernel, by decide +kernel⟩, List.mem_of_getElem? (i := 1488) (by decide +kernel), List.mem_of_getElem? (i := 1773) (by decide +kernel), List.mem_of_getElem? (i := 1774) (by decide +kernel)⟩
theorem lw_p81 : lw_okq (⟨"IceParliamentModel", "all", "(I)V"⟩, 40) := ⟨⟨by decide +kernel, by decide +kernel⟩, List.mem_of_getElem? (i := 1488) (by decide +kernel), List.mem_of_getElem? (i := 1777) (by decide +kernel), List.mem_of_getElem? (i := 1778) (by decide +kernel)⟩
theorem lw_p82 : lw_okq (⟨"IceParliamentModel", "test", "(I)V"⟩, 40) := ⟨⟨by decide +kernel, by decide +kernel⟩, List.mem_of_getElem? (i := 1488) (by decide +kernel), List.mem_of_getElem? (i := 1781) (by decide +kernel), List.mem_of_getElem? (i := 1782) (by decide +kernel)⟩
theorem lw_p83 : lw_okq (⟨"IceParliamentModel", "sums", "(I)V"⟩, 40) := ⟨⟨by decide +kernel, by decide +kernel⟩, List.mem_of_getElem? (i := 1488) (by decide +kernel), List.mem_of_getElem? (i := 1785) (by decide +kernel), List.mem_of_getElem? (i := 1786) (by decide +kernel)⟩
theorem lw_p84 : lw_okq (⟨"IceParliamentModel", "products", "(I)V"⟩, 40) := ⟨⟨by decide +kernel, by decide +kernel⟩, List.mem_of_getElem? (i := 1488) (by decide +kernel), List.mem_of_getElem? (i := 1789) (by decide +kernel), List.mem_of_getElem? (i := 1790) (by decide +kernel)⟩
theorem lw_p85 : lw_okq (⟨"IceParliamentModel", "takePart", "(I)V"⟩, 40) := ⟨⟨by decide +kernel, by decide +kernel⟩, List.mem_of_getElem? (i := 1488) (by decide +kernel), List.mem_of_getElem? (i := 1793) (by decide +kernel), List.mem_of_getElem? (i := 1794) (by decide +kernel)⟩
theorem lw_p86 : lw_okq (⟨"IceParliamentModel", "isSign", "(I)Z"⟩, 40) := ⟨⟨by decide +kernel, by decide +kernel⟩, List.mem_of_getElem? (i := 1488) (by decide +kernel), List.mem_of_getElem? (i := 1797) (by decide +kernel), List.mem_of_getElem? (i := 1798) (by decide +kernel)⟩
theorem lw_p87 : lw_okq (⟨"IceParliamentModel", "emit", "(II)V"⟩, 40) := ⟨⟨by decide +kernel, by decide +kernel⟩, List.mem_of_getElem? (i := 1488) (by decide +kernel), List.mem_of_getElem? (i := 1801) (by decide +kernel), List.mem_of_getElem? (i := 1802) (by decide +kernel)⟩
theorem lw_p88 : lw_okq (⟨"IceParliamentModel", "hasSign", "(I)Z"⟩, 40) := ⟨⟨by decide +kernel, by decide +kernel⟩, List.mem_of_getElem? (i := 1488) (by decide +kernel), List.mem_of_getElem? (i := 1805) (by decide +kernel), List.mem_of_getElem? (i := 1806) (by decide +kernel)⟩
theorem lw_p89 : lw_okq (⟨"IceParliamentModel", "takeSign", "(I)V"⟩, 40) := ⟨⟨by decide +kernel, by decide +kernel⟩, List.mem_of_getElem? (i := 1488) (by decide +kernel), List.mem_of_getElem? (i := 1809) (by decide +kernel), List.mem_of_getElem? (i := 1810) (by decide +kernel)⟩
theorem lw_p90 : lw_okq (⟨"IceParliamentModel", "isAct", "(I)Z"⟩, 40) := ⟨⟨by decide +kernel, by decide +kernel⟩, List.mem_of_getElem? (i := 1488) (by decide +kernel), List.mem_of_getElem? (i := 1821) (by decide +kernel), List.mem_of_getElem? (i := 1822) (by decide +kernel)⟩
theorem lw_p91 : lw_okq (⟨"IceParliamentModel", "stood", "(II)Z"⟩, 40) := ⟨⟨by decide +kernel, by decide +kernel⟩, List.mem_of_getElem? (i := 1488) (by decide +kernel), List.mem_of_getElem? (i := 1825) (by decide +kernel), List.mem_of_getElem? (i := 1826) (by decide +kernel)⟩
theorem lw_p92 : lw_okq (⟨"IceParliamentModel", "needs", "(I)I"⟩, 40) := ⟨⟨by decide +kernel, by decide +kernel⟩, List.mem_of_getElem? (i := 1488) (by decide +kernel), List.mem_of_getElem? (i := 1829) (by decide +kernel), List.mem_of_getElem? (i := 1830) (by decide +kernel)⟩
theorem lw_p93 : lw_okq (⟨"IceParliamentModel", "inForce", "(II)Z"⟩, 40) := ⟨⟨by decide +kernel, by decide +kernel⟩, List.mem_of_getElem? (i := 1488) (by decide +kernel), List.mem_of_getElem? (i := 1833) (by decide +kernel), List.mem_of_getElem? (i := 1834) (by decide +kernel)⟩
theorem lw_p94 : lw_okq (⟨"IceParliamentModel", "meltsNow", "(IIZ)I"⟩, 40) := ⟨⟨by decide +kernel, by decide +kernel⟩, List.mem_of_getElem? (i := 1488) (by decide +kernel), List.mem_of_getElem? (i := 1837) (by decide +kernel), List.mem_of_getElem? (i := 1838) (by decide +kernel)⟩
theorem lw_p95 : lw_okq (⟨"IceParliamentModel", "meltOf", "(IIIIZ)I"⟩, 40) := ⟨⟨by decide +kernel, by decide +kernel⟩, List.mem_of_getElem? (i := 1488) (by decide +kernel), List.mem_of_getElem? (i := 1841) (by decide +kernel), List.mem_of_getElem? (i := 1842) (by decide +kernel)⟩
def lw_privs_6 : List (MethodName × Nat) := [(⟨"IceParliamentModel", "readNights", "()V"⟩, 40), (⟨"IceParliamentModel", "all", "(I)V"⟩, 40), (⟨"IceParliamentModel", "test", "(I)V"⟩, 40), (⟨"IceParliamentModel", "sums", "(I)V"⟩, 40), (⟨"IceParliamentModel", "products", "(I)V"⟩, 40), (⟨"IceParliamentModel", "takePart", "(I)V"⟩, 40), (⟨"IceParliamentModel", "isSign", "(I)Z"⟩, 40), (⟨"IceParliamentModel", "emit", "(II)V"⟩, 40), (⟨"IceParliamentModel", "hasSign", "(I)Z"⟩, 40), (⟨"IceParliamentModel", "takeSign", "(I)V"⟩, 40), (⟨"IceParliamentModel", "isAct", "(I)Z"⟩, 40), (⟨"IceParliamentModel", "stood", "(II)Z"⟩, 40), (⟨"IceParliamentModel", "needs", "(I)I"⟩, 40), (⟨"IceParliamentModel", "inForce", "(II)Z"⟩, 40), (⟨"IceParliamentModel", "meltsNow", "(IIZ)I"⟩, 40), (⟨"IceParliamentModel", "meltOf", "(IIIIZ)I"⟩, 40)]
theorem lw_r6 : ∀ q ∈ lw_privs_6, lw_okq q := List.forall_mem_cons.mpr ⟨lw_p80, List.forall_mem_cons.mpr ⟨lw_p81, List.forall_mem_cons.mpr ⟨lw_p82, List.forall_mem_cons.mpr ⟨lw_p83, List.forall_mem_cons.mpr ⟨lw_p84, List.forall_mem_cons.mpr ⟨lw_p85, List.forall_mem_cons.mpr ⟨lw_p86, List.forall_mem_cons.mpr ⟨lw_p87, List.forall_mem_cons.mpr ⟨lw_p88, List.forall_mem_cons.mpr ⟨lw_p89, List.forall_mem_cons.mpr ⟨lw_p90, List.forall_mem_cons.mpr ⟨lw_p91, List.forall_mem_cons.mpr ⟨lw_p92, List.forall_mem_cons.mpr ⟨lw_p93, List.forall_mem_cons.mpr ⟨lw_p94, List.forall_mem_cons.mpr ⟨lw_p95, fun _ h => absurd h List.not_mem_nil⟩⟩⟩⟩⟩⟩⟩⟩⟩⟩⟩⟩⟩⟩⟩⟩
theorem lw_p96 : lw_okq (⟨"IceParliamentModel", "warmthOf", "(IZ)I"⟩, 40) := ⟨⟨by decide +kernel, by decide +kernel⟩, List.mem_of_getElem? (i := 1488) (by decide +kernel), List.mem_of_getElem? (i := 1845) (by decide +kernel), List.mem_of_getElem? (i := 1846) (by decide +kernel)⟩
theorem lw_p97 : lw_okq (⟨"IceParliamentModel", "worthAt", "(I)I"⟩, 40) := ⟨⟨by decide +kernel, by decide +kernel⟩, List.mem_of_getElem? (i := 1488) (by decide +kernel), List.mem_of_getElem? (i := 1849) (by decide +kernel), List.mem_of_getElem? (i := 1850) (by decide +kernel)⟩
theorem lw_p98 : lw_okq (⟨"IceParliamentModel", "isCarver", "(I)Z"⟩, 40) := ⟨⟨by decide +kernel, by decide +kernel⟩, List.mem_of_getElem? (i := 1488) (by decide +kernel), List.mem_of_getElem? (i := 1860) (by decide +kernel), List.mem_of_getElem? (i := 1861) (by decide +kernel)⟩
theorem lw_p99 : lw_okq (⟨"IceParliamentModel", "carvers", "()I"⟩, 40) := ⟨⟨by decide +kernel, by decide +kernel⟩, List.mem_of_getElem? (i := 1488) (by decide +kernel), List.mem_of_getElem? (i := 1864) (by decide +kernel), List.mem_of_getElem? (i := 1865) (by decide +kernel)⟩
theorem lw_p100 : lw_okq (⟨"IceParliamentModel", "forceOf", "(I)I"⟩, 40) := ⟨⟨by decide +kernel, by decide +kernel⟩, List.mem_of_getElem? (i := 1488) (by decide +kernel), List.mem_of_getElem? (i := 1872) (by decide +kernel), List.mem_of_getElem? (i := 1873) (by decide +kernel)⟩
theorem lw_p101 : lw_okq (⟨"IceParliamentModel", "worthOf", "(I)I"⟩, 40) := ⟨⟨by decide +kernel, by decide +kernel⟩, List.mem_of_getElem? (i := 1488) (by decide +kernel), List.mem_of_getElem? (i := 1880) (by decide +kernel), List.mem_of_getElem? (i := 1881) (by decide +kernel)⟩
theorem lw_p102 : lw_okq (⟨"IceParliamentModel", "isSpot", "(I)Z"⟩, 40) := ⟨⟨by decide +kernel, by decide +kernel⟩, List.mem_of_getElem? (i := 1488) (by decide +kernel), List.mem_of_getElem? (i := 1888) (by decide +kernel), List.mem_of_getElem? (i := 1889) (by decide +kernel)⟩
theorem lw_p103 : lw_okq (⟨"IceParliamentModel", "spots", "()I"⟩, 40) := ⟨⟨by decide +kernel, by decide +kernel⟩, List.mem_of_getElem? (i := 1488) (by decide +kernel), List.mem_of_getElem? (i := 1892) (by decide +kernel), List.mem_of_getElem? (i := 1893) (by decide +kernel)⟩
theorem lw_p104 : lw_okq (⟨"IceParliamentModel", "mayBegin", "(III)Z"⟩, 40) := ⟨⟨by decide +kernel, by decide +kernel⟩, List.mem_of_getElem? (i := 1488) (by decide +kernel), List.mem_of_getElem? (i := 1896) (by decide +kernel), List.mem_of_getElem? (i := 1897) (by decide +kernel)⟩
theorem lw_p105 : lw_okq (⟨"IceParliamentModel", "isFree", "(II)Z"⟩, 40) := ⟨⟨by decide +kernel, by decide +kernel⟩, List.mem_of_getElem? (i := 1488) (by decide +kernel), List.mem_of_getElem? (i := 1900) (by decide +kernel), List.mem_of_getElem? (i := 1901) (by decide +kernel)⟩
theorem lw_p106 : lw_okq (⟨"IceParliamentModel", "keeps", "()V"⟩, 40) := ⟨⟨by decide +kernel, by decide +kernel⟩, List.mem_of_getElem? (i := 1488) (by decide +kernel), List.mem_of_getElem? (i := 1904) (by decide +kernel), List.mem_of_getElem? (i := 1905) (by decide +kernel)⟩
theorem lw_p107 : lw_okq (⟨"IceParliamentModel", "copies", "(II)V"⟩, 40) := ⟨⟨by decide +kernel, by decide +kernel⟩, List.mem_of_getElem? (i := 1488) (by decide +kernel), List.mem_of_getElem? (i := 1908) (by decide +kernel), List.mem_of_getElem? (i := 1909) (by decide +kernel)⟩
theorem lw_p108 : lw_okq (⟨"IceParliamentModel", "puts", "(III)V"⟩, 40) := ⟨⟨by decide +kernel, by decide +kernel⟩, List.mem_of_getElem? (i := 1488) (by decide +kernel), List.mem_of_getElem? (i := 1912) (by decide +kernel), List.mem_of_getElem? (i := 1913) (by decide +kernel)⟩
theorem lw_p109 : lw_okq (⟨"IceParliamentModel", "mayCarve", "(III)Z"⟩, 40) := ⟨⟨by decide +kernel, by decide +kernel⟩, List.mem_of_getElem? (i := 1488) (by decide +kernel), List.mem_of_getElem? (i := 1920) (by decide +kernel), List.mem_of_getElem? (i := 1921) (by decide +kernel)⟩
theorem lw_p110 : lw_okq (⟨"IceParliamentModel", "chips", "(III)I"⟩, 40) := ⟨⟨by decide +kernel, by decide +kernel⟩, List.mem_of_getElem? (i := 1488) (by decide +kernel), List.mem_of_getElem? (i := 1924) (by decide +kernel), List.mem_of_getElem? (i := 1925) (by decide +kernel)⟩
theorem lw_p111 : lw_okq (⟨"IceParliamentModel", "mayProp", "(II)Z"⟩, 40) := ⟨⟨by decide +kernel, by decide +kernel⟩, List.mem_of_getElem? (i := 1488) (by decide +kernel), List.mem_of_getElem? (i := 1932) (by decide +kernel), List.mem_of_getElem? (i := 1933) (by decide +kernel)⟩
def lw_privs_7 : List (MethodName × Nat) := [(⟨"IceParliamentModel", "warmthOf", "(IZ)I"⟩, 40), (⟨"IceParliamentModel", "worthAt", "(I)I"⟩, 40), (⟨"IceParliamentModel", "isCarver", "(I)Z"⟩, 40), (⟨"IceParliamentModel", "carvers", "()I"⟩, 40), (⟨"IceParliamentModel", "forceOf", "(I)I"⟩, 40), (⟨"IceParliamentModel", "worthOf", "(I)I"⟩, 40), (⟨"IceParliamentModel", "isSpot", "(I)Z"⟩, 40), (⟨"IceParliamentModel", "spots", "()I"⟩, 40), (⟨"IceParliamentModel", "mayBegin", "(III)Z"⟩, 40), (⟨"IceParliamentModel", "isFree", "(II)Z"⟩, 40), (⟨"IceParliamentModel", "keeps", "()V"⟩, 40), (⟨"IceParliamentModel", "copies", "(II)V"⟩, 40), (⟨"IceParliamentModel", "puts", "(III)V"⟩, 40), (⟨"IceParliamentModel", "mayCarve", "(III)Z"⟩, 40), (⟨"IceParliamentModel", "chips", "(III)I"⟩, 40), (⟨"IceParliamentModel", "mayProp", "(II)Z"⟩, 40)]
theorem lw_r7 : ∀ q ∈ lw_privs_7, lw_okq q := List.forall_mem_cons.mpr ⟨lw_p96, List.forall_mem_cons.mpr ⟨lw_p97, List.forall_mem_cons.mpr ⟨lw_p98, List.forall_mem_cons.mpr ⟨lw_p99, List.forall_mem_cons.mpr ⟨lw_p100, List.forall_mem_cons.mpr ⟨lw_p101, List.forall_mem_cons.mpr ⟨lw_p102, List.forall_mem_cons.mpr ⟨lw_p103, List.forall_mem_cons.mpr ⟨lw_p104, List.forall_mem_cons.mpr ⟨lw_p105, List.forall_mem_cons.mpr ⟨lw_p106, List.forall_mem_cons.mpr ⟨lw_p107, List.forall_mem_cons.mpr ⟨lw_p108, List.forall_mem_cons.mpr ⟨lw_p109, List.forall_mem_cons.mpr ⟨lw_p110, List.forall_mem_cons.mpr ⟨lw_p111, fun _ h => absurd h List.not_mem_nil⟩⟩⟩⟩⟩⟩⟩⟩⟩⟩⟩⟩⟩⟩⟩⟩
theorem lw_p112 : lw_okq (⟨"IceParliamentModel", "burns", "(II)I"⟩, 40) := ⟨⟨by decide +kernel, by decide +kernel⟩, List.mem_of_getElem? (i := 1488) (by decide +kernel), List.mem_of_getElem? (i := 1940) (by decide +kernel), List.mem_of_getElem? (i := 1941) (by decide +kernel)⟩
theorem lw_p113 : lw_okq (⟨"IceParliamentModel", "passes", "(IZ)I"⟩, 40) := ⟨⟨by decide +kernel, by decide +kernel⟩, List.mem_of_getElem? (i := 1488) (by decide +kernel), List.mem_of_getElem? (i := 1948) (by decide +kernel), List.mem_of_getElem? (i := 1949) (by decide +kernel)⟩
theorem lw_p114 : lw_okq (⟨"IceParliamentModel", "tallThen", "(IIZ)I"⟩, 40) := ⟨⟨by decide +kernel, by decide +kernel⟩, List.mem_of_getElem? (i := 1488) (by decide +kernel), List.mem_of_getElem? (i := 1952) (by decide +kernel), List.mem_of_getElem? (i := 1953) (by decide +kernel)⟩
theorem lw_p115 : lw_okq (⟨"IceParliamentModel", "does", "(III)Z"⟩, 40) := ⟨⟨by decide +kernel, by decide +kernel⟩, List.mem_of_getElem? (i := 1488) (by decide +kernel), List.mem_of_getElem? (i := 1964) (by decide +kernel), List.mem_of_getElem? (i := 1965) (by decide +kernel)⟩
theorem lw_p116 : lw_okq (⟨"IceParliamentModel", "clashesIn", "(I)I"⟩, 40) := ⟨⟨by decide +kernel, by decide +kernel⟩, List.mem_of_getElem? (i := 1488) (by decide +kernel), List.mem_of_getElem? (i := 1976) (by decide +kernel), List.mem_of_getElem? (i := 1977) (by decide +kernel)⟩
theorem lw_p117 : lw_okq (⟨"IceParliamentModel", "findTakers", "()V"⟩, 40) := ⟨⟨by decide +kernel, by decide +kernel⟩, List.mem_of_getElem? (i := 1488) (by decide +kernel), List.mem_of_getElem? (i := 1988) (by decide +kernel), List.mem_of_getElem? (i := 1989) (by decide +kernel)⟩
theorem lw_p118 : lw_okq (⟨"IceParliamentModel", "works", "(II)V"⟩, 40) := ⟨⟨by decide +kernel, by decide +kernel⟩, List.mem_of_getElem? (i := 1488) (by decide +kernel), List.mem_of_getElem? (i := 1992) (by decide +kernel), List.mem_of_getElem? (i := 1993) (by decide +kernel)⟩
theorem lw_p119 : lw_okq (⟨"IceParliamentModel", "worksBy", "(I)V"⟩, 40) := ⟨⟨by decide +kernel, by decide +kernel⟩, List.mem_of_getElem? (i := 1488) (by decide +kernel), List.mem_of_getElem? (i := 1996) (by decide +kernel), List.mem_of_getElem? (i := 1997) (by decide +kernel)⟩
theorem lw_p120 : lw_okq (⟨"IceParliamentModel", "nightsAt", "(III)I"⟩, 40) := ⟨⟨by decide +kernel, by decide +kernel⟩, List.mem_of_getElem? (i := 1488) (by decide +kernel), List.mem_of_getElem? (i := 2004) (by decide +kernel), List.mem_of_getElem? (i := 2005) (by decide +kernel)⟩
theorem lw_p121 : lw_okq (⟨"IceParliamentModel", "laysPlaces", "(IIII)V"⟩, 40) := ⟨⟨by decide +kernel, by decide +kernel⟩, List.mem_of_getElem? (i := 1488) (by decide +kernel), List.mem_of_getElem? (i := 2008) (by decide +kernel), List.mem_of_getElem? (i := 2009) (by decide +kernel)⟩
theorem lw_p122 : lw_okq (⟨"IceParliamentModel", "standing", "(IIIIII)J"⟩, 40) := ⟨⟨by decide +kernel, by decide +kernel⟩, List.mem_of_getElem? (i := 1488) (by decide +kernel), List.mem_of_getElem? (i := 2020) (by decide +kernel), List.mem_of_getElem? (i := 2021) (by decide +kernel)⟩
theorem lw_p123 : lw_okq (⟨"IceParliamentModel", "worthBehind", "(II)I"⟩, 40) := ⟨⟨by decide +kernel, by decide +kernel⟩, List.mem_of_getElem? (i := 1488) (by decide +kernel), List.mem_of_getElem? (i := 2029) (by decide +kernel), List.mem_of_getElem? (i := 2030) (by decide +kernel)⟩
theorem lw_p124 : lw_okq (⟨"IceParliamentModel", "fitsTold", "(I)Z"⟩, 40) := ⟨⟨by decide +kernel, by decide +kernel⟩, List.mem_of_getElem? (i := 1488) (by decide +kernel), List.mem_of_getElem? (i := 2041) (by decide +kernel), List.mem_of_getElem? (i := 2042) (by decide +kernel)⟩
theorem lw_p125 : lw_okq (⟨"IceParliamentModel", "carvedSet", "()I"⟩, 40) := ⟨⟨by decide +kernel, by decide +kernel⟩, List.mem_of_getElem? (i := 1488) (by decide +kernel), List.mem_of_getElem? (i := 2045) (by decide +kernel), List.mem_of_getElem? (i := 2046) (by decide +kernel)⟩
theorem lw_p126 : lw_okq (⟨"IceParliamentModel", "tallBy", "(II)I"⟩, 40) := ⟨⟨by decide +kernel, by decide +kernel⟩, List.mem_of_getElem? (i := 1488) (by decide +kernel), List.mem_of_getElem? (i := 2049) (by decide +kernel), List.mem_of_getElem? (i := 2050) (by decide +kernel)⟩
theorem lw_p127 : lw_okq (⟨"IceParliamentModel", "greatestAt", "(I)I"⟩, 40) := ⟨⟨by decide +kernel, by decide +kernel⟩, List.mem_of_getElem? (i := 1488) (by decide +kernel), List.mem_of_getElem? (i := 2057) (by decide +kernel), List.mem_of_getElem? (i := 2058) (by decide +kernel)⟩
def lw_privs_8 : List (MethodName × Nat) := [(⟨"IceParliamentModel", "burns", "(II)I"⟩, 40), (⟨"IceParliamentModel", "passes", "(IZ)I"⟩, 40), (⟨"IceParliamentModel", "tallThen", "(IIZ)I"⟩, 40), (⟨"IceParliamentModel", "does", "(III)Z"⟩, 40), (⟨"IceParliamentModel", "clashesIn", "(I)I"⟩, 40), (⟨"IceParliamentModel", "findTakers", "()V"⟩, 40), (⟨"IceParliamentModel", "works", "(II)V"⟩, 40), (⟨"IceParliamentModel", "worksBy", "(I)V"⟩, 40), (⟨"IceParliamentModel", "nightsAt", "(III)I"⟩, 40), (⟨"IceParliamentModel", "laysPlaces", "(IIII)V"⟩, 40), (⟨"IceParliamentModel", "standing", "(IIIIII)J"⟩, 40), (⟨"IceParliamentModel", "worthBehind", "(II)I"⟩, 40), (⟨"IceParliamentModel", "fitsTold", "(I)Z"⟩, 40), (⟨"IceParliamentModel", "carvedSet", "()I"⟩, 40), (⟨"IceParliamentModel", "tallBy", "(II)I"⟩, 40), (⟨"IceParliamentModel", "greatestAt", "(I)I"⟩, 40)]
theorem lw_r8 : ∀ q ∈ lw_privs_8, lw_okq q := List.forall_mem_cons.mpr ⟨lw_p112, List.forall_mem_cons.mpr ⟨lw_p113, List.forall_mem_cons.mpr ⟨lw_p114, List.forall_mem_cons.mpr ⟨lw_p115, List.forall_mem_cons.mpr ⟨lw_p116, List.forall_mem_cons.mpr ⟨lw_p117, List.forall_mem_cons.mpr ⟨lw_p118, List.forall_mem_cons.mpr ⟨lw_p119, List.forall_mem_cons.mpr ⟨lw_p120, List.forall_mem_cons.mpr ⟨lw_p121, List.forall_mem_cons.mpr ⟨lw_p122, List.forall_mem_cons.mpr ⟨lw_p123, List.forall_mem_cons.mpr ⟨lw_p124, List.forall_mem_cons.mpr ⟨lw_p125, List.forall_mem_cons.mpr ⟨lw_p126, List.forall_mem_cons.mpr ⟨lw_p127, fun _ h => absurd h List.not_mem_nil⟩⟩⟩⟩⟩⟩⟩⟩⟩⟩⟩⟩⟩⟩⟩⟩
theorem lw_p128 : lw_okq (⟨"IceParliamentModel", "drawsNight", "()I"⟩, 40) := ⟨⟨by decide +kernel, by decide +kernel⟩, List.mem_of_getElem? (i := 1488) (by decide +kernel), List.mem_of_getElem? (i := 2072) (by decide +kernel), List.mem_of_getElem? (i := 2073) (by decide +kernel)⟩
theorem lw_p129 : lw_okq (⟨"IceParliamentModel", "draw", "(I)I"⟩, 40) := ⟨⟨by decide +kernel, by decide +kernel⟩, List.mem_of_getElem? (i := 1488) (by decide +kernel), List.mem_of_getElem? (i := 2076) (by decide +kernel), List.mem_of_getElem? (i := 2077) (by decide +kernel)⟩
theorem lw_p130 : lw_okq (⟨"IceParliamentModel", "howMany", "(I)I"⟩, 40) := ⟨⟨by decide +kernel, by decide +kernel⟩, List.mem_of_getElem? (i := 1488) (by decide +kernel), List.mem_of_getElem? (i := 2092) (by decide +kernel), List.mem_of_getElem? (i := 2093) (by decide +kernel)⟩
theorem lw_p131 : lw_okq (⟨"IceParliamentModel", "toldMany", "()I"⟩, 40) := ⟨⟨by decide +kernel, by decide +kernel⟩, List.mem_of_getElem? (i := 1488) (by decide +kernel), List.mem_of_getElem? (i := 2096) (by decide +kernel), List.mem_of_getElem? (i := 2097) (by decide +kernel)⟩
def lw_privs_9 : List (MethodName × Nat) := [(⟨"IceParliamentModel", "drawsNight", "()I"⟩, 40), (⟨"IceParliamentModel", "draw", "(I)I"⟩, 40), (⟨"IceParliamentModel", "howMany", "(I)I"⟩, 40), (⟨"IceParliamentModel", "toldMany", "()I"⟩, 40)]
theorem lw_r9 : ∀ q ∈ lw_privs_9, lw_okq q := List.forall_mem_cons.mpr ⟨lw_p128, List.forall_mem_cons.mpr ⟨lw_p129, List.forall_mem_cons.mpr ⟨lw_p130, List.forall_mem_cons.mpr ⟨lw_p131, fun _ h => absurd h List.not_mem_nil⟩⟩⟩⟩
def lw_privs : List (MethodName × Nat) := lw_privs_1 ++ (lw_privs_2 ++ (lw_privs_3 ++ (lw_privs_4 ++ (lw_privs_5 ++ (lw_privs_6 ++ (lw_privs_7 ++ (lw_privs_8 ++ (lw_privs_9))))))))
def lw_tbl : List Cond := k2_sels lw_privs ++ tables_1
theorem lw_privs_ok : ∀ q ∈ lw_privs, lw_okq q := by
  show ∀ q ∈ lw_privs_1 ++ (lw_privs_2 ++ (lw_privs_3 ++ (lw_privs_4 ++ (lw_privs_5 ++ (lw_privs_6 ++ (lw_privs_7 ++ (lw_privs_8 ++ (lw_privs_9)))))))), lw_okq q
  exact List.forall_mem_append.mpr ⟨lw_r1, List.forall_mem_append.mpr ⟨lw_r2, List.forall_mem_append.mpr ⟨lw_r3, List.forall_mem_append.mpr ⟨lw_r4, List.forall_mem_append.mpr ⟨lw_r5, List.forall_mem_append.mpr ⟨lw_r6, List.forall_mem_append.mpr ⟨lw_r7, List.forall_mem_append.mpr ⟨lw_r8, lw_r9⟩⟩⟩⟩⟩⟩⟩⟩
def RX0 : String := "IceParliament$Breath"
def TX0 : u_T := fun k => match k with
  | 0 => ("IceParliament$Breath", "size", "I", false)
  | 1 => ("IceParliament$Breath", "yard", "LIceParliament$Yard;", true)
  | 2 => ("IceParliament$Breath", "now", "LIceParliament$State;", true)
  | 3 => ("IceParliament$Breath", "fits", "[I", true)
  | 4 => ("IceParliament$Breath", "calm", "[I", true)
  | 5 => ("IceParliament$Breath", "mouths", "[I", true)
  | _ => ("IceParliament$Breath", "alike", "[I", true)
def tyX0 : Nat → FieldType := fun k => match k with
  | 0 => .int
  | 1 => .object "IceParliament$Yard"
  | 2 => .object "IceParliament$State"
  | 3 => .array .int
  | 4 => .array .int
  | 5 => .array .int
  | _ => .array .int
abbrev wsX00 : List Cond := u_ws RX0 TX0 7
theorem nmX0 : ∀ a, a < 7 → ∀ b, b < 7 → a ≠ b → (TX0 a).2.1 ≠ (TX0 b).2.1 := by decide +kernel
theorem tyX0_ok : ∀ k, k < 7 → parseFieldDescriptor (TX0 k).2.2.1 = some (tyX0 k) := by decide +kernel
def RX1 : String := "IceParliament$Law"
def TX1 : u_T := fun k => match k with
  | 0 => ("IceParliament$Law", "told", "Z", false)
  | 1 => ("IceParliament$Law", "code", "[I", true)
  | 2 => ("IceParliament$Law", "size", "I", false)
  | _ => ("IceParliament$Law", "stack", "[I", true)
def tyX1 : Nat → FieldType := fun k => match k with
  | 0 => .boolean
  | 1 => .array .int
  | 2 => .int
  | _ => .array .int
abbrev wsX10 : List Cond := u_ws RX1 TX1 4
theorem nmX1 : ∀ a, a < 4 → ∀ b, b < 4 → a ≠ b → (TX1 a).2.1 ≠ (TX1 b).2.1 := by decide +kernel
theorem tyX1_ok : ∀ k, k < 4 → parseFieldDescriptor (TX1 k).2.2.1 = some (tyX1 k) := by decide +kernel
def RX2 : String := "IceParliament$LawReader"
def TX2 : u_T := fun k => match k with
  | 0 => ("IceParliament$LawReader", "tape", "LIceParliament$Tape;", true)
  | 1 => ("IceParliament$LawReader", "open", "[I", true)
  | 2 => ("IceParliament$LawReader", "opens", "I", false)
  | 3 => ("IceParliament$LawReader", "nested", "I", false)
  | 4 => ("IceParliament$LawReader", "law", "LIceParliament$Law;", false)
  | _ => ("IceParliament$LawReader", "melting", "Z", false)
def tyX2 : Nat → FieldType := fun k => match k with
  | 0 => .object "IceParliament$Tape"
  | 1 => .array .int
  | 2 => .int
  | 3 => .int
  | 4 => .object "IceParliament$Law"
  | _ => .boolean
abbrev wsX20 : List Cond := u_ws RX2 TX2 6
theorem nmX2 : ∀ a, a < 6 → ∀ b, b < 6 → a ≠ b → (TX2 a).2.1 ≠ (TX2 b).2.1 := by decide +kernel
theorem tyX2_ok : ∀ k, k < 6 → parseFieldDescriptor (TX2 k).2.2.1 = some (tyX2 k) := by decide +kernel
def RX3 : String := "IceParliament$Planner"
def TX3 : u_T := fun k => match k with
  | 0 => ("IceParliament$Planner", "takes", "[I", true)
  | 1 => ("IceParliament$Planner", "placeOf", "[I", true)
  | 2 => ("IceParliament$Planner", "yard", "LIceParliament$Yard;", true)
  | 3 => ("IceParliament$Planner", "now", "LIceParliament$State;", true)
  | 4 => ("IceParliament$Planner", "worker", "[I", true)
  | 5 => ("IceParliament$Planner", "workers", "I", false)
  | 6 => ("IceParliament$Planner", "standing", "[I", true)
  | 7 => ("IceParliament$Planner", "stand", "I", false)
  | 8 => ("IceParliament$Planner", "worthBy", "[[I", true)
  | 9 => ("IceParliament$Planner", "row", "[I", true)
  | 10 => ("IceParliament$Planner", "crew", "[I", true)
  | 11 => ("IceParliament$Planner", "gain", "[[I", true)
  | 12 => ("IceParliament$Planner", "best", "[[I", true)
  | 13 => ("IceParliament$Planner", "odds", "[J", true)
  | _ => ("IceParliament$Planner", "later", "[J", true)
def tyX3 : Nat → FieldType := fun k => match k with
  | 0 => .array .int
  | 1 => .array .int
  | 2 => .object "IceParliament$Yard"
  | 3 => .object "IceParliament$State"
  | 4 => .array .int
  | 5 => .int
  | 6 => .array .int
  | 7 => .int
  | 8 => .array (.array .int)
  | 9 => .array .int
  | 10 => .array .int
  | 11 => .array (.array .int)
  | 12 => .array (.array .int)
  | 13 => .array .long
  | _ => .array .long
abbrev wsX30 : List Cond := u_ws RX3 TX3 15
theorem nmX3 : ∀ a, a < 15 → ∀ b, b < 15 → a ≠ b → (TX3 a).2.1 ≠ (TX3 b).2.1 := by decide +kernel
theorem tyX3_ok : ∀ k, k < 15 → parseFieldDescriptor (TX3 k).2.2.1 = some (tyX3 k) := by decide +kernel
def RX4 : String := "IceParliament$Roll"
def TX4 : u_T := fun k => match k with
  | 0 => ("IceParliament$Roll", "size", "I", false)
  | _ => ("IceParliament$Roll", "names", "[J", true)
def tyX4 : Nat → FieldType := fun k => match k with
  | 0 => .int
  | _ => .array .long
abbrev wsX40 : List Cond := u_ws RX4 TX4 2
theorem nmX4 : ∀ a, a < 2 → ∀ b, b < 2 → a ≠ b → (TX4 a).2.1 ≠ (TX4 b).2.1 := by decide +kernel
theorem tyX4_ok : ∀ k, k < 2 → parseFieldDescriptor (TX4 k).2.2.1 = some (tyX4 k) := by decide +kernel
def RX5 : String := "IceParliament$Session"
def TX5 : u_T := fun k => match k with
  | 0 => ("IceParliament$Session", "deed", "[I", true)
  | 1 => ("IceParliament$Session", "first", "[I", true)
  | 2 => ("IceParliament$Session", "second", "[I", true)
  | _ => ("IceParliament$Session", "size", "I", false)
def tyX5 : Nat → FieldType := fun k => match k with
  | 0 => .array .int
  | 1 => .array .int
  | 2 => .array .int
  | _ => .int
abbrev wsX50 : List Cond := u_ws RX5 TX5 4
theorem nmX5 : ∀ a, a < 4 → ∀ b, b < 4 → a ≠ b → (TX5 a).2.1 ≠ (TX5 b).2.1 := by decide +kernel
theorem tyX5_ok : ∀ k, k < 4 → parseFieldDescriptor (TX5 k).2.2.1 = some (tyX5 k) := by decide +kernel
def RX6 : String := "IceParliament$State"
def TX6 : u_T := fun k => match k with
  | 0 => ("IceParliament$State", "night", "I", false)
  | 1 => ("IceParliament$State", "feet", "[I", true)
  | 2 => ("IceParliament$State", "chips", "[I", true)
  | 3 => ("IceParliament$State", "props", "[I", true)
  | 4 => ("IceParliament$State", "spot", "[I", true)
  | 5 => ("IceParliament$State", "carved", "[I", true)
  | 6 => ("IceParliament$State", "told", "[I", true)
  | 7 => ("IceParliament$State", "begun", "I", false)
  | 8 => ("IceParliament$State", "fallen", "I", false)
  | 9 => ("IceParliament$State", "hurt", "I", false)
  | _ => ("IceParliament$State", "yard", "LIceParliament$Yard;", true)
def tyX6 : Nat → FieldType := fun k => match k with
  | 0 => .int
  | 1 => .array .int
  | 2 => .array .int
  | 3 => .array .int
  | 4 => .array .int
  | 5 => .array .int
  | 6 => .array .int
  | 7 => .int
  | 8 => .int
  | 9 => .int
  | _ => .object "IceParliament$Yard"
abbrev wsX60 : List Cond := u_ws RX6 TX6 11
theorem nmX6 : ∀ a, a < 11 → ∀ b, b < 11 → a ≠ b → (TX6 a).2.1 ≠ (TX6 b).2.1 := by decide +kernel
theorem tyX6_ok : ∀ k, k < 11 → parseFieldDescriptor (TX6 k).2.2.1 = some (tyX6 k) := by decide +kernel
def RX7 : String := "IceParliament$Tape"
def TX7 : u_T := fun k => match k with
  | 0 => ("IceParliament$Tape", "size", "I", false)
  | 1 => ("IceParliament$Tape", "fault", "I", false)
  | 2 => ("IceParliament$Tape", "number", "I", false)
  | 3 => ("IceParliament$Tape", "found", "I", false)
  | 4 => ("IceParliament$Tape", "signs", "[C", true)
  | 5 => ("IceParliament$Tape", "kind", "I", false)
  | 6 => ("IceParliament$Tape", "place", "I", false)
  | 7 => ("IceParliament$Tape", "next", "I", false)
  | _ => ("IceParliament$Tape", "packed", "J", false)
def tyX7 : Nat → FieldType := fun k => match k with
  | 0 => .int
  | 1 => .int
  | 2 => .int
  | 3 => .int
  | 4 => .array .char
  | 5 => .int
  | 6 => .int
  | 7 => .int
  | _ => .long
abbrev wsX70 : List Cond := u_ws RX7 TX7 9
theorem nmX7 : ∀ a, a < 9 → ∀ b, b < 9 → a ≠ b → (TX7 a).2.1 ≠ (TX7 b).2.1 := by decide +kernel
theorem tyX7_ok : ∀ k, k < 9 → parseFieldDescriptor (TX7 k).2.2.1 = some (tyX7 k) := by decide +kernel
def RX8 : String := "IceParliament$Trial"
def TX8 : u_T := fun k => match k with
  | 0 => ("IceParliament$Trial", "wrongLine", "I", false)
  | 1 => ("IceParliament$Trial", "bareNight", "I", false)
  | 2 => ("IceParliament$Trial", "worth", "I", false)
  | 3 => ("IceParliament$Trial", "gone", "I", false)
  | 4 => ("IceParliament$Trial", "hurt", "I", false)
  | 5 => ("IceParliament$Trial", "yard", "LIceParliament$Yard;", true)
  | 6 => ("IceParliament$Trial", "state", "LIceParliament$State;", true)
  | _ => ("IceParliament$Trial", "drawn", "J", false)
def tyX8 : Nat → FieldType := fun k => match k with
  | 0 => .int
  | 1 => .int
  | 2 => .int
  | 3 => .int
  | 4 => .int
  | 5 => .object "IceParliament$Yard"
  | 6 => .object "IceParliament$State"
  | _ => .long
abbrev wsX80 : List Cond := u_ws RX8 TX8 8
theorem nmX8 : ∀ a, a < 8 → ∀ b, b < 8 → a ≠ b → (TX8 a).2.1 ≠ (TX8 b).2.1 := by decide +kernel
theorem tyX8_ok : ∀ k, k < 8 → parseFieldDescriptor (TX8 k).2.2.1 = some (tyX8 k) := by decide +kernel
def RX9 : String := "IceParliament$Yard"
def TX9 : u_T := fun k => match k with
  | 0 => ("IceParliament$Yard", "spots", "LIceParliament$Roll;", true)
  | 1 => ("IceParliament$Yard", "carvers", "LIceParliament$Roll;", true)
  | 2 => ("IceParliament$Yard", "acts", "LIceParliament$Roll;", true)
  | 3 => ("IceParliament$Yard", "shade", "[I", true)
  | 4 => ("IceParliament$Yard", "side", "[I", true)
  | 5 => ("IceParliament$Yard", "skill", "[I", true)
  | 6 => ("IceParliament$Yard", "kind", "[I", true)
  | 7 => ("IceParliament$Yard", "feet", "[I", true)
  | 8 => ("IceParliament$Yard", "chips", "[I", true)
  | 9 => ("IceParliament$Yard", "worth", "[I", true)
  | 10 => ("IceParliament$Yard", "mover", "[I", true)
  | 11 => ("IceParliament$Yard", "foes", "[I", true)
  | 12 => ("IceParliament$Yard", "pairs", "I", false)
  | 13 => ("IceParliament$Yard", "warmth", "[I", true)
  | 14 => ("IceParliament$Yard", "nights", "I", false)
  | 15 => ("IceParliament$Yard", "mild", "I", false)
  | 16 => ("IceParliament$Yard", "melts", "LIceParliament$Law;", true)
  | _ => ("IceParliament$Yard", "carves", "LIceParliament$Law;", true)
def tyX9 : Nat → FieldType := fun k => match k with
  | 0 => .object "IceParliament$Roll"
  | 1 => .object "IceParliament$Roll"
  | 2 => .object "IceParliament$Roll"
  | 3 => .array .int
  | 4 => .array .int
  | 5 => .array .int
  | 6 => .array .int
  | 7 => .array .int
  | 8 => .array .int
  | 9 => .array .int
  | 10 => .array .int
  | 11 => .array .int
  | 12 => .int
  | 13 => .array .int
  | 14 => .int
  | 15 => .int
  | 16 => .object "IceParliament$Law"
  | _ => .object "IceParliament$Law"
abbrev wsX90 : List Cond := u_ws RX9 TX9 18
theorem nmX9 : ∀ a, a < 18 → ∀ b, b < 18 → a ≠ b → (TX9 a).2.1 ≠ (TX9 b).2.1 := by decide +kernel
theorem tyX9_ok : ∀ k, k < 18 → parseFieldDescriptor (TX9 k).2.2.1 = some (tyX9 k) := by decide +kernel
def RX10 : String := "IceParliament$YardReader"
def TX10 : u_T := fun k => match k with
  | 0 => ("IceParliament$YardReader", "tape", "LIceParliament$Tape;", true)
  | 1 => ("IceParliament$YardReader", "yard", "LIceParliament$Yard;", true)
  | 2 => ("IceParliament$YardReader", "laws", "LIceParliament$LawReader;", true)
  | _ => ("IceParliament$YardReader", "mildTold", "Z", false)
def tyX10 : Nat → FieldType := fun k => match k with
  | 0 => .object "IceParliament$Tape"
  | 1 => .object "IceParliament$Yard"
  | 2 => .object "IceParliament$LawReader"
  | _ => .boolean
abbrev wsX100 : List Cond := u_ws RX10 TX10 4
theorem nmX10 : ∀ a, a < 4 → ∀ b, b < 4 → a ≠ b → (TX10 a).2.1 ≠ (TX10 b).2.1 := by decide +kernel
theorem tyX10_ok : ∀ k, k < 4 → parseFieldDescriptor (TX10 k).2.2.1 = some (tyX10 k) := by decide +kernel
def RX11 : String := "IceParliament"
def TX11 : u_T := fun k => match k with
  | 0 => ("IceParliament", "tape", "LIceParliament$Tape;", true)
  | 1 => ("IceParliament", "yard", "LIceParliament$Yard;", true)
  | 2 => ("IceParliament", "draft", "LIceParliament$Yard;", true)
  | 3 => ("IceParliament", "reader", "LIceParliament$YardReader;", true)
  | 4 => ("IceParliament", "lines", "LIceParliament$Session;", true)
  | 5 => ("IceParliament", "draftLines", "LIceParliament$Session;", true)
  | 6 => ("IceParliament", "now", "LIceParliament$State;", true)
  | 7 => ("IceParliament", "past", "[LIceParliament$State;", true)
  | 8 => ("IceParliament", "undoable", "I", false)
  | 9 => ("IceParliament", "marks", "[LIceParliament$State;", true)
  | 10 => ("IceParliament", "marked", "I", false)
  | 11 => ("IceParliament", "planner", "LIceParliament$Planner;", true)
  | 12 => ("IceParliament", "breath", "LIceParliament$Breath;", true)
  | _ => ("IceParliament", "trial", "LIceParliament$Trial;", true)
def tyX11 : Nat → FieldType := fun k => match k with
  | 0 => .object "IceParliament$Tape"
  | 1 => .object "IceParliament$Yard"
  | 2 => .object "IceParliament$Yard"
  | 3 => .object "IceParliament$YardReader"
  | 4 => .object "IceParliament$Session"
  | 5 => .object "IceParliament$Session"
  | 6 => .object "IceParliament$State"
  | 7 => .array (.object "IceParliament$State")
  | 8 => .int
  | 9 => .array (.object "IceParliament$State")
  | 10 => .int
  | 11 => .object "IceParliament$Planner"
  | 12 => .object "IceParliament$Breath"
  | _ => .object "IceParliament$Trial"
abbrev wsX110 : List Cond := u_ws RX11 TX11 14
theorem nmX11 : ∀ a, a < 14 → ∀ b, b < 14 → a ≠ b → (TX11 a).2.1 ≠ (TX11 b).2.1 := by decide +kernel
theorem tyX11_ok : ∀ k, k < 14 → parseFieldDescriptor (TX11 k).2.2.1 = some (tyX11 k) := by decide +kernel
def RX12 : String := "IceParliamentModel"
def TX12 : u_T := fun k => match k with
  | 0 => ("IceParliamentModel", "thrown", "I", false)
  | 1 => ("IceParliamentModel", "tape", "[I", true)
  | 2 => ("IceParliamentModel", "taped", "I", false)
  | 3 => ("IceParliamentModel", "size", "I", false)
  | 4 => ("IceParliamentModel", "sort", "[I", true)
  | 5 => ("IceParliamentModel", "place", "[I", true)
  | 6 => ("IceParliamentModel", "value", "[J", true)
  | 7 => ("IceParliamentModel", "at", "I", false)
  | 8 => ("IceParliamentModel", "fault", "I", false)
  | 9 => ("IceParliamentModel", "words", "[J", true)
  | 10 => ("IceParliamentModel", "yards", "[I", true)
  | 11 => ("IceParliamentModel", "op", "[I", true)
  | 12 => ("IceParliamentModel", "arg", "[I", true)
  | 13 => ("IceParliamentModel", "codes", "I", false)
  | 14 => ("IceParliamentModel", "names", "[J", true)
  | 15 => ("IceParliamentModel", "readNames", "[J", true)
  | 16 => ("IceParliamentModel", "nameOf", "[I", true)
  | 17 => ("IceParliamentModel", "readNameOf", "[I", true)
  | 18 => ("IceParliamentModel", "namesMany", "I", false)
  | 19 => ("IceParliamentModel", "readMany", "I", false)
  | 20 => ("IceParliamentModel", "once", "I", false)
  | 21 => ("IceParliamentModel", "factsHere", "I", false)
  | 22 => ("IceParliamentModel", "lines", "[I", true)
  | 23 => ("IceParliamentModel", "facts", "[I", true)
  | 24 => ("IceParliamentModel", "pile", "[I", true)
  | 25 => ("IceParliamentModel", "state", "[I", true)
  | 26 => ("IceParliamentModel", "undos", "I", false)
  | 27 => ("IceParliamentModel", "isMarked", "[Z", true)
  | 28 => ("IceParliamentModel", "taker", "[I", true)
  | 29 => ("IceParliamentModel", "taken", "[I", true)
  | 30 => ("IceParliamentModel", "bestTaken", "[I", true)
  | 31 => ("IceParliamentModel", "takers", "I", false)
  | 32 => ("IceParliamentModel", "mostWorth", "I", false)
  | 33 => ("IceParliamentModel", "lasting", "[I", true)
  | 34 => ("IceParliamentModel", "spotRow", "[I", true)
  | 35 => ("IceParliamentModel", "bestSpots", "[I", true)
  | 36 => ("IceParliamentModel", "mostNights", "I", false)
  | 37 => ("IceParliamentModel", "placed", "I", false)
  | 38 => ("IceParliamentModel", "alike", "[I", true)
  | _ => ("IceParliamentModel", "g", "J", false)
def tyX12 : Nat → FieldType := fun k => match k with
  | 0 => .int
  | 1 => .array .int
  | 2 => .int
  | 3 => .int
  | 4 => .array .int
  | 5 => .array .int
  | 6 => .array .long
  | 7 => .int
  | 8 => .int
  | 9 => .array .long
  | 10 => .array .int
  | 11 => .array .int
  | 12 => .array .int
  | 13 => .int
  | 14 => .array .long
  | 15 => .array .long
  | 16 => .array .int
  | 17 => .array .int
  | 18 => .int
  | 19 => .int
  | 20 => .int
  | 21 => .int
  | 22 => .array .int
  | 23 => .array .int
  | 24 => .array .int
  | 25 => .array .int
  | 26 => .int
  | 27 => .array .boolean
  | 28 => .array .int
  | 29 => .array .int
  | 30 => .array .int
  | 31 => .int
  | 32 => .int
  | 33 => .array .int
  | 34 => .array .int
  | 35 => .array .int
  | 36 => .int
  | 37 => .int
  | 38 => .array .int
  | _ => .long
abbrev wsX120 : List Cond := u_ws RX12 TX12 40
theorem nmX12 : ∀ a, a < 40 → ∀ b, b < 40 → a ≠ b → (TX12 a).2.1 ≠ (TX12 b).2.1 := by decide +kernel
theorem tyX12_ok : ∀ k, k < 40 → parseFieldDescriptor (TX12 k).2.2.1 = some (tyX12 k) := by decide +kernel
def vwCl : List vw_C := [(RX0, TX0, 7), (RX1, TX1, 4), (RX2, TX2, 6), (RX3, TX3, 15), (RX4, TX4, 2), (RX5, TX5, 4), (RX6, TX6, 11), (RX7, TX7, 9), (RX8, TX8, 8), (RX9, TX9, 18), (RX10, TX10, 4), (RX11, TX11, 14), (RX12, TX12, 40)]
theorem inX0 : ∀ w ∈ wsX00, w ∈ lw_tbl := by decide +kernel
theorem inX1 : ∀ w ∈ wsX10, w ∈ lw_tbl := by decide +kernel
theorem inX2 : ∀ w ∈ wsX20, w ∈ lw_tbl := by decide +kernel
theorem inX3 : ∀ w ∈ wsX30, w ∈ lw_tbl := by decide +kernel
theorem inX4 : ∀ w ∈ wsX40, w ∈ lw_tbl := by decide +kernel
theorem inX5 : ∀ w ∈ wsX50, w ∈ lw_tbl := by decide +kernel
theorem inX6 : ∀ w ∈ wsX60, w ∈ lw_tbl := by decide +kernel
theorem inX7 : ∀ w ∈ wsX70, w ∈ lw_tbl := by decide +kernel
theorem inX8 : ∀ w ∈ wsX80, w ∈ lw_tbl := by decide +kernel
theorem inX9 : ∀ w ∈ wsX90, w ∈ lw_tbl := by decide +kernel
theorem inX10 : ∀ w ∈ wsX100, w ∈ lw_tbl := by decide +kernel
theorem inX11 : ∀ w ∈ wsX110, w ∈ lw_tbl := by decide +kernel
theorem inX12 : ∀ w ∈ wsX120, w ∈ lw_tbl := by decide +kernel
end
section
/-! ABSTRACT VALUES, MEMORY, CELLS. A reference is (tag, length, index): tags 0..12 objects by class number, 20 int[], 21 char[], 22 boolean[], 23 long[], 24 State[], 30.. int[][] (rows of rowL), 40 String constant, 41 its bytes, 50 an opaque reference. -/
abbrev Ref3 : Type := Nat × Nat × Nat
abbrev AV : Type := Int32 ⊕ (Int64 ⊕ Ref3)
abbrev Mem : Type := (Nat → Nat → Int32) × (Nat → Nat → Int64) × (Nat → Nat → Nat)
abbrev Res : Type := Option (Option AV × Mem)
abbrev vI (x : Int32) : AV := .inl x
abbrev vJ (x : Int64) : AV := .inr (.inl x)
abbrev vR (t n k : Nat) : AV := .inr (.inr (t, n, k))
def cv (ρ : Nat → Nat) : AV → Value
  | .inl x => .int x
  | .inr (.inl x) => .long x
  | .inr (.inr q) => .ref (ρ q.2.2)
def sI (M : Mem) (k j : Nat) (v : Int32) : Mem := (fun a b => if a = k ∧ b = j then v else M.1 a b, M.2)
def sJ (M : Mem) (k j : Nat) (v : Int64) : Mem := (M.1, fun a b => if a = k ∧ b = j then v else M.2.1 a b, M.2.2)
def sR (M : Mem) (k j : Nat) (v : Nat) : Mem := (M.1, M.2.1, fun a b => if a = k ∧ b = j then v else M.2.2 a b)
def cpI (M : Mem) (a sp b dp n : Nat) : Mem := (fun k j => if k = b then va_cpy (M.1 a) (M.1 b) sp dp n j else M.1 k j, M.2)
def cpJ (M : Mem) (a sp b dp n : Nat) : Mem := (M.1, fun k j => if k = b then va_cpy (M.2.1 a) (M.2.1 b) sp dp n j else M.2.1 k j, M.2.2)
/-- how many fields a class has -/
def clN : Nat → Nat
  | 0 => 7
  | 1 => 4
  | 2 => 6
  | 3 => 15
  | 4 => 2
  | 5 => 4
  | 6 => 11
  | 7 => 9
  | 8 => 8
  | 9 => 18
  | 10 => 4
  | 11 => 14
  | 12 => 40
  | _ => 0
/-- kinds of fields: 0 int, 1 long, 2 a fixed reference, 3 a reference that changes, 4 boolean -/
def fk : Nat → Nat → Nat
  | 0, 1 => 2
  | 0, 2 => 2
  | 0, 3 => 2
  | 0, 4 => 2
  | 0, 5 => 2
  | 0, 6 => 2
  | 1, 0 => 4
  | 1, 1 => 2
  | 1, 3 => 2
  | 2, 0 => 2
  | 2, 1 => 2
  | 2, 4 => 3
  | 2, 5 => 4
  | 3, 0 => 2
  | 3, 1 => 2
  | 3, 2 => 2
  | 3, 3 => 2
  | 3, 4 => 2
  | 3, 6 => 2
  | 3, 8 => 2
  | 3, 9 => 2
  | 3, 10 => 2
  | 3, 11 => 2
  | 3, 12 => 2
  | 3, 13 => 2
  | 3, 14 => 2
  | 4, 1 => 2
  | 5, 0 => 2
  | 5, 1 => 2
  | 5, 2 => 2
  | 6, 1 => 2
  | 6, 2 => 2
  | 6, 3 => 2
  | 6, 4 => 2
  | 6, 5 => 2
  | 6, 6 => 2
  | 6, 10 => 2
  | 7, 4 => 2
  | 7, 8 => 1
  | 8, 5 => 2
  | 8, 6 => 2
  | 8, 7 => 1
  | 9, 0 => 2
  | 9, 1 => 2
  | 9, 2 => 2
  | 9, 3 => 2
  | 9, 4 => 2
  | 9, 5 => 2
  | 9, 6 => 2
  | 9, 7 => 2
  | 9, 8 => 2
  | 9, 9 => 2
  | 9, 10 => 2
  | 9, 11 => 2
  | 9, 13 => 2
  | 9, 16 => 2
  | 9, 17 => 2
  | 10, 0 => 2
  | 10, 1 => 2
  | 10, 2 => 2
  | 10, 3 => 4
  | 11, 0 => 2
  | 11, 1 => 2
  | 11, 2 => 2
  | 11, 3 => 2
  | 11, 4 => 2
  | 11, 5 => 2
  | 11, 6 => 2
  | 11, 7 => 2
  | 11, 9 => 2
  | 11, 11 => 2
  | 11, 12 => 2
  | 11, 13 => 2
  | 12, 1 => 2
  | 12, 4 => 2
  | 12, 5 => 2
  | 12, 6 => 2
  | 12, 9 => 2
  | 12, 10 => 2
  | 12, 11 => 2
  | 12, 12 => 2
  | 12, 14 => 2
  | 12, 15 => 2
  | 12, 16 => 2
  | 12, 17 => 2
  | 12, 22 => 2
  | 12, 23 => 2
  | 12, 24 => 2
  | 12, 25 => 2
  | 12, 27 => 2
  | 12, 28 => 2
  | 12, 29 => 2
  | 12, 30 => 2
  | 12, 33 => 2
  | 12, 34 => 2
  | 12, 35 => 2
  | 12, 38 => 2
  | 12, 39 => 1
  | _, _ => 0
/-- where the fixed references of the object at k lead -/
def fp : Nat → Nat → Nat → Ref3
  | 0, 1, _ => (9, 0, 3)
  | 0, 2, _ => (6, 0, 60)
  | 0, 3, k => (20, 64, k + 1)
  | 0, 4, k => (20, 6, k + 2)
  | 0, 5, k => (20, 6, k + 3)
  | 0, 6, k => (20, 21, k + 4)
  | 1, 1, k => (20, 1000, k + 1)
  | 1, 3, k => (20, 32, k + 2)
  | 2, 0, _ => (7, 0, 1)
  | 2, 1, k => (20, 48, k + 1)
  | 3, 0, k => (20, 6, k + 1)
  | 3, 1, k => (20, 6, k + 2)
  | 3, 2, _ => (9, 0, 3)
  | 3, 3, _ => (6, 0, 60)
  | 3, 4, k => (20, 4, k + 3)
  | 3, 6, k => (20, 6, k + 4)
  | 3, 8, k => (30, 6, k + 5)
  | 3, 9, k => (20, 4, k + 12)
  | 3, 10, k => (20, 7, k + 13)
  | 3, 11, k => (31, 6, k + 14)
  | 3, 12, k => (32, 7, k + 21)
  | 3, 13, k => (23, 21, k + 29)
  | 3, 14, k => (23, 21, k + 30)
  | 4, 1, k => (23, 6, k + 1)
  | 5, 0, k => (20, 40, k + 1)
  | 5, 1, k => (20, 40, k + 2)
  | 5, 2, k => (20, 40, k + 3)
  | 6, 1, k => (20, 6, k + 1)
  | 6, 2, k => (20, 6, k + 2)
  | 6, 3, k => (20, 6, k + 3)
  | 6, 4, k => (20, 6, k + 4)
  | 6, 5, k => (20, 6, k + 5)
  | 6, 6, k => (20, 6, k + 6)
  | 6, 10, _ => (9, 0, 3)
  | 7, 4, k => (21, 1000, k + 1)
  | 8, 5, _ => (9, 0, 3)
  | 8, 6, _ => (6, 0, 106)
  | 9, 0, k => (4, 0, k + 1)
  | 9, 1, k => (4, 0, k + 3)
  | 9, 2, k => (4, 0, k + 5)
  | 9, 3, k => (20, 6, k + 7)
  | 9, 4, k => (20, 6, k + 8)
  | 9, 5, k => (20, 6, k + 9)
  | 9, 6, k => (20, 6, k + 10)
  | 9, 7, k => (20, 6, k + 11)
  | 9, 8, k => (20, 6, k + 12)
  | 9, 9, k => (20, 6, k + 13)
  | 9, 10, k => (20, 6, k + 14)
  | 9, 11, k => (20, 6, k + 15)
  | 9, 13, k => (20, 14, k + 16)
  | 9, 16, k => (1, 0, k + 17)
  | 9, 17, k => (1, 0, k + 20)
  | 10, 0, _ => (7, 0, 1)
  | 10, 1, _ => (9, 0, 26)
  | 10, 2, _ => (2, 0, 50)
  | 11, 0, _ => (7, 0, 1)
  | 11, 1, _ => (9, 0, 3)
  | 11, 2, _ => (9, 0, 26)
  | 11, 3, _ => (10, 0, 49)
  | 11, 4, _ => (5, 0, 52)
  | 11, 5, _ => (5, 0, 56)
  | 11, 6, _ => (6, 0, 60)
  | 11, 7, _ => (24, 16, 67)
  | 11, 9, _ => (24, 4, 68)
  | 11, 11, _ => (3, 0, 69)
  | 11, 12, _ => (0, 0, 100)
  | 11, 13, _ => (8, 0, 105)
  | 12, 1, k => (20, 1000, k + 1)
  | 12, 4, k => (20, 1002, k + 2)
  | 12, 5, k => (20, 1002, k + 3)
  | 12, 6, k => (23, 1002, k + 4)
  | 12, 9, k => (23, 33, k + 5)
  | 12, 10, k => (20, 220, k + 6)
  | 12, 11, k => (20, 2200, k + 7)
  | 12, 12, k => (20, 2200, k + 8)
  | 12, 14, k => (23, 18, k + 9)
  | 12, 15, k => (23, 18, k + 10)
  | 12, 16, k => (20, 18, k + 11)
  | 12, 17, k => (20, 18, k + 12)
  | 12, 22, k => (20, 250, k + 13)
  | 12, 23, k => (20, 5, k + 14)
  | 12, 24, k => (20, 1100, k + 15)
  | 12, 25, k => (20, 1127, k + 16)
  | 12, 27, k => (22, 4, k + 17)
  | 12, 28, k => (20, 4, k + 18)
  | 12, 29, k => (20, 4, k + 19)
  | 12, 30, k => (20, 4, k + 20)
  | 12, 33, k => (20, 36, k + 21)
  | 12, 34, k => (20, 6, k + 22)
  | 12, 35, k => (20, 6, k + 23)
  | 12, 38, k => (20, 21, k + 24)
  | _, _, _ => (0, 0, 0)
/-- what a changing reference is of -/
def fm : Nat → Nat → Nat × Nat
  | 2, 4 => (1, 0)
  | _, _ => (0, 0)
def rowL : Nat → Nat
  | 30 => 16
  | 31 => 6
  | 32 => 64
  | _ => 0
def clR : Nat → String
  | 0 => RX0
  | 1 => RX1
  | 2 => RX2
  | 3 => RX3
  | 4 => RX4
  | 5 => RX5
  | 6 => RX6
  | 7 => RX7
  | 8 => RX8
  | 9 => RX9
  | 10 => RX10
  | 11 => RX11
  | 12 => RX12
  | _ => ""
def clT : Nat → u_T
  | 0 => TX0
  | 1 => TX1
  | 2 => TX2
  | 3 => TX3
  | 4 => TX4
  | 5 => TX5
  | 6 => TX6
  | 7 => TX7
  | 8 => TX8
  | 9 => TX9
  | 10 => TX10
  | 11 => TX11
  | 12 => TX12
  | _ => fun _ => ("", "", "", false)
def clY : Nat → Nat → FieldType
  | 0 => tyX0
  | 1 => tyX1
  | 2 => tyX2
  | 3 => tyX3
  | 4 => tyX4
  | 5 => tyX5
  | 6 => tyX6
  | 7 => tyX7
  | 8 => tyX8
  | 9 => tyX9
  | 10 => tyX10
  | 11 => tyX11
  | 12 => tyX12
  | _ => fun _ => .int
theorem cl_at : ∀ t, t < 13 → vwCl[t]? = some (clR t, clT t, clN t)
  | 0, _ => rfl
  | 1, _ => rfl
  | 2, _ => rfl
  | 3, _ => rfl
  | 4, _ => rfl
  | 5, _ => rfl
  | 6, _ => rfl
  | 7, _ => rfl
  | 8, _ => rfl
  | 9, _ => rfl
  | 10, _ => rfl
  | 11, _ => rfl
  | 12, _ => rfl
  | t + 13, h => absurd h (by omega)
theorem cl_in : ∀ t, t < 13 → ∀ w ∈ u_ws (clR t) (clT t) (clN t), w ∈ lw_tbl
  | 0, _ => inX0
  | 1, _ => inX1
  | 2, _ => inX2
  | 3, _ => inX3
  | 4, _ => inX4
  | 5, _ => inX5
  | 6, _ => inX6
  | 7, _ => inX7
  | 8, _ => inX8
  | 9, _ => inX9
  | 10, _ => inX10
  | 11, _ => inX11
  | 12, _ => inX12
  | t + 13, h => absurd h (by omega)
theorem cl_ty : ∀ t, t < 13 → ∀ k, k < clN t → parseFieldDescriptor ((clT t) k).2.2.1 = some (clY t k)
  | 0, _ => tyX0_ok
  | 1, _ => tyX1_ok
  | 2, _ => tyX2_ok
  | 3, _ => tyX3_ok
  | 4, _ => tyX4_ok
  | 5, _ => tyX5_ok
  | 6, _ => tyX6_ok
  | 7, _ => tyX7_ok
  | 8, _ => tyX8_ok
  | 9, _ => tyX9_ok
  | 10, _ => tyX10_ok
  | 11, _ => tyX11_ok
  | 12, _ => tyX12_ok
  | t + 13, h => absurd h (by omega)
theorem cl_nm : ∀ t, t < 13 → ∀ a, a < clN t → ∀ b, b < clN t → a ≠ b → ((clT t) a).2.1 ≠ ((clT t) b).2.1
  | 0, _ => nmX0
  | 1, _ => nmX1
  | 2, _ => nmX2
  | 3, _ => nmX3
  | 4, _ => nmX4
  | 5, _ => nmX5
  | 6, _ => nmX6
  | 7, _ => nmX7
  | 8, _ => nmX8
  | 9, _ => nmX9
  | 10, _ => nmX10
  | 11, _ => nmX11
  | 12, _ => nmX12
  | t + 13, h => absurd h (by omega)
def fv (ρ : Nat → Nat) (M : Mem) (t k j : Nat) : Value :=
  if fk t j = 1 then .long (M.2.1 k j) else if fk t j = 2 then .ref (ρ (fp t j k).2.2) else if fk t j = 3 then .ref (ρ (M.2.2 k j)) else .int (M.1 k j)
def fvs (ρ : Nat → Nat) (M : Mem) (t k : Nat) : List Value := (List.range (clN t)).map (fv ρ M t k)
def aC (ρ : Nat → Nat) (M : Mem) (q : Ref3) : vp_A :=
  (q.2.1, if q.1 = 23 then .inr (.inl (M.2.1 q.2.2)) else if q.1 = 24 then .inr (.inr (.inr (.inr (fun j => some (ρ (M.2.2 q.2.2 j)))))) else if 30 ≤ q.1 then .inr (.inr (.inr (.inr (fun j => some (ρ (q.2.2 + 1 + j)))))) else .inl (M.1 q.2.2))
def aT (t : Nat) : Nat := if 30 ≤ t then 25 else t
def ce (ρ : Nat → Nat) (cA : Nat → ClassId) (M : Mem) (q : Ref3) : va_E := if q.1 < 13 then .inr (q.1, fvs ρ M q.1 q.2.2) else .inl (cA (aT q.1), aC ρ M q)
def wsOf (ρ : Nat → Nat) (cA : Nat → ClassId) (M : Mem) (w : List Ref3) : va_W := w.map (fun q => (ρ q.2.2, ce ρ cA M q))
def tysOf (cA : Nat → ClassId) : List (ClassId × FieldType) := [(cA 20, .int), (cA 21, .char), (cA 22, .boolean), (cA 23, .long), (cA 24, .object "IceParliament$State"), (cA 25, .array .int)]
/-- the world is closed: fixed references lead into it -/
def Clo (w : List Ref3) : Prop := (∀ q ∈ w, q.1 < 13 → ∀ j, j < clN q.1 → fk q.1 j = 2 → fp q.1 j q.2.2 ∈ w) ∧ ∀ q ∈ w, 30 ≤ q.1 → ∀ j, j < q.2.1 → (20, rowL q.1, q.2.2 + 1 + j) ∈ w
/-- the changing references lead into it -/
def MOK (w : List Ref3) (M : Mem) : Prop := (∀ q ∈ w, q.1 < 13 → ∀ j, j < clN q.1 → fk q.1 j = 3 → ((fm q.1 j).1, (fm q.1 j).2, M.2.2 q.2.2 j) ∈ w) ∧ ∀ q ∈ w, q.1 = 24 → ∀ j, j < q.2.1 → ((6, 0, M.2.2 q.2.2 j) : Ref3) ∈ w
theorem wsOf_at {ρ : Nat → Nat} {cA : Nat → ClassId} {M : Mem} {w : List Ref3} {p : Nat} {q : Ref3} (h : w[p]? = some q) : (wsOf ρ cA M w)[p]? = some (ρ q.2.2, ce ρ cA M q) := by
  simp [wsOf, h]
theorem va_D_wsOf {A : Nat → Prop} {ρ : Nat → Nat} {cA : Nat → ClassId} {M M' : Mem} {w : List Ref3} (h : va_D A (wsOf ρ cA M w)) : va_D A (wsOf ρ cA M' w) := by
  have key : ∀ (i : Nat) (x : Nat × va_E), (wsOf ρ cA M' w)[i]? = some x → ∃ y, (wsOf ρ cA M w)[i]? = some y ∧ y.1 = x.1 := by
    intro i x hx
    simp only [wsOf, List.getElem?_map] at hx ⊢
    cases hq : w[i]? with
    | none => rw [hq] at hx; cases hx
    | some q => rw [hq] at hx; cases hx; exact ⟨_, rfl, rfl⟩
  refine ⟨fun i j x y hi hj e => ?_, fun i x hi => ?_⟩
  · obtain ⟨x', h1, h2⟩ := key i x hi
    obtain ⟨y', h3, h4⟩ := key j y hj
    exact h.1 i j x' y' h1 h3 (h2.trans (e.trans h4.symm))
  · obtain ⟨x', h1, h2⟩ := key i x hi
    rw [← h2]; exact h.2 i x' h1
theorem wsOf_apart {A : Nat → Prop} {ρ : Nat → Nat} {cA : Nat → ClassId} {M : Mem} {w : List Ref3} (h : va_D A (wsOf ρ cA M w)) {i j : Nat} {a b : Ref3} (hi : w[i]? = some a) (hj : w[j]? = some b) (e : a.2.2 = b.2.2) : i = j :=
  h.1 i j _ _ (wsOf_at hi) (wsOf_at hj) (by rw [e])
/-- one cell is written -/
theorem wsOf_set {A : Nat → Prop} {ρ : Nat → Nat} {cA : Nat → ClassId} {M M' : Mem} {w : List Ref3} {p : Nat} {q : Ref3} {e : va_E} (hD : va_D A (wsOf ρ cA M w)) (hp : w[p]? = some q) (he : ce ρ cA M' q = e) (ho : ∀ q' : Ref3, q'.2.2 ≠ q.2.2 → ce ρ cA M' q' = ce ρ cA M q') : (wsOf ρ cA M w).set p (ρ q.2.2, e) = wsOf ρ cA M' w := by
  apply List.ext_getElem?
  intro i
  have hl : p < w.length := (List.getElem?_eq_some_iff.mp hp).1
  by_cases hip : p = i
  · subst hip
    rw [List.getElem?_set_self (by simpa [wsOf] using hl), wsOf_at hp, he]
  · rw [List.getElem?_set_ne hip]
    simp only [wsOf, List.getElem?_map]
    cases hq : w[i]? with
    | none => rfl
    | some q' =>
      have : q'.2.2 ≠ q.2.2 := fun z => hip (wsOf_apart hD hq hp z).symm
      simp [ho q' this]
theorem ce_congr {ρ : Nat → Nat} {cA : Nat → ClassId} {M M' : Mem} {q : Ref3} (e1 : M'.1 q.2.2 = M.1 q.2.2) (e2 : M'.2.1 q.2.2 = M.2.1 q.2.2) (e3 : M'.2.2 q.2.2 = M.2.2 q.2.2) : ce ρ cA M' q = ce ρ cA M q := by
  have h : fv ρ M' q.1 q.2.2 = fv ρ M q.1 q.2.2 := by funext j; simp only [fv, e1, e2, e3]
  simp only [ce, fvs, aC, h, e1, e2, e3]
theorem ce_sI_ne {ρ : Nat → Nat} {cA : Nat → ClassId} {M : Mem} {k j : Nat} {v : Int32} {q : Ref3} (h : q.2.2 ≠ k) : ce ρ cA (sI M k j v) q = ce ρ cA M q :=
  ce_congr (by funext b; simp [sI, h]) rfl rfl
theorem ce_sJ_ne {ρ : Nat → Nat} {cA : Nat → ClassId} {M : Mem} {k j : Nat} {v : Int64} {q : Ref3} (h : q.2.2 ≠ k) : ce ρ cA (sJ M k j v) q = ce ρ cA M q :=
  ce_congr rfl (by funext b; simp [sJ, h]) rfl
theorem ce_sR_ne {ρ : Nat → Nat} {cA : Nat → ClassId} {M : Mem} {k j : Nat} {v : Nat} {q : Ref3} (h : q.2.2 ≠ k) : ce ρ cA (sR M k j v) q = ce ρ cA M q :=
  ce_congr rfl rfl (by funext b; simp [sR, h])
theorem ce_cpI_ne {ρ : Nat → Nat} {cA : Nat → ClassId} {M : Mem} {a sp k dp n : Nat} {q : Ref3} (h : q.2.2 ≠ k) : ce ρ cA (cpI M a sp k dp n) q = ce ρ cA M q :=
  ce_congr (by funext b; simp [cpI, h]) rfl rfl
theorem ce_cpJ_ne {ρ : Nat → Nat} {cA : Nat → ClassId} {M : Mem} {a sp k dp n : Nat} {q : Ref3} (h : q.2.2 ≠ k) : ce ρ cA (cpJ M a sp k dp n) q = ce ρ cA M q :=
  ce_congr rfl (by funext b; simp [cpJ, h]) rfl
theorem fvs_at {ρ : Nat → Nat} {M : Mem} {t k j : Nat} (h : j < clN t) : (fvs ρ M t k)[j]? = some (fv ρ M t k j) := by
  simp [fvs, h]
theorem fvs_set {ρ : Nat → Nat} {M M' : Mem} {t k j : Nat} {v : Value} (hv : fv ρ M' t k j = v) (ho : ∀ i, i ≠ j → fv ρ M' t k i = fv ρ M t k i) : (fvs ρ M t k).set j v = fvs ρ M' t k := by
  apply List.ext_getElem?
  intro i
  by_cases hj : j = i
  · subst hj
    by_cases hl : j < clN t
    · rw [List.getElem?_set_self (by simpa [fvs] using hl), fvs_at hl, hv]
    · rw [List.getElem?_eq_none (by simp [fvs]; omega), List.getElem?_eq_none (by simp [fvs]; omega)]
  · rw [List.getElem?_set_ne hj]
    simp only [fvs, List.getElem?_map]
    cases hq : (List.range (clN t))[i]? with
    | none => rfl
    | some x =>
      have : x = i := by
        have h2 := (List.getElem?_eq_some_iff.mp hq)
        obtain ⟨h3, h4⟩ := h2
        simpa using h4.symm
      subst this
      simp [ho x (fun z => hj z.symm)]
theorem MOK_sI {w : List Ref3} {M : Mem} {k j : Nat} {v : Int32} (h : MOK w M) : MOK w (sI M k j v) := h
theorem MOK_sJ {w : List Ref3} {M : Mem} {k j : Nat} {v : Int64} (h : MOK w M) : MOK w (sJ M k j v) := h
theorem MOK_cpI {w : List Ref3} {M : Mem} {a sp k dp n : Nat} (h : MOK w M) : MOK w (cpI M a sp k dp n) := h
theorem MOK_cpJ {w : List Ref3} {M : Mem} {a sp k dp n : Nat} (h : MOK w M) : MOK w (cpJ M a sp k dp n) := h
theorem upd_row {M : Mem} {k j : Nat} {v : Int32} : (sI M k j v).1 k = upd (M.1 k) j v := by
  funext b; simp [sI, upd]
theorem updL_row {M : Mem} {k j : Nat} {v : Int64} : (sJ M k j v).2.1 k = vp_updL (M.2.1 k) j v := by
  funext b; simp [sJ, vp_updL]
end
section
/-! THE ABSTRACT EVALUATOR: straight stretches by stepK, loops by back, calls by call. -/
abbrev Ent : Type := Instr × Nat × Nat × Nat × Nat × Int32 × Int64
abbrev Lv : Type := List (Option AV)
abbrev SB : Nat := 10000
abbrev SV : Nat := 20000
abbrev SF0 : Nat := 30000
def lkE : List (Nat × Ent) → Nat → Option Ent
  | [], _ => none
  | (p, e) :: t, pc => match Nat.beq p pc with
    | true => some e
    | false => lkE t pc
def lvat : Lv → Nat → Option AV
  | [], _ => none
  | a :: _, 0 => a
  | _ :: t, n + 1 => lvat t n
def lst : Lv → Nat → Option AV → Lv
  | [], _, _ => []
  | _ :: t, 0, v => v :: t
  | a :: t, n + 1, v => a :: lst t n v
def isJ : Option AV → Bool
  | some (.inr (.inl _)) => true
  | _ => false
def stl (lv : Lv) (i : Nat) (v : AV) : Lv := match i with
  | 0 => lst lv 0 (some v)
  | j + 1 => match isJ (lvat lv j) with
    | true => lst (lst lv j none) (j + 1) (some v)
    | false => lst lv (j + 1) (some v)
def stl2 (lv : Lv) (i : Nat) (v : AV) : Lv := lst (stl lv i v) (i + 1) none
def catS : List AV → Nat
  | [] => 0
  | .inl _ :: t => catS t + 1
  | .inr (.inl _) :: t => catS t + 2
  | .inr (.inr _) :: t => catS t + 1
def popA : Nat → List AV → List AV → Option (List AV × List AV)
  | 0, acc, st => some (acc, st)
  | _ + 1, _, [] => none
  | n + 1, acc, v :: st => popA n (v :: acc) st
def cVd (r : Res) (f : Mem → Res) : Res := match r with
  | some (none, M) => f M
  | _ => none
def cIn (r : Res) (f : Int32 → Mem → Res) : Res := match r with
  | some (some (.inl v), M) => f v M
  | _ => none
def cLo (r : Res) (f : Int64 → Mem → Res) : Res := match r with
  | some (some (.inr (.inl v)), M) => f v M
  | _ => none
def swk (v : Int32) (f : Int → Res) (d : Int) : Int → List Int → Res
  | _, [] => f d
  | lo, o :: os => if v = Int32.ofInt lo then f o else swk v f d (lo + 1) os
/-- the String constants, as bytes -/
def strT : List (List Int32) := [[40, 41, 60, 61, 43, 45, 42, 59], [115, 112, 111, 116], [115, 112, 111, 116, 32, 115, 104, 97, 100, 101, 32, 99, 97, 114, 118, 101, 114, 32, 115, 107, 105, 108, 108, 32, 97, 99, 116, 32, 102, 101, 101, 116, 32, 99, 104, 105, 112, 115, 32, 119, 111, 114, 116, 104, 32, 98, 121, 32, 99, 108, 97, 115, 104, 32, 110, 105, 103, 104, 116, 115, 32, 109, 105, 108, 100, 32, 109, 101, 108, 116, 115, 32, 99, 97, 114, 118, 101, 115, 32, 98, 101, 103, 105, 110, 32, 99, 97, 114, 118, 101, 32, 112, 114, 111, 112, 32, 116, 111, 114, 99, 104, 32, 110, 105, 103, 104, 116, 32, 97, 121, 101, 115, 32, 110, 111, 101, 115, 32, 112, 108, 97, 105, 110, 32, 104, 111, 108, 108, 111, 119, 32, 116, 104, 105, 110, 32, 111, 108, 100, 32, 110, 111, 116, 32, 97, 110, 100, 32, 111, 114, 32], [115, 104, 97, 100, 101], [99, 97, 114, 118, 101, 114], [110, 111, 101, 115], [97, 121, 101, 115], [115, 107, 105, 108, 108], [97, 99, 116], [112, 108, 97, 105, 110], [104, 111, 108, 108, 111, 119], [116, 104, 105, 110], [111, 108, 100], [102, 101, 101, 116], [99, 104, 105, 112, 115], [119, 111, 114, 116, 104], [98, 121], [99, 108, 97, 115, 104], [110, 105, 103, 104, 116, 115], [109, 105, 108, 100], [109, 101, 108, 116, 115], [110, 111, 116], [119, 97, 114, 109, 116, 104], [97, 98, 108, 101], [100, 97, 114, 107], [116, 97, 108, 108], [100, 111, 110, 101], [97, 110, 100], [111, 114], [99, 97, 114, 118, 101, 115], [98, 101, 103, 105, 110], [99, 97, 114, 118, 101], [112, 114, 111, 112], [116, 111, 114, 99, 104], [110, 105, 103, 104, 116]]
def strL (i : Nat) : Nat := (strT.getD i []).length
def strB (i j : Nat) : Int32 := (strT.getD i []).getD j 0
/-- which constant of which class is which String -/
def strW : List (String × Nat × String × Nat) := [("IceParliament$Tape", 37, "()<=+-*;", 0), ("IceParliament$YardReader", 57, "spot", 1), ("IceParliament$Tape", 62, "spot shade carver skill act feet chips worth by clash nights mild melts carves begin carve prop torch night ayes noes plain hollow thin old not and or ", 2), ("IceParliament$YardReader", 117, "shade", 3), ("IceParliament$YardReader", 66, "carver", 4), ("IceParliament$YardReader", 176, "noes", 5), ("IceParliament$YardReader", 178, "ayes", 6), ("IceParliament$YardReader", 136, "skill", 7), ("IceParliament$YardReader", 71, "act", 8), ("IceParliament$YardReader", 183, "plain", 9), ("IceParliament$YardReader", 188, "hollow", 10), ("IceParliament$YardReader", 190, "thin", 11), ("IceParliament$YardReader", 192, "old", 12), ("IceParliament$YardReader", 146, "feet", 13), ("IceParliament$YardReader", 150, "chips", 14), ("IceParliament$YardReader", 154, "worth", 15), ("IceParliament$YardReader", 158, "by", 16), ("IceParliament$YardReader", 76, "clash", 17), ("IceParliament$YardReader", 81, "nights", 18), ("IceParliament$YardReader", 86, "mild", 19), ("IceParliament$YardReader", 91, "melts", 20), ("IceParliament$LawReader", 71, "not", 21), ("IceParliament$LawReader", 100, "warmth", 22), ("IceParliament$LawReader", 102, "able", 23), ("IceParliament$LawReader", 104, "dark", 24), ("IceParliament$LawReader", 106, "tall", 25), ("IceParliament$LawReader", 108, "done", 26), ("IceParliament$LawReader", 113, "and", 27), ("IceParliament$LawReader", 115, "or", 28), ("IceParliament$YardReader", 96, "carves", 29), ("IceParliament$Session", 69, "begin", 30), ("IceParliament$Session", 75, "carve", 31), ("IceParliament$Session", 77, "prop", 32), ("IceParliament$Session", 79, "torch", 33), ("IceParliament$Session", 81, "night", 34)]
/-- the nest mates' links to has -/
def nestW : List (String × Nat) := [("IceParliament$YardReader", 209), ("IceParliament$State", 69), ("IceParliament$Yard", 134), ("IceParliament$Planner", 118)]
def y_has : MethodName := ⟨"IceParliament", "has", "(II)Z"⟩
section EVI
variable (call : Nat → List AV → Mem → Res) (back : Nat → Lv → Mem → Res) (k : Nat → Lv → List AV → Mem → Res)
def jmp (pc tgt : Nat) (lv : Lv) (st : List AV) (M : Mem) : Res := match Nat.ble tgt pc with
  | true => (match st with
    | [] => back tgt lv M
    | _ => none)
  | false => k tgt lv st M
def ib (f : Int32 → Int32 → Int32) (n : Nat) (lv : Lv) (st : List AV) (M : Mem) : Res := match st with
  | .inl b :: .inl a :: st => k n lv (.inl (f a b) :: st) M
  | _ => none
def jb (f : Int64 → Int64 → Int64) (n : Nat) (lv : Lv) (st : List AV) (M : Mem) : Res := match st with
  | .inr (.inl b) :: .inr (.inl a) :: st => k n lv (.inr (.inl (f a b)) :: st) M
  | _ => none
def cIc (c : ClassFile.Cond) (pc n tgt : Nat) (lv : Lv) (a b : Int32) (st : List AV) (M : Mem) : Res := match c with
  | .eq => if a = b then jmp back k pc tgt lv st M else k n lv st M
  | .ne => if a = b then k n lv st M else jmp back k pc tgt lv st M
  | .lt => if a < b then jmp back k pc tgt lv st M else k n lv st M
  | .ge => if a < b then k n lv st M else jmp back k pc tgt lv st M
  | .gt => if b < a then jmp back k pc tgt lv st M else k n lv st M
  | .le => if b < a then k n lv st M else jmp back k pc tgt lv st M
def gf (x y : Nat) (q : Ref3) (M : Mem) : AV := match fk x y with
  | 1 => .inr (.inl (M.2.1 q.2.2 y))
  | 2 => .inr (.inr (fp x y q.2.2))
  | 3 => .inr (.inr ((fm x y).1, (fm x y).2, M.2.2 q.2.2 y))
  | _ => .inl (M.1 q.2.2 y)
def gfK (n x y : Nat) (lv : Lv) (st : List AV) (M : Mem) : Res := match st with
  | .inr (.inr q) :: st => (match Nat.beq q.1 x with
    | true => (match Nat.beq q.1 40 with
      | true => (match y with
        | 0 => k n lv (.inr (.inr (41, strL q.2.1, SV + q.2.1)) :: st) M
        | _ => k n lv (.inl 0 :: st) M)
      | false => k n lv (gf x y q M :: st) M)
    | false => none)
  | _ => none
def pfK (n x y : Nat) (lv : Lv) (st : List AV) (M : Mem) : Res := match st with
  | v :: .inr (.inr q) :: st => (match Nat.beq q.1 x with
    | true => (match fk x y, v with
      | 0, .inl v => k n lv st (sI M q.2.2 y v)
      | 4, .inl v => if v &&& 1 = v then k n lv st (sI M q.2.2 y v) else none
      | 1, .inr (.inl v) => k n lv st (sJ M q.2.2 y v)
      | 3, .inr (.inr r) => (match Nat.beq r.1 (fm x y).1, Nat.beq r.2.1 (fm x y).2 with
        | true, true => k n lv st (sR M q.2.2 y r.2.2)
        | _, _ => none)
      | _, _ => none)
    | false => none)
  | _ => none
/-- an element is read: of an array of the tag t0 -/
def alK (t0 : Nat) (f : Mem → Ref3 → Nat → AV) (n : Nat) (lv : Lv) (st : List AV) (M : Mem) : Res := match st with
  | .inl i :: .inr (.inr q) :: st => (match Nat.beq q.1 t0 with
    | true => if i < 0 ∨ q.2.1 ≤ i.toNatClampNeg then none else k n lv (f M q i.toNatClampNeg :: st) M
    | false => none)
  | _ => none
def asK (t0 : Nat) (f : Int32 → Int32) (n : Nat) (lv : Lv) (st : List AV) (M : Mem) : Res := match st with
  | .inl v :: .inl i :: .inr (.inr q) :: st => (match Nat.beq q.1 t0 with
    | true => if i < 0 ∨ q.2.1 ≤ i.toNatClampNeg then none else k n lv st (sI M q.2.2 i.toNatClampNeg (f v))
    | false => none)
  | _ => none
def cpK (n : Nat) (lv : Lv) (st : List AV) (M : Mem) : Res := match st with
  | .inl c :: .inl dp :: .inr (.inr b) :: .inl sp :: .inr (.inr a) :: st =>
    if sp < 0 ∨ dp < 0 ∨ c < 0 ∨ a.2.1 < sp.toNatClampNeg + c.toNatClampNeg ∨ b.2.1 < dp.toNatClampNeg + c.toNatClampNeg then none else
    (match Nat.ble (catS st) 8, a.1, b.1 with
    | true, 20, 20 => k n lv st (cpI M a.2.2 sp.toNatClampNeg b.2.2 dp.toNatClampNeg c.toNatClampNeg)
    | true, 23, 23 => k n lv st (cpJ M a.2.2 sp.toNatClampNeg b.2.2 dp.toNatClampNeg c.toNatClampNeg)
    | _, _, _ => none)
  | _ => none
def invK (n x y z : Nat) (lv : Lv) (st : List AV) (M : Mem) : Res := match popA y [] st with
  | some (as, st) => (match Nat.ble (catS st) 8 with
    | true => (match z with
      | 0 => cVd (call x as M) (fun M => k n lv st M)
      | 1 => cIn (call x as M) (fun v M => k n lv (.inl v :: st) M)
      | 2 => cLo (call x as M) (fun v M => k n lv (.inr (.inl v) :: st) M)
      | _ => none)
    | false => none)
  | none => none
def stepK (e : Ent) (pc : Nat) (lv : Lv) (st : List AV) (M : Mem) : Res := match e with
  | (i, len, x, y, z, cI, cJ) => match i with
    | .iconst _ => k (pc + len) lv (.inl cI :: st) M
    | .bipush _ => k (pc + len) lv (.inl cI :: st) M
    | .sipush _ => k (pc + len) lv (.inl cI :: st) M
    | .ldc _ => (match z with
      | 0 => k (pc + len) lv (.inl cI :: st) M
      | _ => k (pc + len) lv (.inr (.inr (40, y, SB + y)) :: st) M)
    | .ldc_w _ => k (pc + len) lv (.inl cI :: st) M
    | .ldc2_w _ => k (pc + len) lv (.inr (.inl cJ) :: st) M
    | .lconst _ => k (pc + len) lv (.inr (.inl cJ) :: st) M
    | .getstatic _ => (match z with
      | 0 => k (pc + len) lv (.inl 1 :: st) M
      | _ => k (pc + len) lv (.inr (.inr (50, 0, SF0)) :: st) M)
    | .iload_n _ => (match lvat lv x with
      | some (.inl v) => k (pc + len) lv (.inl v :: st) M
      | _ => none)
    | .iload _ => (match lvat lv x with
      | some (.inl v) => k (pc + len) lv (.inl v :: st) M
      | _ => none)
    | .lload_n _ => (match lvat lv x with
      | some (.inr (.inl v)) => k (pc + len) lv (.inr (.inl v) :: st) M
      | _ => none)
    | .lload _ => (match lvat lv x with
      | some (.inr (.inl v)) => k (pc + len) lv (.inr (.inl v) :: st) M
      | _ => none)
    | .aload_n _ => (match lvat lv x with
      | some (.inr (.inr v)) => k (pc + len) lv (.inr (.inr v) :: st) M
      | _ => none)
    | .aload _ => (match lvat lv x with
      | some (.inr (.inr v)) => k (pc + len) lv (.inr (.inr v) :: st) M
      | _ => none)
    | .istore_n _ => (match st with
      | .inl v :: st => k (pc + len) (stl lv x (.inl v)) st M
      | _ => none)
    | .istore _ => (match st with
      | .inl v :: st => k (pc + len) (stl lv x (.inl v)) st M
      | _ => none)
    | .astore_n _ => (match st with
      | .inr (.inr v) :: st => k (pc + len) (stl lv x (.inr (.inr v))) st M
      | _ => none)
    | .astore _ => (match st with
      | .inr (.inr v) :: st => k (pc + len) (stl lv x (.inr (.inr v))) st M
      | _ => none)
    | .lstore_n _ => (match st with
      | .inr (.inl v) :: st => k (pc + len) (stl2 lv x (.inr (.inl v))) st M
      | _ => none)
    | .lstore _ => (match st with
      | .inr (.inl v) :: st => k (pc + len) (stl2 lv x (.inr (.inl v))) st M
      | _ => none)
    | .iinc _ _ => (match lvat lv x with
      | some (.inl v) => k (pc + len) (stl lv x (.inl (v + cI))) st M
      | _ => none)
    | .iadd => ib k (fun a b => a + b) (pc + len) lv st M
    | .isub => ib k (fun a b => a - b) (pc + len) lv st M
    | .imul => ib k (fun a b => a * b) (pc + len) lv st M
    | .iand => ib k (fun a b => a &&& b) (pc + len) lv st M
    | .ior => ib k (fun a b => a ||| b) (pc + len) lv st M
    | .ixor => ib k (fun a b => a ^^^ b) (pc + len) lv st M
    | .ishl => ib k (fun a b => a <<< (b &&& 31)) (pc + len) lv st M
    | .ishr => ib k (fun a b => a >>> (b &&& 31)) (pc + len) lv st M
    | .iushr => ib k (fun a b => (a.toUInt32 >>> (b.toUInt32 &&& Int32.toUInt32 31)).toInt32) (pc + len) lv st M
    | .idiv => (match st with
      | .inl b :: .inl a :: st => if b = 0 then none else k (pc + len) lv (.inl (a / b) :: st) M
      | _ => none)
    | .irem => (match st with
      | .inl b :: .inl a :: st => if b = 0 then none else k (pc + len) lv (.inl (a - a / b * b) :: st) M
      | _ => none)
    | .ineg => (match st with
      | .inl a :: st => k (pc + len) lv (.inl (-a) :: st) M
      | _ => none)
    | .ladd => jb k (fun a b => a + b) (pc + len) lv st M
    | .lsub => jb k (fun a b => a - b) (pc + len) lv st M
    | .lmul => jb k (fun a b => a * b) (pc + len) lv st M
    | .land => jb k (fun a b => a &&& b) (pc + len) lv st M
    | .lor => jb k (fun a b => a ||| b) (pc + len) lv st M
    | .ldiv => (match st with
      | .inr (.inl b) :: .inr (.inl a) :: st => if b = 0 then none else k (pc + len) lv (.inr (.inl (a / b)) :: st) M
      | _ => none)
    | .lrem => (match st with
      | .inr (.inl b) :: .inr (.inl a) :: st => if b = 0 then none else k (pc + len) lv (.inr (.inl (a - a / b * b)) :: st) M
      | _ => none)
    | .lshl => (match st with
      | .inl b :: .inr (.inl a) :: st => k (pc + len) lv (.inr (.inl (a <<< (b.toInt64 &&& 63))) :: st) M
      | _ => none)
    | .lshr => (match st with
      | .inl b :: .inr (.inl a) :: st => k (pc + len) lv (.inr (.inl (a >>> (b.toInt64 &&& 63))) :: st) M
      | _ => none)
    | .lushr => (match st with
      | .inl b :: .inr (.inl a) :: st => k (pc + len) lv (.inr (.inl (a.toUInt64 >>> (b.toInt64.toUInt64 &&& Int64.toUInt64 63)).toInt64) :: st) M
      | _ => none)
    | .lcmp => (match st with
      | .inr (.inl b) :: .inr (.inl a) :: st => k (pc + len) lv (.inl (lg_cmp a b) :: st) M
      | _ => none)
    | .i2l => (match st with
      | .inl a :: st => k (pc + len) lv (.inr (.inl a.toInt64) :: st) M
      | _ => none)
    | .l2i => (match st with
      | .inr (.inl a) :: st => k (pc + len) lv (.inl a.toInt32 :: st) M
      | _ => none)
    | .i2c => (match st with
      | .inl a :: st => k (pc + len) lv (.inl (a.toUInt32 % 65536).toInt32 :: st) M
      | _ => none)
    | .i2b => (match st with
      | .inl a :: st => k (pc + len) lv (.inl a.toInt8.toInt32 :: st) M
      | _ => none)
    | .dup => (match st with
      | .inl a :: st => k (pc + len) lv (.inl a :: .inl a :: st) M
      | .inr (.inr a) :: st => k (pc + len) lv (.inr (.inr a) :: .inr (.inr a) :: st) M
      | _ => none)
    | .pop => (match st with
      | .inl _ :: st => k (pc + len) lv st M
      | _ => none)
    | .dup2 => (match st with
      | .inl b :: .inr (.inr a) :: st => k (pc + len) lv (.inl b :: .inr (.inr a) :: .inl b :: .inr (.inr a) :: st) M
      | _ => none)
    | .ifCond c _ => (match st with
      | .inl a :: st => cIc back k c pc (pc + len) y lv a 0 st M
      | _ => none)
    | .if_icmp c _ => (match st with
      | .inl b :: .inl a :: st => cIc back k c pc (pc + len) y lv a b st M
      | _ => none)
    | .goto _ => jmp back k pc y lv st M
    | .tableswitch d lo _ os => (match st with
      | .inl v :: st => swk v (fun o => k ((pc : Int) + o).toNat lv st M) d lo os.toList
      | _ => none)
    | .getfield _ => gfK k (pc + len) x y lv st M
    | .putfield _ => pfK k (pc + len) x y lv st M
    | .iaload => alK k 20 (fun M q i => .inl (M.1 q.2.2 i)) (pc + len) lv st M
    | .caload => alK k 21 (fun M q i => .inl (M.1 q.2.2 i)) (pc + len) lv st M
    | .baload => (match z with
      | 0 => alK k 22 (fun M q i => .inl (M.1 q.2.2 i)) (pc + len) lv st M
      | _ => alK k 41 (fun _ q i => .inl (strB (q.2.2 - SV) i)) (pc + len) lv st M)
    | .laload => alK k 23 (fun M q i => .inr (.inl (M.2.1 q.2.2 i))) (pc + len) lv st M
    | .aaload => (match z with
      | 0 => alK k 24 (fun M q i => .inr (.inr (6, 0, M.2.2 q.2.2 i))) (pc + len) lv st M
      | _ => alK k z (fun _ q i => .inr (.inr (20, rowL z, q.2.2 + 1 + i))) (pc + len) lv st M)
    | .iastore => asK k 20 (fun v => v) (pc + len) lv st M
    | .castore => asK k 21 (fun v => vp_nar .char v) (pc + len) lv st M
    | .bastore => asK k 22 (fun v => vp_nar .boolean v) (pc + len) lv st M
    | .lastore => (match st with
      | .inr (.inl v) :: .inl i :: .inr (.inr q) :: st => (match Nat.beq q.1 23 with
        | true => if i < 0 ∨ q.2.1 ≤ i.toNatClampNeg then none else k (pc + len) lv st (sJ M q.2.2 i.toNatClampNeg v)
        | false => none)
      | _ => none)
    | .aastore => (match st with
      | .inr (.inr v) :: .inl i :: .inr (.inr q) :: st => (match Nat.beq q.1 24, Nat.beq v.1 6, Nat.beq v.2.1 0 with
        | true, true, true => if i < 0 ∨ q.2.1 ≤ i.toNatClampNeg then none else k (pc + len) lv st (sR M q.2.2 i.toNatClampNeg v.2.2)
        | _, _, _ => none)
      | _ => none)
    | .arraylength => (match st with
      | .inr (.inr q) :: st => (match Nat.ble 20 q.1, Nat.beq q.1 40 with
        | true, false => k (pc + len) lv (.inl (Int32.ofNat q.2.1) :: st) M
        | _, _ => none)
      | _ => none)
    | .invokevirtual _ => invK call k (pc + len) x y z lv st M
    | .invokestatic _ => (match z with
      | 9 => cpK k (pc + len) lv st M
      | _ => invK call k (pc + len) x y z lv st M)
    | .ireturn => (match st with
      | [.inl v] => (match z with
        | 0 => some (some (.inl v), M)
        | 1 => if v &&& 1 = v then some (some (.inl v), M) else none
        | 2 => if vp_nar .byte v = v then some (some (.inl v), M) else none
        | _ => if vp_nar .char v = v then some (some (.inl v), M) else none)
      | _ => none)
    | .lreturn => (match st with
      | [.inr (.inl v)] => some (some (.inr (.inl v)), M)
      | _ => none)
    | .return_ => (match st with
      | [] => some (none, M)
      | _ => none)
    | _ => none
end EVI
section EVJ
variable (code : Nat → Option Ent) (call : Nat → List AV → Mem → Res)
/-- from pc on, till a jump back or the end; at most so many steps -/
def evi (back : Nat → Lv → Mem → Res) : Nat → Nat → Lv → List AV → Mem → Res
  | 0, _, _, _, _ => none
  | B + 1, pc, lv, st, M => match code pc with
    | none => none
    | some e => stepK call back (evi back B) e pc lv st M
/-- from a loop's head on, at most so many jumps back -/
def evo : Nat → Nat → Lv → Mem → Res
  | 0, _, _, _ => none
  | F + 1, pc, lv, M => evi code call (evo F) 4000 pc lv [] M
end EVJ
end
section
/-! THE MACHINE OVER THE ABSTRACT STATE: WPs says that the machine, at pc with these locals and this stack over the memory M, returns r.1 and leaves the memory r.2. -/
def lw_g : List Cond := lw_tbl.filter goodWord
theorem lw_goodIn {x : Cond} (h : x ∈ lw_g) : GoodIn lw_g (x :: lw_g) := by
  intro w hw
  have hm : w ∈ lw_g := by
    rcases List.mem_cons.mp hw with e | e
    · rw [e]; exact h
    · exact e
  exact ⟨hm, good_of_word (List.mem_filter.mp hm).2⟩
theorem lw_mem {x : Cond} (i : Nat) (h : lw_tbl[i]? = some x) (hg : goodWord x = true) : x ∈ lw_g := List.mem_filter.mpr ⟨List.mem_of_getElem? h, hg⟩
theorem cl_good : ∀ t, t < 13 → (u_ws (clR t) (clT t) (clN t)).all goodWord = true
  | 0, _ => by decide +kernel
  | 1, _ => by decide +kernel
  | 2, _ => by decide +kernel
  | 3, _ => by decide +kernel
  | 4, _ => by decide +kernel
  | 5, _ => by decide +kernel
  | 6, _ => by decide +kernel
  | 7, _ => by decide +kernel
  | 8, _ => by decide +kernel
  | 9, _ => by decide +kernel
  | 10, _ => by decide +kernel
  | 11, _ => by decide +kernel
  | 12, _ => by decide +kernel
  | t + 13, h => absurd h (by omega)
theorem cl_ing (t : Nat) (h : t < 13) : ∀ w ∈ u_ws (clR t) (clT t) (clN t), w ∈ lw_g := fun w hw => List.mem_filter.mpr ⟨cl_in t h w hw, List.all_eq_true.mp (cl_good t h) w hw⟩
def rmD (d : Nat) : Room := { frames := d, cells := 0, slots := 0, locals := 60 * d }
def SFc (ρ : Nat → Nat) (A : Nat → Prop) (s : State) (H : Heap) : Prop :=
  vk_S 35 (strT.map List.length) strT (fun i => ρ (SB + i)) (fun i => ρ (SV + i)) A s H ∧ va_Z "java/lang/String" "COMPACT_STRINGS" "Z" (.int 1) A s H ∧ va_Z "jdk/internal/util/Preconditions" "SIOOBE_FORMATTER" "Ljava/util/function/BiFunction;" (.ref (ρ SF0)) A s H
def SWc (ρ : Nat → Nat) (s : State) : Prop := (∀ e ∈ strW, vk_R e.1 e.2.1 e.2.2.1 (ρ (SB + e.2.2.2)) s) ∧ ∀ e ∈ nestW, va_Nw (.methodLinkNest e.1 e.2 y_has "IceParliament") s
def VOK (w : List Ref3) : AV → Prop
  | .inr (.inr q) => q ∈ w ∨ (∃ i, i < 35 ∧ q = (40, i, SB + i)) ∨ (∃ i, i < 35 ∧ q = (41, strL i, SV + i)) ∨ q = (50, 0, SF0)
  | _ => True
def WT (w : List Ref3) : Prop := ∀ q ∈ w, q.1 < 13 ∨ (20 ≤ q.1 ∧ q.1 ≤ 24) ∨ (30 ≤ q.1 ∧ q.1 ≤ 32)
def VOKs (w : List Ref3) (st : List AV) : Prop := ∀ v ∈ st, VOK w v
def VOKl (w : List Ref3) (lv : Lv) : Prop := ∀ i v, lvat lv i = some v → VOK w v
def BX (own : String) (cc : ByteArray) (nL : Nat) (ret : Option FieldType) (p : Program) (s : State) (m : MethodId) (args : Array Value) (meth : Method) (c : Code) : Prop :=
  p.tables.exec = Jvm.exec ∧ c.code = cc ∧ c.maxLocals = nL ∧ s.vm.findClass own = some m.cls ∧ (∀ w ∈ lw_g, w.before args s = true) ∧ meth.sig.returnType = ret ∧ meth.locks = false
def KX (dC : Nat → ClassId) (dI : Nat → Nat → Nat) (cA : Nat → ClassId) (ρ : Nat → Nat) (A : Nat → Prop) (s : State) : Prop :=
  va_K (dC, dI) vwCl (tysOf cA) s ∧ SFc ρ A s s.heap ∧ SWc ρ s ∧ ∀ q, s.heap.size ≤ q → A q
def lvOK (ρ : Nat → Nat) (ls : Array Slot) (nL : Nat) (lv : Lv) : Prop := ∃ l, lv_has ls nL l ∧ ∀ i v, lvat lv i = some v → (i, cv ρ v) ∈ l
def QcR (dC : Nat → ClassId) (dI : Nat → Nat → Nat) (cA : Nat → ClassId) (ρ : Nat → Nat) (w : List Ref3) (A : Nat → Prop) (r : Option AV × Mem) : Array Value → State → Outcome → State → Prop := fun _ st oc t =>
  oc = .returned (r.1.map (cv ρ)) ∧ va_P (dC, dI) vwCl (wsOf ρ cA r.2 w) t.heap ∧ va_K (dC, dI) vwCl (tysOf cA) t ∧ va_F A st t
def WPs (w : List Ref3) (own : String) (cc : ByteArray) (nL : Nat) (ret : Option FieldType) (d pc : Nat) (lv : Lv) (st : List AV) (M : Mem) (r : Option AV × Mem) : Prop :=
  ∀ (p : Program) (l : Launch) (e : Env) (s : State) (m : MethodId) (args : Array Value) (below : List Frame) (meth : Method) (c : Code) (dC : Nat → ClassId) (dI : Nat → Nat → Nat) (cA : Nat → ClassId) (ρ : Nat → Nat) (A : Nat → Prop) (H : Heap) (locs : List Loc) (ls : Array Slot),
    BX own cc nL ret p s m args meth c → KX dC dI cA ρ A s → va_P (dC, dI) vwCl (wsOf ρ cA M w) H → va_D A (wsOf ρ cA M w) → va_S A s.heap H locs → lvOK ρ ls nL lv →
    W p l e (rmD d) s m args below meth c H locs 0 0 (MQ below (QcR dC dI cA ρ w A r) args s 0 0 A) (F0 m pc ls (st.map (cv ρ)))
section RW
variable {w : List Ref3} {own : String} {cc : ByteArray} {nL : Nat} {ret : Option FieldType} {d pc : Nat} {lv : Lv} {st : List AV} {M : Mem} {r : Option AV × Mem}
theorem x_int {n : Nat} {v : Int32} (hrow : ∀ {p : Program} {l : Launch} {e : Env} {R : Room} {s : State} {m : MethodId} {args : Array Value} {below : List Frame} {meth : Method} {c : Code} {H : Heap} {locs : List Loc} {cells slots : Nat} {Q : State → Prop} {ls : Array Slot} {rest : List Value}, p.tables.exec = Jvm.exec → c.code = cc → s.vm.findClass own = some m.cls → (∀ w ∈ lw_g, w.before args s = true) → W p l e R s m args below meth c H locs cells slots Q (F0 m n ls (.int v :: rest)) → W p l e R s m args below meth c H locs cells slots Q (F0 m pc ls rest))
    (k : WPs w own cc nL ret d n lv (.inl v :: st) M r) : WPs w own cc nL ret d pc lv st M r := by
  intro p l e s m args below meth c dC dI cA ρ A H locs ls hB hK hP hD hS hl
  exact hrow hB.1 hB.2.1 hB.2.2.2.1 hB.2.2.2.2.1 (k p l e s m args below meth c dC dI cA ρ A H locs ls hB hK hP hD hS hl)
theorem x_long {n : Nat} {v : Int64} (hrow : ∀ {p : Program} {l : Launch} {e : Env} {R : Room} {s : State} {m : MethodId} {args : Array Value} {below : List Frame} {meth : Method} {c : Code} {H : Heap} {locs : List Loc} {cells slots : Nat} {Q : State → Prop} {ls : Array Slot} {rest : List Value}, p.tables.exec = Jvm.exec → c.code = cc → s.vm.findClass own = some m.cls → (∀ w ∈ lw_g, w.before args s = true) → W p l e R s m args below meth c H locs cells slots Q (F0 m n ls (.long v :: rest)) → W p l e R s m args below meth c H locs cells slots Q (F0 m pc ls rest))
    (k : WPs w own cc nL ret d n lv (.inr (.inl v) :: st) M r) : WPs w own cc nL ret d pc lv st M r := by
  intro p l e s m args below meth c dC dI cA ρ A H locs ls hB hK hP hD hS hl
  exact hrow hB.1 hB.2.1 hB.2.2.2.1 hB.2.2.2.2.1 (k p l e s m args below meth c dC dI cA ρ A H locs ls hB hK hP hD hS hl)
/-- a row that changes the stack alone -/
theorem x_st {n : Nat} {st' : List AV} (hrow : ∀ {ρ : Nat → Nat} {p : Program} {l : Launch} {e : Env} {R : Room} {s : State} {m : MethodId} {args : Array Value} {below : List Frame} {meth : Method} {c : Code} {H : Heap} {locs : List Loc} {cells slots : Nat} {Q : State → Prop} {ls : Array Slot}, p.tables.exec = Jvm.exec → c.code = cc → W p l e R s m args below meth c H locs cells slots Q (F0 m n ls (st'.map (cv ρ))) → W p l e R s m args below meth c H locs cells slots Q (F0 m pc ls (st.map (cv ρ))))
    (k : WPs w own cc nL ret d n lv st' M r) : WPs w own cc nL ret d pc lv st M r := by
  intro p l e s m args below meth c dC dI cA ρ A H locs ls hB hK hP hD hS hl
  exact hrow hB.1 hB.2.1 (k p l e s m args below meth c dC dI cA ρ A H locs ls hB hK hP hD hS hl)
/-- a row with two ways -/
theorem x_br {n1 n2 : Nat} {st' : List AV} {P : Prop} (hrow : ∀ {ρ : Nat → Nat} {p : Program} {l : Launch} {e : Env} {R : Room} {s : State} {m : MethodId} {args : Array Value} {below : List Frame} {meth : Method} {c : Code} {H : Heap} {locs : List Loc} {cells slots : Nat} {Q : State → Prop} {ls : Array Slot}, p.tables.exec = Jvm.exec → c.code = cc → (P → W p l e R s m args below meth c H locs cells slots Q (F0 m n1 ls (st'.map (cv ρ)))) → (¬ P → W p l e R s m args below meth c H locs cells slots Q (F0 m n2 ls (st'.map (cv ρ)))) → W p l e R s m args below meth c H locs cells slots Q (F0 m pc ls (st.map (cv ρ))))
    (k1 : P → WPs w own cc nL ret d n1 lv st' M r) (k2 : ¬ P → WPs w own cc nL ret d n2 lv st' M r) : WPs w own cc nL ret d pc lv st M r := by
  intro p l e s m args below meth c dC dI cA ρ A H locs ls hB hK hP hD hS hl
  exact hrow hB.1 hB.2.1 (fun h => k1 h p l e s m args below meth c dC dI cA ρ A H locs ls hB hK hP hD hS hl) (fun h => k2 h p l e s m args below meth c dC dI cA ρ A H locs ls hB hK hP hD hS hl)
/-- a local is read -/
theorem x_ld {n i : Nat} {v : AV} (hv : lvat lv i = some v) (hrow : ∀ {ρ : Nat → Nat} {p : Program} {l : Launch} {e : Env} {R : Room} {s : State} {m : MethodId} {args : Array Value} {below : List Frame} {meth : Method} {c : Code} {H : Heap} {locs : List Loc} {cells slots : Nat} {Q : State → Prop} {ls : Array Slot} {rest : List Value}, p.tables.exec = Jvm.exec → c.code = cc → ls[i]? = some (.val (cv ρ v)) → W p l e R s m args below meth c H locs cells slots Q (F0 m n ls (cv ρ v :: rest)) → W p l e R s m args below meth c H locs cells slots Q (F0 m pc ls rest))
    (k : WPs w own cc nL ret d n lv (v :: st) M r) : WPs w own cc nL ret d pc lv st M r := by
  intro p l e s m args below meth c dC dI cA ρ A H locs ls hB hK hP hD hS hl
  obtain ⟨l0, h1, h2⟩ := id hl
  exact hrow hB.1 hB.2.1 (h1.2.2 _ (h2 i v hv)) (k p l e s m args below meth c dC dI cA ρ A H locs ls hB hK hP hD hS hl)
theorem lvat_lst : ∀ (lv : Lv) (i j : Nat) (v : Option AV) (x : AV), lvat (lst lv i v) j = some x → (j = i ∧ v = some x) ∨ (j ≠ i ∧ lvat lv j = some x)
  | [], _, _, _, _, h => by simp [lst, lvat] at h
  | a :: t, 0, 0, v, x, h => by simp [lst, lvat] at h; exact Or.inl ⟨rfl, h⟩
  | a :: t, 0, j + 1, v, x, h => by simp [lst, lvat] at h; exact Or.inr ⟨by omega, by simpa [lvat] using h⟩
  | a :: t, i + 1, 0, v, x, h => by simp [lst, lvat] at h; exact Or.inr ⟨by omega, by simpa [lvat] using h⟩
  | a :: t, i + 1, j + 1, v, x, h => by
    simp [lst, lvat] at h
    rcases lvat_lst t i j v x h with ⟨e, h⟩ | ⟨e, h⟩
    · exact Or.inl ⟨by omega, h⟩
    · exact Or.inr ⟨by omega, by simpa [lvat] using h⟩
theorem isJ_cat {ρ : Nat → Nat} {x : AV} (h : isJ (some x) = false) : (cv ρ x).category = 1 := by
  rcases x with x | x | x
  · rfl
  · simp [isJ] at h
  · rfl
theorem lvat_stl {lv : Lv} {i j : Nat} {v x : AV} (h : lvat (stl lv i v) j = some x) : (j = i ∧ v = x) ∨ (j ≠ i ∧ lvat lv j = some x ∧ (j + 1 = i → isJ (some x) = false)) := by
  cases i with
  | zero =>
    rcases lvat_lst _ _ _ _ _ h with ⟨e, h⟩ | ⟨e, h⟩
    · exact Or.inl ⟨e, Option.some.inj h⟩
    · exact Or.inr ⟨e, h, fun z => by omega⟩
  | succ i =>
    simp only [stl] at h
    cases hj : isJ (lvat lv i) with
    | true =>
      rw [hj] at h
      rcases lvat_lst _ _ _ _ _ h with ⟨e, h⟩ | ⟨e, h⟩
      · exact Or.inl ⟨e, Option.some.inj h⟩
      · rcases lvat_lst _ _ _ _ _ h with ⟨e2, h⟩ | ⟨e2, h⟩
        · cases h
        · exact Or.inr ⟨e, h, fun z => by omega⟩
    | false =>
      rw [hj] at h
      rcases lvat_lst _ _ _ _ _ h with ⟨e, h5⟩ | ⟨e, h5⟩
      · exact Or.inl ⟨e, Option.some.inj h5⟩
      · refine Or.inr ⟨e, h5, fun z => ?_⟩
        have : j = i := by omega
        subst this
        rw [← h5]; exact hj
theorem lvOK_stl {ρ : Nat → Nat} {ls ls' : Array Slot} {i : Nat} {v : AV} {l : List (Nat × Value)} (h2 : ∀ i v, lvat lv i = some v → (i, cv ρ v) ∈ l) (h : lv_has ls' nL ((i, cv ρ v) :: l.filter (fun q => !(q.1 == i) && !(q.1 + 1 == i && q.2.category == 2)))) : lvOK ρ ls' nL (stl lv i v) := by
  refine ⟨_, h, fun j x hx => ?_⟩
  rcases lvat_stl hx with ⟨e, h3⟩ | ⟨e, h3, h4⟩
  · subst e; subst h3; exact List.mem_cons_self
  · refine List.mem_cons_of_mem _ (List.mem_filter.mpr ⟨h2 j x h3, ?_⟩)
    by_cases z : j + 1 = i
    · simp [e, isJ_cat (ρ := ρ) (h4 z)]
    · simp [e, z]
theorem lvOK_stl2 {ρ : Nat → Nat} {ls ls' : Array Slot} {i : Nat} {v : AV} {l : List (Nat × Value)} (h2 : ∀ i v, lvat lv i = some v → (i, cv ρ v) ∈ l) (h : lv_has ls' nL ((i, cv ρ v) :: l.filter (fun q => !(q.1 == i) && (!(q.1 == i + 1) && !(q.1 + 1 == i && q.2.category == 2))))) : lvOK ρ ls' nL (stl2 lv i v) := by
  refine ⟨_, h, fun j x hx => ?_⟩
  rcases lvat_lst _ _ _ _ _ hx with ⟨e0, h0⟩ | ⟨e0, hx⟩
  · cases h0
  rcases lvat_stl hx with ⟨e, h3⟩ | ⟨e, h3, h4⟩
  · subst e; subst h3; exact List.mem_cons_self
  · refine List.mem_cons_of_mem _ (List.mem_filter.mpr ⟨h2 j x h3, ?_⟩)
    by_cases z : j + 1 = i
    · simp [e, e0, isJ_cat (ρ := ρ) (h4 z)]
    · simp [e, e0, z]
end RW
end
section
/-! ROWS OVER THE HEAP -/
theorem ct_own : ∀ x, x < 13 → ∀ y, y < clN x → ((clT x) y).1 = clR x := by decide +kernel
theorem ct_fin : ∀ x, x < 13 → ∀ y, y < clN x → fk x y ≠ 2 → ((clT x) y).2.2.2 = false := by decide +kernel
theorem ct_int : ∀ x, x < 13 → ∀ y, y < clN x → fk x y = 0 → clY x y = .int := by decide +kernel
theorem ct_bool : ∀ x, x < 13 → ∀ y, y < clN x → fk x y = 4 → clY x y = .boolean := by decide +kernel
theorem ct_long : ∀ x, x < 13 → ∀ y, y < clN x → fk x y = 1 → clY x y = .long := by decide +kernel
theorem ct_ref : ∀ x, x < 13 → ∀ y, y < clN x → fk x y = 3 → ∀ a, narrow (clY x y) (.ref a) = .ref a ∧ fits (clY x y) (.ref a) = true := by
  intro x hx y hy h a
  have : ∀ x, x < 13 → ∀ y, y < clN x → fk x y = 3 → (x = 2 ∧ y = 4) := by decide +kernel
  obtain ⟨rfl, rfl⟩ := this x hx y hy h
  exact ⟨rfl, rfl⟩
theorem gf_cv {ρ : Nat → Nat} {x y : Nat} {q : Ref3} {M : Mem} (hk : fk x y ≤ 4) : cv ρ (gf x y q M) = fv ρ M x q.2.2 y := by
  unfold gf fv
  generalize fk x y = z at hk ⊢
  match z, hk with
  | 0, _ => rfl
  | 1, _ => rfl
  | 2, _ => rfl
  | 3, _ => rfl
  | 4, _ => rfl
theorem fk_le : ∀ x, x < 13 → ∀ y, y < clN x → fk x y ≤ 4 := by decide +kernel
theorem ce_obj {ρ : Nat → Nat} {cA : Nat → ClassId} {M : Mem} {q : Ref3} (h : q.1 < 13) : ce ρ cA M q = .inr (q.1, fvs ρ M q.1 q.2.2) := if_pos h
theorem ce_int {ρ : Nat → Nat} {cA : Nat → ClassId} {M : Mem} {q : Ref3} (h : q.1 = 20 ∨ q.1 = 21 ∨ q.1 = 22) : ce ρ cA M q = .inl (cA q.1, q.2.1, .inl (M.1 q.2.2)) := by
  obtain ⟨t, n, k⟩ := q
  rcases h with h | h | h <;> (dsimp only at h; subst h; rfl)
theorem ce_long {ρ : Nat → Nat} {cA : Nat → ClassId} {M : Mem} {q : Ref3} (h : q.1 = 23) : ce ρ cA M q = .inl (cA 23, q.2.1, .inr (.inl (M.2.1 q.2.2))) := by
  obtain ⟨t, n, k⟩ := q
  dsimp only at h; subst h; rfl
theorem ce_st {ρ : Nat → Nat} {cA : Nat → ClassId} {M : Mem} {q : Ref3} (h : q.1 = 24) : ce ρ cA M q = .inl (cA 24, q.2.1, .inr (.inr (.inr (.inr (fun j => some (ρ (M.2.2 q.2.2 j))))))) := by
  obtain ⟨t, n, k⟩ := q
  dsimp only at h; subst h; rfl
theorem ce_grid {ρ : Nat → Nat} {cA : Nat → ClassId} {M : Mem} {q : Ref3} (h : q.1 = 30 ∨ q.1 = 31 ∨ q.1 = 32) : ce ρ cA M q = .inl (cA 25, q.2.1, .inr (.inr (.inr (.inr (fun j => some (ρ (q.2.2 + 1 + j))))))) := by
  obtain ⟨t, n, k⟩ := q
  rcases h with h | h | h <;> (dsimp only at h; subst h; rfl)
section RH
variable {w : List Ref3} {own : String} {cc : ByteArray} {nL : Nat} {ret : Option FieldType} {d pc : Nat} {lv : Lv} {st : List AV} {M : Mem} {r : Option AV × Mem} {q : Ref3}
theorem x_get {x y index : Nat} (hx : x < 13) (hy : y < clN x) (hq : q ∈ w) (hqx : q.1 = x) (hl : Cond.fieldLink own index (clR x) ((clT x) y).2.1 ((clT x) y).2.2.1 ∈ lw_g) (hdg : decode cc pc = .ok (.getfield index, 3))
    (k : WPs w own cc nL ret d (pc + 3) lv (gf x y q M :: st) M r) : WPs w own cc nL ret d pc lv (.inr (.inr q) :: st) M r := by
  intro p l e s m args below meth c dC dI cA ρ A H locs ls hB hK hP hD hS hlv
  obtain ⟨i, hi⟩ := List.getElem?_of_mem hq
  subst hqx
  have he := wsOf_at (ρ := ρ) (cA := cA) (M := M) hi
  rw [ce_obj hx] at he
  have hk := k p l e s m args below meth c dC dI cA ρ A H locs ls hB hK hP hD hS hlv
  refine va_get (ref := clR q.1) hB.1 hB.2.1 hB.2.2.2.2.1 (cl_ing q.1 hx) hB.2.2.2.1 hK.1 hP i he (cl_at q.1 hx) y hy (hB.2.2.2.2.1 _ hl) (fun z hz => by rw [ct_own q.1 hx y hy] at hz; exact hz) (fvs_at hy) hdg ?_
  rw [← gf_cv (fk_le q.1 hx y hy)]
  exact hk
theorem x_put {x y index : Nat} {v : AV} {M' : Mem} (hx : x < 13) (hy : y < clN x) (hq : q ∈ w) (hqx : q.1 = x) (hf : fk x y ≠ 2) (hn : ∀ ρ, narrow (clY x y) (cv ρ v) = cv ρ v ∧ fits (clY x y) (cv ρ v) = true)
    (hv : ∀ ρ, fv ρ M' x q.2.2 y = cv ρ v) (hv2 : ∀ ρ i, i ≠ y → fv ρ M' x q.2.2 i = fv ρ M x q.2.2 i) (ho : ∀ ρ cA (q' : Ref3), q'.2.2 ≠ q.2.2 → ce ρ cA M' q' = ce ρ cA M q')
    (hl : Cond.fieldLink own index (clR x) ((clT x) y).2.1 ((clT x) y).2.2.1 ∈ lw_g) (hdg : decode cc pc = .ok (.putfield index, 3))
    (k : WPs w own cc nL ret d (pc + 3) lv st M' r) : WPs w own cc nL ret d pc lv (v :: .inr (.inr q) :: st) M r := by
  intro p l e s m args below meth c dC dI cA ρ A H locs ls hB hK hP hD hS hlv
  obtain ⟨i, hi⟩ := List.getElem?_of_mem hq
  subst hqx
  have he := wsOf_at (ρ := ρ) (cA := cA) (M := M) hi
  rw [ce_obj hx] at he
  refine va_put (ref := clR q.1) hB.1 hB.2.1 hB.2.2.2.2.1 (cl_ing q.1 hx) (clY q.1) (cl_ty q.1 hx) (cl_nm q.1 hx) hB.2.2.2.1 hK.1 hP hD hS i he (cl_at q.1 hx) y hy (hB.2.2.2.2.1 _ hl) (fun z hz => by rw [ct_own q.1 hx y hy] at hz; exact hz) (ct_fin q.1 hx y hy hf) (cl_ty q.1 hx y hy) (hn ρ).1 (hn ρ).2 (by simp [fvs, hy]) hdg (fun H1 locs1 hP1 hD1 hS1 => ?_)
  have hset : (wsOf ρ cA M w).set i (ρ q.2.2, .inr (q.1, (fvs ρ M q.1 q.2.2).set y (cv ρ v))) = wsOf ρ cA M' w := wsOf_set hD hi (by rw [ce_obj hx, fvs_set (hv ρ) (hv2 ρ)]) (ho ρ cA)
  rw [hset] at hP1 hD1
  exact k p l e s m args below meth c dC dI cA ρ A H1 locs1 ls hB hK hP1 hD1 hS1 hlv
theorem x_iald {i : Int32} (hq : q ∈ w) (ht : q.1 = 20) (hin : ¬ (i < 0 ∨ q.2.1 ≤ i.toNatClampNeg)) (hdg : decode cc pc = .ok (.iaload, 1))
    (k : WPs w own cc nL ret d (pc + 1) lv (.inl (M.1 q.2.2 i.toNatClampNeg) :: st) M r) : WPs w own cc nL ret d pc lv (.inl i :: .inr (.inr q) :: st) M r := by
  intro p l e s m args below meth c dC dI cA ρ A H locs ls hB hK hP hD hS hlv
  obtain ⟨j, hj⟩ := List.getElem?_of_mem hq
  have he := wsOf_at (ρ := ρ) (cA := cA) (M := M) hj
  rw [ce_int (Or.inl ht), ht] at he
  exact va_iald hB.1 hB.2.1 hK.1 hP j 0 he rfl hin hdg (k p l e s m args below meth c dC dI cA ρ A H locs ls hB hK hP hD hS hlv)
theorem x_cald {i : Int32} (hq : q ∈ w) (ht : q.1 = 21) (hin : ¬ (i < 0 ∨ q.2.1 ≤ i.toNatClampNeg)) (hdg : decode cc pc = .ok (.caload, 1))
    (k : WPs w own cc nL ret d (pc + 1) lv (.inl (M.1 q.2.2 i.toNatClampNeg) :: st) M r) : WPs w own cc nL ret d pc lv (.inl i :: .inr (.inr q) :: st) M r := by
  intro p l e s m args below meth c dC dI cA ρ A H locs ls hB hK hP hD hS hlv
  obtain ⟨j, hj⟩ := List.getElem?_of_mem hq
  have he := wsOf_at (ρ := ρ) (cA := cA) (M := M) hj
  rw [ce_int (Or.inr (Or.inl ht)), ht] at he
  exact va_cald hB.1 hB.2.1 hK.1 hP j 1 he rfl hin hdg (k p l e s m args below meth c dC dI cA ρ A H locs ls hB hK hP hD hS hlv)
theorem x_zald {i : Int32} (hq : q ∈ w) (ht : q.1 = 22) (hin : ¬ (i < 0 ∨ q.2.1 ≤ i.toNatClampNeg)) (hdg : decode cc pc = .ok (.baload, 1))
    (k : WPs w own cc nL ret d (pc + 1) lv (.inl (M.1 q.2.2 i.toNatClampNeg) :: st) M r) : WPs w own cc nL ret d pc lv (.inl i :: .inr (.inr q) :: st) M r := by
  intro p l e s m args below meth c dC dI cA ρ A H locs ls hB hK hP hD hS hlv
  obtain ⟨j, hj⟩ := List.getElem?_of_mem hq
  have he := wsOf_at (ρ := ρ) (cA := cA) (M := M) hj
  rw [ce_int (Or.inr (Or.inr ht)), ht] at he
  exact va_zald hB.1 hB.2.1 hK.1 hP j 2 he rfl hin hdg (k p l e s m args below meth c dC dI cA ρ A H locs ls hB hK hP hD hS hlv)
theorem x_lald {i : Int32} (hq : q ∈ w) (ht : q.1 = 23) (hin : ¬ (i < 0 ∨ q.2.1 ≤ i.toNatClampNeg)) (hdg : decode cc pc = .ok (.laload, 1))
    (k : WPs w own cc nL ret d (pc + 1) lv (.inr (.inl (M.2.1 q.2.2 i.toNatClampNeg)) :: st) M r) : WPs w own cc nL ret d pc lv (.inl i :: .inr (.inr q) :: st) M r := by
  intro p l e s m args below meth c dC dI cA ρ A H locs ls hB hK hP hD hS hlv
  obtain ⟨j, hj⟩ := List.getElem?_of_mem hq
  have he := wsOf_at (ρ := ρ) (cA := cA) (M := M) hj
  rw [ce_long ht] at he
  exact va_lald hB.1 hB.2.1 hK.1 hP j 3 he rfl hin hdg (k p l e s m args below meth c dC dI cA ρ A H locs ls hB hK hP hD hS hlv)
theorem x_aald {i : Int32} (hq : q ∈ w) (ht : q.1 = 24) (hin : ¬ (i < 0 ∨ q.2.1 ≤ i.toNatClampNeg)) (hdg : decode cc pc = .ok (.aaload, 1))
    (k : WPs w own cc nL ret d (pc + 1) lv (.inr (.inr (6, 0, M.2.2 q.2.2 i.toNatClampNeg)) :: st) M r) : WPs w own cc nL ret d pc lv (.inl i :: .inr (.inr q) :: st) M r := by
  intro p l e s m args below meth c dC dI cA ρ A H locs ls hB hK hP hD hS hlv
  obtain ⟨j, hj⟩ := List.getElem?_of_mem hq
  have he := wsOf_at (ρ := ρ) (cA := cA) (M := M) hj
  rw [ce_st ht] at he
  exact va_aldq hB.1 hB.2.1 hK.1 hP j 4 he rfl hin hdg (k p l e s m args below meth c dC dI cA ρ A H locs ls hB hK hP hD hS hlv)
theorem x_gald {i : Int32} (hq : q ∈ w) (ht : q.1 = 30 ∨ q.1 = 31 ∨ q.1 = 32) (hin : ¬ (i < 0 ∨ q.2.1 ≤ i.toNatClampNeg)) (hdg : decode cc pc = .ok (.aaload, 1)) {a b : Nat}
    (k : WPs w own cc nL ret d (pc + 1) lv (.inr (.inr (a, b, q.2.2 + 1 + i.toNatClampNeg)) :: st) M r) : WPs w own cc nL ret d pc lv (.inl i :: .inr (.inr q) :: st) M r := by
  intro p l e s m args below meth c dC dI cA ρ A H locs ls hB hK hP hD hS hlv
  obtain ⟨j, hj⟩ := List.getElem?_of_mem hq
  have he := wsOf_at (ρ := ρ) (cA := cA) (M := M) hj
  rw [ce_grid ht] at he
  have hlt : i.toNatClampNeg < q.2.1 := Nat.not_le.mp fun q => hin (Or.inr q)
  have hA := hK.1.2 5 (cA 25, .array .int) rfl
  exact W.aald (v := .ref (ρ (q.2.2 + 1 + i.toNatClampNeg))) (ty := .array .int) hB.1 hB.2.1 (hP j _ he) (hA.1 q.2.1 (fun z => va_rf (some (ρ (q.2.2 + 1 + z))))) rfl (fun q => by cases q) (by show ¬ (i < 0 ∨ (arrV _ _ _).slots.size ≤ _); rw [arrV_size]; exact hin) (by show (arrV _ _ _).slots[_]? = _; rw [arrV_read _ _ hlt]; rfl) rfl rfl hdg (k p l e s m args below meth c dC dI cA ρ A H locs ls hB hK hP hD hS hlv)
theorem x_iast {i v : Int32} (hq : q ∈ w) (ht : q.1 = 20) (hin : ¬ (i < 0 ∨ q.2.1 ≤ i.toNatClampNeg)) (hdg : decode cc pc = .ok (.iastore, 1))
    (k : WPs w own cc nL ret d (pc + 1) lv st (sI M q.2.2 i.toNatClampNeg v) r) : WPs w own cc nL ret d pc lv (.inl v :: .inl i :: .inr (.inr q) :: st) M r := by
  intro p l e s m args below meth c dC dI cA ρ A H locs ls hB hK hP hD hS hlv
  obtain ⟨j, hj⟩ := List.getElem?_of_mem hq
  have he := wsOf_at (ρ := ρ) (cA := cA) (M := M) hj
  rw [ce_int (Or.inl ht), ht] at he
  refine va_iast hB.1 hB.2.1 hK.1 hP hD hS j 0 he rfl hin hdg (fun H1 locs1 hP1 hD1 hS1 => ?_)
  have hset : (wsOf ρ cA M w).set j (ρ q.2.2, .inl (cA 20, q.2.1, .inl (upd (M.1 q.2.2) i.toNatClampNeg v))) = wsOf ρ cA (sI M q.2.2 i.toNatClampNeg v) w := wsOf_set hD hj (by rw [ce_int (Or.inl ht), ht, upd_row]) (fun q' h => ce_sI_ne h)
  rw [hset] at hP1 hD1
  exact k p l e s m args below meth c dC dI cA ρ A H1 locs1 ls hB hK hP1 hD1 hS1 hlv
theorem x_cast {i v : Int32} (hq : q ∈ w) (ht : q.1 = 21) (hin : ¬ (i < 0 ∨ q.2.1 ≤ i.toNatClampNeg)) (hdg : decode cc pc = .ok (.castore, 1))
    (k : WPs w own cc nL ret d (pc + 1) lv st (sI M q.2.2 i.toNatClampNeg (vp_nar .char v)) r) : WPs w own cc nL ret d pc lv (.inl v :: .inl i :: .inr (.inr q) :: st) M r := by
  intro p l e s m args below meth c dC dI cA ρ A H locs ls hB hK hP hD hS hlv
  obtain ⟨j, hj⟩ := List.getElem?_of_mem hq
  have he := wsOf_at (ρ := ρ) (cA := cA) (M := M) hj
  rw [ce_int (Or.inr (Or.inl ht)), ht] at he
  refine va_cast hB.1 hB.2.1 hK.1 hP hD hS j 1 he rfl hin hdg (fun H1 locs1 hP1 hD1 hS1 => ?_)
  have hset : (wsOf ρ cA M w).set j (ρ q.2.2, .inl (cA 21, q.2.1, .inl (upd (M.1 q.2.2) i.toNatClampNeg (vp_nar .char v)))) = wsOf ρ cA (sI M q.2.2 i.toNatClampNeg (vp_nar .char v)) w := wsOf_set hD hj (by rw [ce_int (Or.inr (Or.inl ht)), ht, upd_row]) (fun q' h => ce_sI_ne h)
  rw [hset] at hP1 hD1
  exact k p l e s m args below meth c dC dI cA ρ A H1 locs1 ls hB hK hP1 hD1 hS1 hlv
theorem x_zast {i v : Int32} (hq : q ∈ w) (ht : q.1 = 22) (hin : ¬ (i < 0 ∨ q.2.1 ≤ i.toNatClampNeg)) (hdg : decode cc pc = .ok (.bastore, 1))
    (k : WPs w own cc nL ret d (pc + 1) lv st (sI M q.2.2 i.toNatClampNeg (vp_nar .boolean v)) r) : WPs w own cc nL ret d pc lv (.inl v :: .inl i :: .inr (.inr q) :: st) M r := by
  intro p l e s m args below meth c dC dI cA ρ A H locs ls hB hK hP hD hS hlv
  obtain ⟨j, hj⟩ := List.getElem?_of_mem hq
  have he := wsOf_at (ρ := ρ) (cA := cA) (M := M) hj
  rw [ce_int (Or.inr (Or.inr ht)), ht] at he
  refine va_zast hB.1 hB.2.1 hK.1 hP hD hS j 2 he rfl hin hdg (fun H1 locs1 hP1 hD1 hS1 => ?_)
  have hset : (wsOf ρ cA M w).set j (ρ q.2.2, .inl (cA 22, q.2.1, .inl (upd (M.1 q.2.2) i.toNatClampNeg (vp_nar .boolean v)))) = wsOf ρ cA (sI M q.2.2 i.toNatClampNeg (vp_nar .boolean v)) w := wsOf_set hD hj (by rw [ce_int (Or.inr (Or.inr ht)), ht, upd_row]) (fun q' h => ce_sI_ne h)
  rw [hset] at hP1 hD1
  exact k p l e s m args below meth c dC dI cA ρ A H1 locs1 ls hB hK hP1 hD1 hS1 hlv
theorem x_last {i : Int32} {v : Int64} (hq : q ∈ w) (ht : q.1 = 23) (hin : ¬ (i < 0 ∨ q.2.1 ≤ i.toNatClampNeg)) (hdg : decode cc pc = .ok (.lastore, 1))
    (k : WPs w own cc nL ret d (pc + 1) lv st (sJ M q.2.2 i.toNatClampNeg v) r) : WPs w own cc nL ret d pc lv (.inr (.inl v) :: .inl i :: .inr (.inr q) :: st) M r := by
  intro p l e s m args below meth c dC dI cA ρ A H locs ls hB hK hP hD hS hlv
  obtain ⟨j, hj⟩ := List.getElem?_of_mem hq
  have he := wsOf_at (ρ := ρ) (cA := cA) (M := M) hj
  rw [ce_long ht] at he
  refine va_last hB.1 hB.2.1 hK.1 hP hD hS j 3 he rfl hin hdg (fun H1 locs1 hP1 hD1 hS1 => ?_)
  have hset : (wsOf ρ cA M w).set j (ρ q.2.2, .inl (cA 23, q.2.1, .inr (.inl (vp_updL (M.2.1 q.2.2) i.toNatClampNeg v)))) = wsOf ρ cA (sJ M q.2.2 i.toNatClampNeg v) w := wsOf_set hD hj (by rw [ce_long ht, updL_row]) (fun q' h => ce_sJ_ne h)
  rw [hset] at hP1 hD1
  exact k p l e s m args below meth c dC dI cA ρ A H1 locs1 ls hB hK hP1 hD1 hS1 hlv
theorem x_aast {i : Int32} {v : Ref3} (hq : q ∈ w) (ht : q.1 = 24) (hv : v ∈ w) (hvt : v.1 = 6) (hin : ¬ (i < 0 ∨ q.2.1 ≤ i.toNatClampNeg)) (hdg : decode cc pc = .ok (.aastore, 1))
    (k : WPs w own cc nL ret d (pc + 1) lv st (sR M q.2.2 i.toNatClampNeg v.2.2) r) : WPs w own cc nL ret d pc lv (.inr (.inr v) :: .inl i :: .inr (.inr q) :: st) M r := by
  intro p l e s m args below meth c dC dI cA ρ A H locs ls hB hK hP hD hS hlv
  obtain ⟨j, hj⟩ := List.getElem?_of_mem hq
  obtain ⟨j2, hj2⟩ := List.getElem?_of_mem hv
  have he := wsOf_at (ρ := ρ) (cA := cA) (M := M) hj
  have he2 := wsOf_at (ρ := ρ) (cA := cA) (M := M) hj2
  rw [ce_st ht] at he
  rw [ce_obj (by omega), hvt] at he2
  refine va_astq hB.1 hB.2.1 hK.1 hP hD hS j 4 j2 6 (r := (RX6, TX6, 11)) he rfl he2 rfl hin hdg (fun H1 locs1 hP1 hD1 hS1 => ?_)
  have hset : (wsOf ρ cA M w).set j (ρ q.2.2, .inl (cA 24, q.2.1, .inr (.inr (.inr (.inr (va_up (fun z => some (ρ (M.2.2 q.2.2 z))) i.toNatClampNeg (some (ρ v.2.2)))))))) = wsOf ρ cA (sR M q.2.2 i.toNatClampNeg v.2.2) w := wsOf_set hD hj (by
    rw [ce_st ht]
    congr 7
    funext z
    by_cases hz : z = i.toNatClampNeg <;> simp [sR, va_up, hz]) (fun q' h => ce_sR_ne h)
  rw [hset] at hP1 hD1
  exact k p l e s m args below meth c dC dI cA ρ A H1 locs1 ls hB hK hP1 hD1 hS1 hlv
theorem x_alen (hq : q ∈ w) (ht : (20 ≤ q.1 ∧ q.1 ≤ 24) ∨ (30 ≤ q.1 ∧ q.1 ≤ 32)) (hdg : decode cc pc = .ok (.arraylength, 1))
    (k : WPs w own cc nL ret d (pc + 1) lv (.inl (Int32.ofNat q.2.1) :: st) M r) : WPs w own cc nL ret d pc lv (.inr (.inr q) :: st) M r := by
  intro p l e s m args below meth c dC dI cA ρ A H locs ls hB hK hP hD hS hlv
  obtain ⟨j, hj⟩ := List.getElem?_of_mem hq
  have he := wsOf_at (ρ := ρ) (cA := cA) (M := M) hj
  have hk := k p l e s m args below meth c dC dI cA ρ A H locs ls hB hK hP hD hS hlv
  have hc : q.1 = 20 ∨ q.1 = 21 ∨ q.1 = 22 ∨ q.1 = 23 ∨ q.1 = 24 ∨ q.1 = 30 ∨ q.1 = 31 ∨ q.1 = 32 := by omega
  rcases hc with h | h | h | h | h | h
  · rw [ce_int (Or.inl h), h] at he
    exact va_alen hB.1 hB.2.1 hK.1 hP j 0 he rfl rfl hdg hk
  · rw [ce_int (Or.inr (Or.inl h)), h] at he
    exact va_alen hB.1 hB.2.1 hK.1 hP j 1 he rfl rfl hdg hk
  · rw [ce_int (Or.inr (Or.inr h)), h] at he
    exact va_alen hB.1 hB.2.1 hK.1 hP j 2 he rfl rfl hdg hk
  · rw [ce_long h] at he
    exact va_alen hB.1 hB.2.1 hK.1 hP j 3 he rfl rfl hdg hk
  · rw [ce_st h] at he
    exact va_alen hB.1 hB.2.1 hK.1 hP j 4 he rfl rfl hdg hk
  · rw [ce_grid h] at he
    exact va_alen hB.1 hB.2.1 hK.1 hP j 5 he rfl rfl hdg hk
end RH
end
section
/-! ROWS: strings, statics, arraycopy, calls, returns -/
theorem SFc.moved {ρ : Nat → Nat} {A : Nat → Prop} {u U : State} {H : Heap} (hvm : u.vm.Alike U.vm) (h : SFc ρ A u H) : SFc ρ A U H := ⟨h.1.moved hvm, h.2.1.moved hvm, h.2.2.moved hvm⟩
theorem SFc.kept {ρ : Nat → Nat} {A : Nat → Prop} {U : State} {H H1 : Heap} (h : SFc ρ A U H) (hq : ∀ a : Nat, a < H.size → ¬ A a → H1[a]? = H[a]?) : SFc ρ A U H1 := ⟨h.1.kept hq, h.2.1.kept hq, h.2.2.kept hq⟩
theorem strL_eq : ∀ i, i < 35 → (strT.map List.length).getD i 0 = strL i := by decide +kernel
section RS
variable {w : List Ref3} {own : String} {cc : ByteArray} {nL : Nat} {ret : Option FieldType} {d pc : Nat} {lv : Lv} {st : List AV} {M : Mem} {r : Option AV × Mem} {q : Ref3}
theorem x_ldcs {index i : Nat} {tx : String} (hw : (own, index, tx, i) ∈ strW) (hdg : decode cc pc = .ok (.ldc index, 2))
    (k : WPs w own cc nL ret d (pc + 2) lv (.inr (.inr (40, i, SB + i)) :: st) M r) : WPs w own cc nL ret d pc lv st M r := by
  intro p l e s m args below meth c dC dI cA ρ A H locs ls hB hK hP hD hS hlv
  exact va_ldcS hB.1 hB.2.1 hB.2.2.2.1 (hK.2.2.1.1 _ hw) hdg (k p l e s m args below meth c dC dI cA ρ A H locs ls hB hK hP hD hS hlv)
theorem x_sval {index i : Nat} (hi : i < 35) (hl : Cond.fieldLink own index "java/lang/String" "value" "[B" ∈ lw_g) (hdg : decode cc pc = .ok (.getfield index, 3))
    (k : WPs w own cc nL ret d (pc + 3) lv (.inr (.inr (41, strL i, SV + i)) :: st) M r) : WPs w own cc nL ret d pc lv (.inr (.inr (40, i, SB + i)) :: st) M r := by
  intro p l e s m args below meth c dC dI cA ρ A H locs ls hB hK hP hD hS hlv
  exact vk_getf hB.1 hB.2.1 (hK.2.1.1.1 i hi).2.2.1 hS hB.2.2.2.1 (hB.2.2.2.2.1 _ hl) (fun _ h => h) hdg (k p l e s m args below meth c dC dI cA ρ A H locs ls hB hK hP hD hS hlv)
theorem x_scod {index i : Nat} (hi : i < 35) (hl : Cond.fieldLink own index "java/lang/String" "coder" "B" ∈ lw_g) (hdg : decode cc pc = .ok (.getfield index, 3))
    (k : WPs w own cc nL ret d (pc + 3) lv (.inl 0 :: st) M r) : WPs w own cc nL ret d pc lv (.inr (.inr (40, i, SB + i)) :: st) M r := by
  intro p l e s m args below meth c dC dI cA ρ A H locs ls hB hK hP hD hS hlv
  exact vk_getf hB.1 hB.2.1 (hK.2.1.1.1 i hi).2.1 hS hB.2.2.2.1 (hB.2.2.2.2.1 _ hl) (fun _ h => h) hdg (k p l e s m args below meth c dC dI cA ρ A H locs ls hB hK hP hD hS hlv)
theorem x_slen {i : Nat} (hi : i < 35) (hdg : decode cc pc = .ok (.arraylength, 1))
    (k : WPs w own cc nL ret d (pc + 1) lv (.inl (Int32.ofNat (strL i)) :: st) M r) : WPs w own cc nL ret d pc lv (.inr (.inr (41, strL i, SV + i)) :: st) M r := by
  intro p l e s m args below meth c dC dI cA ρ A H locs ls hB hK hP hD hS hlv
  exact va_tlen hB.1 hB.2.1 (hK.2.1.1.1 i hi).2.2.2 hS (by rw [strL_eq i hi]) hdg (k p l e s m args below meth c dC dI cA ρ A H locs ls hB hK hP hD hS hlv)
theorem x_sbyt {i : Nat} {j : Int32} (hi : i < 35) (hin : ¬ (j < 0 ∨ strL i ≤ j.toNatClampNeg)) (hdg : decode cc pc = .ok (.baload, 1))
    (k : WPs w own cc nL ret d (pc + 1) lv (.inl (strB i j.toNatClampNeg) :: st) M r) : WPs w own cc nL ret d pc lv (.inl j :: .inr (.inr (41, strL i, SV + i)) :: st) M r := by
  intro p l e s m args below meth c dC dI cA ρ A H locs ls hB hK hP hD hS hlv
  exact va_tb hB.1 hB.2.1 (hK.2.1.1.1 i hi).2.2.2 hS (by rw [strL_eq i hi]; exact hin) rfl hdg (k p l e s m args below meth c dC dI cA ρ A H locs ls hB hK hP hD hS hlv)
theorem x_stat1 {index : Nat} (hl : Cond.fieldLink own index "java/lang/String" "COMPACT_STRINGS" "Z" ∈ lw_g) (hdg : decode cc pc = .ok (.getstatic index, 3))
    (k : WPs w own cc nL ret d (pc + 3) lv (.inl 1 :: st) M r) : WPs w own cc nL ret d pc lv st M r := by
  intro p l e s m args below meth c dC dI cA ρ A H locs ls hB hK hP hD hS hlv
  exact va_gets hB.1 hB.2.1 hK.2.1.2.1 hS hB.2.2.2.1 (hB.2.2.2.2.1 _ hl) (fun _ h => h) hdg (k p l e s m args below meth c dC dI cA ρ A H locs ls hB hK hP hD hS hlv)
theorem x_stat2 {index : Nat} (hl : Cond.fieldLink own index "jdk/internal/util/Preconditions" "SIOOBE_FORMATTER" "Ljava/util/function/BiFunction;" ∈ lw_g) (hdg : decode cc pc = .ok (.getstatic index, 3))
    (k : WPs w own cc nL ret d (pc + 3) lv (.inr (.inr (50, 0, SF0)) :: st) M r) : WPs w own cc nL ret d pc lv st M r := by
  intro p l e s m args below meth c dC dI cA ρ A H locs ls hB hK hP hD hS hlv
  exact va_gets hB.1 hB.2.1 hK.2.1.2.2 hS hB.2.2.2.1 (hB.2.2.2.2.1 _ hl) (fun _ h => h) hdg (k p l e s m args below meth c dC dI cA ρ A H locs ls hB hK hP hD hS hlv)
theorem catS_cv {ρ : Nat → Nat} : ∀ st : List AV, ((st.map (cv ρ)).map fun v => v.category).sum = catS st
  | [] => rfl
  | .inl _ :: t => by have := catS_cv (ρ := ρ) t; simp [cv, catS, Value.category] at this ⊢; omega
  | .inr (.inl _) :: t => by have := catS_cv (ρ := ρ) t; simp [cv, catS, Value.category] at this ⊢; omega
  | .inr (.inr _) :: t => by have := catS_cv (ρ := ρ) t; simp [cv, catS, Value.category] at this ⊢; omega
theorem x_cpI {index : Nat} {a b : Ref3} {sp dp n : Int32} (ha : a ∈ w) (hb : b ∈ w) (hta : a.1 = 20) (htb : b.1 = 20) (h1 : ¬ sp < 0) (h2 : ¬ dp < 0) (h3 : ¬ n < 0) (h4 : sp.toNatClampNeg + n.toNatClampNeg ≤ a.2.1) (h5 : dp.toNatClampNeg + n.toNatClampNeg ≤ b.2.1) (hc : catS st ≤ 8)
    (hl : Cond.methodLink own index arraycopyName ∈ lw_g) (hnat : Cond.native arraycopyName ∈ lw_g) (hsta : Cond.static arraycopyName ∈ lw_g) (hini : Cond.initialized "java/lang/System" ∈ lw_g) (hdg : decode cc pc = .ok (.invokestatic index, 3))
    (k : WPs w own cc nL ret (d + 1) (pc + 3) lv st (cpI M a.2.2 sp.toNatClampNeg b.2.2 dp.toNatClampNeg n.toNatClampNeg) r) : WPs w own cc nL ret (d + 1) pc lv (.inl n :: .inl dp :: .inr (.inr b) :: .inl sp :: .inr (.inr a) :: st) M r := by
  intro p l e s m args below meth c dC dI cA ρ A H locs ls hB hK hP hD hS hlv
  obtain ⟨j, hj⟩ := List.getElem?_of_mem ha
  obtain ⟨j2, hj2⟩ := List.getElem?_of_mem hb
  have he := wsOf_at (ρ := ρ) (cA := cA) (M := M) hj
  have he2 := wsOf_at (ρ := ρ) (cA := cA) (M := M) hj2
  rw [ce_int (Or.inl hta), hta] at he
  rw [ce_int (Or.inl htb), htb] at he2
  have hls : c.maxLocals = ls.size := by obtain ⟨l0, h0, -⟩ := hlv; rw [hB.2.2.1, h0.1]
  have hfr : 1 ≤ (rmD (d + 1)).frames := by show 1 ≤ d + 1; omega
  have hnw : nativeFrameWords "java/lang/System" "arraycopy" 5 + 11 ≤ 52 := by decide +kernel
  have hlo : ((st.map (cv ρ)).map fun v => v.category).sum + (nativeFrameWords "java/lang/System" "arraycopy" 5 + 11) ≤ (rmD (d + 1)).locals := by
    rw [catS_cv]; show _ ≤ 60 * (d + 1); omega
  refine va_copyi (ty := .int) hB.1 hB.2.1 hls hB.2.2.2.1 (hB.2.2.2.2.1 _ hl) (hB.2.2.2.2.1 _ hnat) (hB.2.2.2.2.1 _ hsta) (hB.2.2.2.2.1 _ hini) hK.1 hP hD hS j j2 0 0 he he2 rfl rfl rfl h1 h2 h3 h4 h5 (fun _ _ => rfl) hfr hlo hdg (fun H1 locs1 hP1 hD1 hS1 => ?_)
  have hset : (wsOf ρ cA M w).set j2 (ρ b.2.2, .inl (cA 20, b.2.1, .inl (va_cpy (M.1 a.2.2) (M.1 b.2.2) sp.toNatClampNeg dp.toNatClampNeg n.toNatClampNeg))) = wsOf ρ cA (cpI M a.2.2 sp.toNatClampNeg b.2.2 dp.toNatClampNeg n.toNatClampNeg) w := wsOf_set hD hj2 (by
    rw [ce_int (Or.inl htb), htb]
    have : (cpI M a.2.2 sp.toNatClampNeg b.2.2 dp.toNatClampNeg n.toNatClampNeg).1 b.2.2 = va_cpy (M.1 a.2.2) (M.1 b.2.2) sp.toNatClampNeg dp.toNatClampNeg n.toNatClampNeg := by funext z; simp [cpI]
    rw [this]) (fun q' h => ce_cpI_ne h)
  rw [hset] at hP1 hD1
  exact k p l e s m args below meth c dC dI cA ρ A H1 locs1 ls hB hK hP1 hD1 hS1 hlv
theorem x_cpJ {index : Nat} {a b : Ref3} {sp dp n : Int32} (ha : a ∈ w) (hb : b ∈ w) (hta : a.1 = 23) (htb : b.1 = 23) (h1 : ¬ sp < 0) (h2 : ¬ dp < 0) (h3 : ¬ n < 0) (h4 : sp.toNatClampNeg + n.toNatClampNeg ≤ a.2.1) (h5 : dp.toNatClampNeg + n.toNatClampNeg ≤ b.2.1) (hc : catS st ≤ 8)
    (hl : Cond.methodLink own index arraycopyName ∈ lw_g) (hnat : Cond.native arraycopyName ∈ lw_g) (hsta : Cond.static arraycopyName ∈ lw_g) (hini : Cond.initialized "java/lang/System" ∈ lw_g) (hdg : decode cc pc = .ok (.invokestatic index, 3))
    (k : WPs w own cc nL ret (d + 1) (pc + 3) lv st (cpJ M a.2.2 sp.toNatClampNeg b.2.2 dp.toNatClampNeg n.toNatClampNeg) r) : WPs w own cc nL ret (d + 1) pc lv (.inl n :: .inl dp :: .inr (.inr b) :: .inl sp :: .inr (.inr a) :: st) M r := by
  intro p l e s m args below meth c dC dI cA ρ A H locs ls hB hK hP hD hS hlv
  obtain ⟨j, hj⟩ := List.getElem?_of_mem ha
  obtain ⟨j2, hj2⟩ := List.getElem?_of_mem hb
  have he := wsOf_at (ρ := ρ) (cA := cA) (M := M) hj
  have he2 := wsOf_at (ρ := ρ) (cA := cA) (M := M) hj2
  rw [ce_long hta] at he
  rw [ce_long htb] at he2
  have hls : c.maxLocals = ls.size := by obtain ⟨l0, h0, -⟩ := hlv; rw [hB.2.2.1, h0.1]
  have hfr : 1 ≤ (rmD (d + 1)).frames := by show 1 ≤ d + 1; omega
  have hnw : nativeFrameWords "java/lang/System" "arraycopy" 5 + 11 ≤ 52 := by decide +kernel
  have hlo : ((st.map (cv ρ)).map fun v => v.category).sum + (nativeFrameWords "java/lang/System" "arraycopy" 5 + 11) ≤ (rmD (d + 1)).locals := by
    rw [catS_cv]; show _ ≤ 60 * (d + 1); omega
  refine va_copyl hB.1 hB.2.1 hls hB.2.2.2.1 (hB.2.2.2.2.1 _ hl) (hB.2.2.2.2.1 _ hnat) (hB.2.2.2.2.1 _ hsta) (hB.2.2.2.2.1 _ hini) hK.1 hP hD hS j j2 3 3 he he2 rfl rfl rfl h1 h2 h3 h4 h5 (fun _ _ => rfl) hfr hlo hdg (fun H1 locs1 hP1 hD1 hS1 => ?_)
  have hset : (wsOf ρ cA M w).set j2 (ρ b.2.2, .inl (cA 23, b.2.1, .inr (.inl (va_cpy (M.2.1 a.2.2) (M.2.1 b.2.2) sp.toNatClampNeg dp.toNatClampNeg n.toNatClampNeg)))) = wsOf ρ cA (cpJ M a.2.2 sp.toNatClampNeg b.2.2 dp.toNatClampNeg n.toNatClampNeg) w := wsOf_set hD hj2 (by
    rw [ce_long htb]
    have : (cpJ M a.2.2 sp.toNatClampNeg b.2.2 dp.toNatClampNeg n.toNatClampNeg).2.1 b.2.2 = va_cpy (M.2.1 a.2.2) (M.2.1 b.2.2) sp.toNatClampNeg dp.toNatClampNeg n.toNatClampNeg := by funext z; simp [cpJ]
    rw [this]) (fun q' h => ce_cpJ_ne h)
  rw [hset] at hP1 hD1
  exact k p l e s m args below meth c dC dI cA ρ A H1 locs1 ls hB hK hP1 hD1 hS1 hlv
theorem x_iret {v : Int32} {ty : FieldType} (hr : ret = some ty) (hn : narrow ty (.int v) = .int v) (hdg : decode cc pc = .ok (.ireturn, 1)) : WPs w own cc nL ret d pc lv [.inl v] M (some (.inl v), M) := by
  intro p l e s m args below meth c dC dI cA ρ A H locs ls hB hK hP hD hS hlv
  exact W.zret hB.1 hB.2.1 (hB.2.2.2.2.2.1.trans hr) hn (fun t ht hW => ⟨rfl, by rw [ht]; exact hP, hK.1.moved hW.alike, hS.F ht⟩) (fun q hq => hS.2.2 q hq) hdg hB.2.2.2.2.2.2
theorem x_lret {v : Int64} (hr : ret = some .long) (hdg : decode cc pc = .ok (.lreturn, 1)) : WPs w own cc nL ret d pc lv [.inr (.inl v)] M (some (.inr (.inl v)), M) := by
  intro p l e s m args below meth c dC dI cA ρ A H locs ls hB hK hP hD hS hlv
  exact W.lret hB.1 hB.2.1 (hB.2.2.2.2.2.1.trans hr) (fun t ht hW => ⟨rfl, by rw [ht]; exact hP, hK.1.moved hW.alike, hS.F ht⟩) (fun q hq => hS.2.2 q hq) hdg hB.2.2.2.2.2.2
theorem x_vret (hr : ret = none) (hdg : decode cc pc = .ok (.return_, 1)) : WPs w own cc nL ret d pc lv [] M (none, M) := by
  intro p l e s m args below meth c dC dI cA ρ A H locs ls hB hK hP hD hS hlv
  exact W.vret hB.1 hB.2.1 (hB.2.2.2.2.2.1.trans hr) (fun t ht hW => ⟨rfl, by rw [ht]; exact hP, hK.1.moved hW.alike, hS.F ht⟩) (fun q hq => hS.2.2 q hq) hdg hB.2.2.2.2.2.2
end RS
/-- what a call means: the method's contract, over any launch and any place of the cells -/
def CSem (w : List Ref3) (y : MethodName) (bytes : ByteArray) (mL : Nat) (ret : Option FieldType) (d : Nat) (as : List AV) (M : Mem) (r : Option AV × Mem) : Prop :=
  ∀ (l : Launch) (dC : Nat → ClassId) (dI : Nat → Nat → Nat) (cA : Nat → ClassId) (ρ : Nat → Nat) (A : Nat → Prop) (sz : Nat),
    Met l y (.code y bytes mL ret :: lw_g) (rmD d) (va_Pc (as.map (cv ρ)) (fun U => U.heap.size = sz ∧ (∀ q, sz ≤ q → A q) ∧ va_P (dC, dI) vwCl (wsOf ρ cA M w) U.heap ∧ va_D A (wsOf ρ cA M w) ∧ va_K (dC, dI) vwCl (tysOf cA) U ∧ SFc ρ A U U.heap ∧ SWc ρ U)) (QcR dC dI cA ρ w A r) 0 0 A
section CALL
variable {p : Program} {l : Launch} {e : Env} {R : Room} {s : State} {m : MethodId} {args : Array Value} {below : List Frame} {meth : Method} {c : Code} {H : Heap} {locs : List Loc} {Q : State → Prop}
variable {pc : Nat} {ls : Array Slot} {rest st0 : List Value} {a : Array Value} {dC : Nat → ClassId} {dI : Nat → Nat → Nat} {cA : Nat → ClassId} {ρ : Nat → Nat} {w : List Ref3} {A : Nat → Prop} {r : Option AV × Mem}
theorem call_go (hr : va_Run p l e R s m args below meth c H locs 0 0 0 0 (F0 m pc ls st0) rest (QcR dC dI cA ρ w A r a) A) (hS : va_S A s.heap H locs)
    (kk : ∀ (H1 : Heap) (locs1 : List Loc), va_P (dC, dI) vwCl (wsOf ρ cA r.2 w) H1 → va_S A s.heap H1 locs1 → W p l e R s m args below meth c H1 locs1 0 0 Q (F0 m (pc + 3) ls ((r.1.map (cv ρ)).toList ++ rest))) : W p l e R s m args below meth c H locs 0 0 Q (F0 m pc ls st0) := by
  intro T hT X
  obtain ⟨v, st₀, t, T', L, h0, X', hL, e1, e2, ⟨hv, hp, -, hz, hk⟩, st⟩ := hr T hT X
  cases hv
  rw [h0] at hz hk
  obtain ⟨t2, a1, b1⟩ := kk T'.heap (locs ++ L) (by rw [e1]; exact hp)
    ⟨Nat.le_trans hS.1 (by rw [e1]; exact hz), fun q h1 h2 => by rw [e1, hk q (Nat.lt_of_lt_of_le h1 hS.1) h2]; exact hS.2.1 q h1 h2, fun q hq => by
      rcases List.mem_append.mp hq with h | h
      · exact hS.2.2 q h
      · exact hL q h⟩ T' rfl X'
  exact ⟨t2, st t2 a1, b1⟩
end CALL
section RC
variable {w : List Ref3} {own : String} {cc : ByteArray} {nL : Nat} {ret : Option FieldType} {d pc : Nat} {lv : Lv} {st : List AV} {M : Mem} {r : Option AV × Mem}
theorem pc_of {l : Launch} {s : State} {H : Heap} {locs : List Loc} {dC : Nat → ClassId} {dI : Nat → Nat → Nat} {cA : Nat → ClassId} {ρ : Nat → Nat} {A : Nat → Prop} {as : List AV} (hK : KX dC dI cA ρ A s) (hP : va_P (dC, dI) vwCl (wsOf ρ cA M w) H) (hD : va_D A (wsOf ρ cA M w)) (hS : va_S A s.heap H locs) :
    PreS s H (va_Pc (as.map (cv ρ)) (fun U => U.heap.size = H.size ∧ (∀ q, H.size ≤ q → A q) ∧ va_P (dC, dI) vwCl (wsOf ρ cA M w) U.heap ∧ va_D A (wsOf ρ cA M w) ∧ va_K (dC, dI) vwCl (tysOf cA) U ∧ SFc ρ A U U.heap ∧ SWc ρ U)) (as.map (cv ρ)) := by
  refine ⟨fun a U g mk q => ?_, fun U hU hW => ⟨rfl, by rw [hU], fun q h => hK.2.2.2 q (Nat.le_trans hS.1 h), by rw [hU]; exact hP, hD, hK.1.moved hW.alike, ?_, ⟨fun x hx => (hK.2.2.1.1 x hx).warm hW, fun x hx => (hK.2.2.1.2 x hx).warmM hW⟩⟩⟩
  · obtain ⟨q0, q1, q2, q3, q4, q5, q6, q7⟩ := q
    exact ⟨q0, q1, q2, q3, q4, va_K.moved (u := U) (U := U.calling g mk a) (Vm.Alike.refl U.vm) q5, SFc.moved (u := U) (U := U.calling g mk a) (Vm.Alike.refl U.vm) q6, ⟨fun x hx => vk_R.same (u := U) (U := U.calling g mk a) rfl (q7.1 x hx), fun x hx => va_Nw.same (u := U) (U := U.calling g mk a) rfl rfl (q7.2 x hx)⟩⟩
  · rw [hU]
    exact (hK.2.1.kept hS.2.1).moved hW.alike
theorem x_callS {index mL : Nat} {y : MethodName} {bytes : ByteArray} {rt : Option FieldType} {as : List AV} {r' : Option AV × Mem} (hM : CSem w y bytes mL rt d as M r') (hcode : Cond.code y bytes mL rt ∈ lw_g) (hl : Cond.methodLink own index y ∈ lw_g) (hst : Cond.static y ∈ lw_g) (hini : Cond.initialized y.cls ∈ lw_g)
    (hd : y.cls ≠ "java/lang/invoke/MethodHandle" ∧ y.cls ≠ "java/lang/invoke/VarHandle" ∧ (parseMethodDescriptor y.desc).map (fun d => d.parameters.length) = some as.length) (hm : mL ≤ 40) (hc : catS st ≤ 8) (hdg : decode cc pc = .ok (.invokestatic index, 3))
    (k : WPs w own cc nL ret (d + 1) (pc + 3) lv (r'.1.toList ++ st) r'.2 r) : WPs w own cc nL ret (d + 1) pc lv (as.reverse ++ st) M r := by
  intro p l e s m args below meth c dC dI cA ρ A H locs ls hB hK hP hD hS hlv
  have hsz : ls.size = nL := by obtain ⟨l0, h0, -⟩ := hlv; exact h0.1
  have cb := callB_of (mc := 0) (ms := 0) (rm := rmD d) (R := rmD (d + 1)) as.length hB.2.2.2.2.1 (lw_goodIn hcode) rfl rfl rfl (hB.2.2.2.2.1 _ hini) (hB.2.2.2.2.1 _ hl) hd ⟨by show d + 1 ≤ d + 1; omega, by show 8 + (mL + 11) + 60 * d ≤ 60 * (d + 1); omega⟩
  have hrun := va_runS (R := rmD (d + 1)) (e := e) (meth := meth) (locs := locs) (below := below) (cells := 0) (slots := 0) (As := as.map (cv ρ)) (rest := st.map (cv ρ)) (g := F0 m pc ls ((as.reverse ++ st).map (cv ρ))) ⟨hB.1, hB.2.1, hB.2.2.1, hB.2.2.2.1, hB.2.2.2.2.1⟩ (hM l dC dI cA ρ A H.size) ⟨cb, hB.2.2.2.2.1 _ hst⟩ (pc_of (l := l) hK hP hD hS) rfl (by simp) hsz (by simp) (lv_room (by rw [catS_cv]; exact hc)) hdg ⟨Nat.le_refl _, Nat.le_refl _⟩
  refine call_go hrun hS (fun H1 locs1 hP1 hS1 => ?_)
  have := k p l e s m args below meth c dC dI cA ρ A H1 locs1 ls hB hK hP1 (va_D_wsOf hD) hS1 hlv
  rw [List.map_append] at this
  cases hr1 : r'.1 with
  | none => rw [hr1] at this; exact this
  | some v => rw [hr1] at this; exact this
theorem x_callSN {index mL : Nat} {bytes : ByteArray} {rt : Option FieldType} {as : List AV} {r' : Option AV × Mem} (hM : CSem w y_has bytes mL rt d as M r') (hcode : Cond.code y_has bytes mL rt ∈ lw_g) (hl : (own, index) ∈ nestW) (hst : Cond.static y_has ∈ lw_g) (hini : Cond.initialized y_has.cls ∈ lw_g)
    (hd : y_has.cls ≠ "java/lang/invoke/MethodHandle" ∧ y_has.cls ≠ "java/lang/invoke/VarHandle" ∧ (parseMethodDescriptor y_has.desc).map (fun d => d.parameters.length) = some as.length) (hm : mL ≤ 40) (hc : catS st ≤ 8) (hdg : decode cc pc = .ok (.invokestatic index, 3))
    (k : WPs w own cc nL ret (d + 1) (pc + 3) lv (r'.1.toList ++ st) r'.2 r) : WPs w own cc nL ret (d + 1) pc lv (as.reverse ++ st) M r := by
  intro p l e s m args below meth c dC dI cA ρ A H locs ls hB hK hP hD hS hlv
  have hsz : ls.size = nL := by obtain ⟨l0, h0, -⟩ := hlv; exact h0.1
  have cb := va_cnB (own := own) (index := index) (host := "IceParliament") (mc := 0) (ms := 0) (rm := rmD d) (R := rmD (d + 1)) as.length hB.2.2.2.2.1 (lw_goodIn hcode) rfl rfl rfl (hK.2.2.1.2 _ hl) (hB.2.2.2.2.1 _ hini) hd ⟨by show d + 1 ≤ d + 1; omega, by show 8 + (mL + 11) + 60 * d ≤ 60 * (d + 1); omega⟩
  have hrun := va_runSN (R := rmD (d + 1)) (e := e) (meth := meth) (locs := locs) (below := below) (cells := 0) (slots := 0) (As := as.map (cv ρ)) (rest := st.map (cv ρ)) (g := F0 m pc ls ((as.reverse ++ st).map (cv ρ))) ⟨hB.1, hB.2.1, hB.2.2.1, hB.2.2.2.1, hB.2.2.2.2.1⟩ (hM l dC dI cA ρ A H.size) ⟨cb, hB.2.2.2.2.1 _ hst, trivial⟩ (pc_of (l := l) hK hP hD hS) rfl (by simp) hsz (by simp) (lv_room (by rw [catS_cv]; exact hc)) hdg ⟨Nat.le_refl _, Nat.le_refl _⟩
  refine call_go hrun hS (fun H1 locs1 hP1 hS1 => ?_)
  have := k p l e s m args below meth c dC dI cA ρ A H1 locs1 ls hB hK hP1 (va_D_wsOf hD) hS1 hlv
  rw [List.map_append] at this
  cases hr1 : r'.1 with
  | none => rw [hr1] at this; exact this
  | some v => rw [hr1] at this; exact this
theorem x_callV {index mL : Nat} {y : MethodName} {bytes : ByteArray} {rt : Option FieldType} {as : List AV} {q : Ref3} {r' : Option AV × Mem} (hM : CSem w y bytes mL rt d (.inr (.inr q) :: as) M r') (hrecv : (q ∈ w ∧ q.1 < 13 ∧ clR q.1 = y.cls) ∨ (∃ i, i < 35 ∧ q = (40, i, SB + i) ∧ y.cls = "java/lang/String"))
    (hcode : Cond.code y bytes mL rt ∈ lw_g) (hl : Cond.methodLink own index y ∈ lw_g) (hin : Cond.instanceMethod y ∈ lw_g) (hsel : Cond.selects y.cls y y ∈ lw_g) (hini : Cond.initialized y.cls ∈ lw_g)
    (hd : y.cls ≠ "java/lang/invoke/MethodHandle" ∧ y.cls ≠ "java/lang/invoke/VarHandle" ∧ (parseMethodDescriptor y.desc).map (fun d => d.parameters.length) = some as.length) (hm : mL ≤ 40) (hc : catS st ≤ 8) (hdg : decode cc pc = .ok (.invokevirtual index, 3))
    (k : WPs w own cc nL ret (d + 1) (pc + 3) lv (r'.1.toList ++ st) r'.2 r) : WPs w own cc nL ret (d + 1) pc lv ((.inr (.inr q) :: as).reverse ++ st) M r := by
  intro p l e s m args below meth c dC dI cA ρ A H locs ls hB hK hP hD hS hlv
  have hsz : ls.size = nL := by obtain ⟨l0, h0, -⟩ := hlv; exact h0.1
  have cb := callB_of (mc := 0) (ms := 0) (rm := rmD d) (R := rmD (d + 1)) as.length hB.2.2.2.2.1 (lw_goodIn hcode) rfl rfl rfl (hB.2.2.2.2.1 _ hini) (hB.2.2.2.2.1 _ hl) hd ⟨by show d + 1 ≤ d + 1; omega, by show 8 + (mL + 11) + 60 * d ≤ 60 * (d + 1); omega⟩
  have hrv : ∃ cellB : Cell, H[ρ q.2.2]? = some cellB ∧ cellB.vm.isStatics = false ∧ s.vm.findClass y.cls = some cellB.cls := by
    rcases hrecv with ⟨h1, h2, h3⟩ | ⟨i, h1, h2, h3⟩
    · obtain ⟨j, hj⟩ := List.getElem?_of_mem h1
      have he := wsOf_at (ρ := ρ) (cA := cA) (M := M) hj
      rw [ce_obj h2] at he
      have := va_recv hK.1 hP (cl_at q.1 h2) he
      rw [← h3]; exact this
    · subst h2
      rw [h3]
      exact vk_recv (i := i) hK.2.1.1 h1 hS
  have hps := pc_of (l := l) (as := .inr (.inr q) :: as) hK hP hD hS
  have hrun := va_runV (R := rmD (d + 1)) (e := e) (meth := meth) (locs := locs) (below := below) (cells := 0) (slots := 0) (b := ρ q.2.2) (As := as.map (cv ρ)) (rest := st.map (cv ρ)) (g := F0 m pc ls (((.inr (.inr q) :: as).reverse ++ st).map (cv ρ))) ⟨hB.1, hB.2.1, hB.2.2.1, hB.2.2.2.1, hB.2.2.2.2.1⟩ (hM l dC dI cA ρ A H.size) ⟨cb, hB.2.2.2.2.1 _ hin, hB.2.2.2.2.1 _ hsel⟩ ⟨hps.1, hrv, hps.2⟩ rfl (by simp) hsz (by simp [cv]) (lv_room (by rw [catS_cv]; exact hc)) hdg ⟨Nat.le_refl _, Nat.le_refl _⟩
  refine call_go hrun hS (fun H1 locs1 hP1 hS1 => ?_)
  have := k p l e s m args below meth c dC dI cA ρ A H1 locs1 ls hB hK hP1 (va_D_wsOf hD) hS1 hlv
  rw [List.map_append] at this
  cases hr1 : r'.1 with
  | none => rw [hr1] at this; exact this
  | some v => rw [hr1] at this; exact this
end RC
end
