-- ===== PART A: goes FIRST, ahead of the names: the tables' words, and 'selects' of the private methods out of them =====
/-- a private method of a class that the tables say can be made, by its rows of tables_1 -/
def lw_okq (q : MethodName × Nat) : Prop := (q.1.cls ≠ "java/lang/invoke/MethodHandle" ∧ q.1.cls ≠ "java/lang/invoke/VarHandle") ∧ Cond.instantiable q.1.cls q.2 ∈ tables_1 ∧ Cond.privateMethod q.1 ∈ tables_1 ∧ Cond.instanceMethod q.1 ∈ tables_1
theorem lw_p0 : lw_okq (⟨"StandingUp$Texts", "nextToken", "()V"⟩, 13) := ⟨⟨by decide +kernel, by decide +kernel⟩, List.mem_of_getElem? (i := 35) (by decide +kernel), List.mem_of_getElem? (i := 213) (by decide +kernel), List.mem_of_getElem? (i := 214) (by decide +kernel)⟩
theorem lw_p1 : lw_okq (⟨"StandingUp$Texts", "takeWord", "()V"⟩, 13) := ⟨⟨by decide +kernel, by decide +kernel⟩, List.mem_of_getElem? (i := 35) (by decide +kernel), List.mem_of_getElem? (i := 220) (by decide +kernel), List.mem_of_getElem? (i := 221) (by decide +kernel)⟩
theorem lw_p2 : lw_okq (⟨"StandingUp$Texts", "isWord", "(I)Z"⟩, 13) := ⟨⟨by decide +kernel, by decide +kernel⟩, List.mem_of_getElem? (i := 35) (by decide +kernel), List.mem_of_getElem? (i := 224) (by decide +kernel), List.mem_of_getElem? (i := 225) (by decide +kernel)⟩
theorem lw_p3 : lw_okq (⟨"StandingUp$Texts", "takeNumber", "()V"⟩, 13) := ⟨⟨by decide +kernel, by decide +kernel⟩, List.mem_of_getElem? (i := 35) (by decide +kernel), List.mem_of_getElem? (i := 232) (by decide +kernel), List.mem_of_getElem? (i := 233) (by decide +kernel)⟩
theorem lw_p4 : lw_okq (⟨"StandingUp$Texts", "pass", "(I)V"⟩, 13) := ⟨⟨by decide +kernel, by decide +kernel⟩, List.mem_of_getElem? (i := 35) (by decide +kernel), List.mem_of_getElem? (i := 296) (by decide +kernel), List.mem_of_getElem? (i := 297) (by decide +kernel)⟩
theorem lw_p5 : lw_okq (⟨"StandingUp$Texts", "refuse", "()V"⟩, 13) := ⟨⟨by decide +kernel, by decide +kernel⟩, List.mem_of_getElem? (i := 35) (by decide +kernel), List.mem_of_getElem? (i := 300) (by decide +kernel), List.mem_of_getElem? (i := 301) (by decide +kernel)⟩
theorem lw_p6 : lw_okq (⟨"StandingUp$Texts", "read", "(II)V"⟩, 13) := ⟨⟨by decide +kernel, by decide +kernel⟩, List.mem_of_getElem? (i := 35) (by decide +kernel), List.mem_of_getElem? (i := 304) (by decide +kernel), List.mem_of_getElem? (i := 305) (by decide +kernel)⟩
theorem lw_p7 : lw_okq (⟨"StandingUp$Texts", "readOpening", "(I)V"⟩, 13) := ⟨⟨by decide +kernel, by decide +kernel⟩, List.mem_of_getElem? (i := 35) (by decide +kernel), List.mem_of_getElem? (i := 308) (by decide +kernel), List.mem_of_getElem? (i := 309) (by decide +kernel)⟩
theorem lw_p8 : lw_okq (⟨"StandingUp$Texts", "write", "(I)V"⟩, 13) := ⟨⟨by decide +kernel, by decide +kernel⟩, List.mem_of_getElem? (i := 35) (by decide +kernel), List.mem_of_getElem? (i := 312) (by decide +kernel), List.mem_of_getElem? (i := 313) (by decide +kernel)⟩
theorem lw_p9 : lw_okq (⟨"StandingUp$Texts", "readOne", "()V"⟩, 13) := ⟨⟨by decide +kernel, by decide +kernel⟩, List.mem_of_getElem? (i := 35) (by decide +kernel), List.mem_of_getElem? (i := 316) (by decide +kernel), List.mem_of_getElem? (i := 317) (by decide +kernel)⟩
theorem lw_p10 : lw_okq (⟨"StandingUp$Texts", "readJoined", "(II)V"⟩, 13) := ⟨⟨by decide +kernel, by decide +kernel⟩, List.mem_of_getElem? (i := 35) (by decide +kernel), List.mem_of_getElem? (i := 320) (by decide +kernel), List.mem_of_getElem? (i := 321) (by decide +kernel)⟩
theorem lw_p11 : lw_okq (⟨"StandingUp$Texts", "joins", "(I)Z"⟩, 13) := ⟨⟨by decide +kernel, by decide +kernel⟩, List.mem_of_getElem? (i := 35) (by decide +kernel), List.mem_of_getElem? (i := 324) (by decide +kernel), List.mem_of_getElem? (i := 325) (by decide +kernel)⟩
theorem lw_p12 : lw_okq (⟨"StandingUp", "setWater", "(II)I"⟩, 18) := ⟨⟨by decide +kernel, by decide +kernel⟩, List.mem_of_getElem? (i := 23) (by decide +kernel), List.mem_of_getElem? (i := 426) (by decide +kernel), List.mem_of_getElem? (i := 427) (by decide +kernel)⟩
theorem lw_p13 : lw_okq (⟨"StandingUp", "crossingAt", "(J)LStandingUp$Crossing;"⟩, 18) := ⟨⟨by decide +kernel, by decide +kernel⟩, List.mem_of_getElem? (i := 23) (by decide +kernel), List.mem_of_getElem? (i := 431) (by decide +kernel), List.mem_of_getElem? (i := 432) (by decide +kernel)⟩
theorem lw_p14 : lw_okq (⟨"StandingUp", "rowerAt", "(I)LStandingUp$Rower;"⟩, 18) := ⟨⟨by decide +kernel, by decide +kernel⟩, List.mem_of_getElem? (i := 23) (by decide +kernel), List.mem_of_getElem? (i := 448) (by decide +kernel), List.mem_of_getElem? (i := 449) (by decide +kernel)⟩
theorem lw_p15 : lw_okq (⟨"StandingUp", "byRule", "(IIIII)I"⟩, 18) := ⟨⟨by decide +kernel, by decide +kernel⟩, List.mem_of_getElem? (i := 23) (by decide +kernel), List.mem_of_getElem? (i := 690) (by decide +kernel), List.mem_of_getElem? (i := 691) (by decide +kernel)⟩
def lw_privs_1 : List (MethodName × Nat) := [(⟨"StandingUp$Texts", "nextToken", "()V"⟩, 13), (⟨"StandingUp$Texts", "takeWord", "()V"⟩, 13), (⟨"StandingUp$Texts", "isWord", "(I)Z"⟩, 13), (⟨"StandingUp$Texts", "takeNumber", "()V"⟩, 13), (⟨"StandingUp$Texts", "pass", "(I)V"⟩, 13), (⟨"StandingUp$Texts", "refuse", "()V"⟩, 13), (⟨"StandingUp$Texts", "read", "(II)V"⟩, 13), (⟨"StandingUp$Texts", "readOpening", "(I)V"⟩, 13), (⟨"StandingUp$Texts", "write", "(I)V"⟩, 13), (⟨"StandingUp$Texts", "readOne", "()V"⟩, 13), (⟨"StandingUp$Texts", "readJoined", "(II)V"⟩, 13), (⟨"StandingUp$Texts", "joins", "(I)Z"⟩, 13), (⟨"StandingUp", "setWater", "(II)I"⟩, 18), (⟨"StandingUp", "crossingAt", "(J)LStandingUp$Crossing;"⟩, 18), (⟨"StandingUp", "rowerAt", "(I)LStandingUp$Rower;"⟩, 18), (⟨"StandingUp", "byRule", "(IIIII)I"⟩, 18)]
theorem lw_r1 : ∀ q ∈ lw_privs_1, lw_okq q := List.forall_mem_cons.mpr ⟨lw_p0, List.forall_mem_cons.mpr ⟨lw_p1, List.forall_mem_cons.mpr ⟨lw_p2, List.forall_mem_cons.mpr ⟨lw_p3, List.forall_mem_cons.mpr ⟨lw_p4, List.forall_mem_cons.mpr ⟨lw_p5, List.forall_mem_cons.mpr ⟨lw_p6, List.forall_mem_cons.mpr ⟨lw_p7, List.forall_mem_cons.mpr ⟨lw_p8, List.forall_mem_cons.mpr ⟨lw_p9, List.forall_mem_cons.mpr ⟨lw_p10, List.forall_mem_cons.mpr ⟨lw_p11, List.forall_mem_cons.mpr ⟨lw_p12, List.forall_mem_cons.mpr ⟨lw_p13, List.forall_mem_cons.mpr ⟨lw_p14, List.forall_mem_cons.mpr ⟨lw_p15, fun _ h => absurd h List.not_mem_nil⟩⟩⟩⟩⟩⟩⟩⟩⟩⟩⟩⟩⟩⟩⟩⟩
theorem lw_p16 : lw_okq (⟨"StandingUp$Texts", "doStep", "(II[I)I"⟩, 13) := ⟨⟨by decide +kernel, by decide +kernel⟩, List.mem_of_getElem? (i := 35) (by decide +kernel), List.mem_of_getElem? (i := 698) (by decide +kernel), List.mem_of_getElem? (i := 699) (by decide +kernel)⟩
theorem lw_p17 : lw_okq (⟨"StandingUp", "oneOf", "(I)LStandingUp$Rower;"⟩, 18) := ⟨⟨by decide +kernel, by decide +kernel⟩, List.mem_of_getElem? (i := 23) (by decide +kernel), List.mem_of_getElem? (i := 722) (by decide +kernel), List.mem_of_getElem? (i := 723) (by decide +kernel)⟩
theorem lw_p18 : lw_okq (⟨"StandingUp", "otherOf", "(I)LStandingUp$Rower;"⟩, 18) := ⟨⟨by decide +kernel, by decide +kernel⟩, List.mem_of_getElem? (i := 23) (by decide +kernel), List.mem_of_getElem? (i := 726) (by decide +kernel), List.mem_of_getElem? (i := 727) (by decide +kernel)⟩
theorem lw_p19 : lw_okq (⟨"StandingUp", "sheetAt", "(I)LStandingUp$Sheet;"⟩, 18) := ⟨⟨by decide +kernel, by decide +kernel⟩, List.mem_of_getElem? (i := 23) (by decide +kernel), List.mem_of_getElem? (i := 740) (by decide +kernel), List.mem_of_getElem? (i := 741) (by decide +kernel)⟩
theorem lw_p20 : lw_okq (⟨"StandingUp$Boat", "bestFrom", "(II)J"⟩, 6) := ⟨⟨by decide +kernel, by decide +kernel⟩, List.mem_of_getElem? (i := 86) (by decide +kernel), List.mem_of_getElem? (i := 765) (by decide +kernel), List.mem_of_getElem? (i := 766) (by decide +kernel)⟩
theorem lw_p21 : lw_okq (⟨"StandingUp$Boat", "planPuttingOff", "(II)J"⟩, 6) := ⟨⟨by decide +kernel, by decide +kernel⟩, List.mem_of_getElem? (i := 86) (by decide +kernel), List.mem_of_getElem? (i := 769) (by decide +kernel), List.mem_of_getElem? (i := 770) (by decide +kernel)⟩
theorem lw_p22 : lw_okq (⟨"StandingUp$Boat", "waitsAfterLast", "(I)J"⟩, 6) := ⟨⟨by decide +kernel, by decide +kernel⟩, List.mem_of_getElem? (i := 86) (by decide +kernel), List.mem_of_getElem? (i := 773) (by decide +kernel), List.mem_of_getElem? (i := 774) (by decide +kernel)⟩
theorem lw_p23 : lw_okq (⟨"StandingUp", "dueTwo", "(II)I"⟩, 18) := ⟨⟨by decide +kernel, by decide +kernel⟩, List.mem_of_getElem? (i := 23) (by decide +kernel), List.mem_of_getElem? (i := 792) (by decide +kernel), List.mem_of_getElem? (i := 793) (by decide +kernel)⟩
theorem lw_p24 : lw_okq (⟨"StandingUp", "oneMore", "(I)V"⟩, 18) := ⟨⟨by decide +kernel, by decide +kernel⟩, List.mem_of_getElem? (i := 23) (by decide +kernel), List.mem_of_getElem? (i := 813) (by decide +kernel), List.mem_of_getElem? (i := 814) (by decide +kernel)⟩
theorem lw_p25 : lw_okq (⟨"StandingUp", "firstOther", "(ILStandingUp$Sheet;)I"⟩, 18) := ⟨⟨by decide +kernel, by decide +kernel⟩, List.mem_of_getElem? (i := 23) (by decide +kernel), List.mem_of_getElem? (i := 821) (by decide +kernel), List.mem_of_getElem? (i := 822) (by decide +kernel)⟩
theorem lw_p26 : lw_okq (⟨"StandingUp", "eldestSon", "(I)I"⟩, 18) := ⟨⟨by decide +kernel, by decide +kernel⟩, List.mem_of_getElem? (i := 23) (by decide +kernel), List.mem_of_getElem? (i := 830) (by decide +kernel), List.mem_of_getElem? (i := 831) (by decide +kernel)⟩
theorem lw_p27 : lw_okq (⟨"StandingUp", "firstOfBlood", "(I)I"⟩, 18) := ⟨⟨by decide +kernel, by decide +kernel⟩, List.mem_of_getElem? (i := 23) (by decide +kernel), List.mem_of_getElem? (i := 834) (by decide +kernel), List.mem_of_getElem? (i := 835) (by decide +kernel)⟩
theorem lw_p28 : lw_okq (⟨"StandingUp", "mostTurns", "(II)I"⟩, 18) := ⟨⟨by decide +kernel, by decide +kernel⟩, List.mem_of_getElem? (i := 23) (by decide +kernel), List.mem_of_getElem? (i := 838) (by decide +kernel), List.mem_of_getElem? (i := 839) (by decide +kernel)⟩
theorem lw_p29 : lw_okq (⟨"StandingUp$Landings", "measure", "([I[LStandingUp$Crossing;I)V"⟩, 4) := ⟨⟨by decide +kernel, by decide +kernel⟩, List.mem_of_getElem? (i := 112) (by decide +kernel), List.mem_of_getElem? (i := 869) (by decide +kernel), List.mem_of_getElem? (i := 870) (by decide +kernel)⟩
theorem lw_p30 : lw_okq (⟨"StandingUp", "priceOf", "(II)I"⟩, 18) := ⟨⟨by decide +kernel, by decide +kernel⟩, List.mem_of_getElem? (i := 23) (by decide +kernel), List.mem_of_getElem? (i := 910) (by decide +kernel), List.mem_of_getElem? (i := 911) (by decide +kernel)⟩
theorem lw_p31 : lw_okq (⟨"StandingUp", "openOnes", "()I"⟩, 18) := ⟨⟨by decide +kernel, by decide +kernel⟩, List.mem_of_getElem? (i := 23) (by decide +kernel), List.mem_of_getElem? (i := 976) (by decide +kernel), List.mem_of_getElem? (i := 977) (by decide +kernel)⟩
def lw_privs_2 : List (MethodName × Nat) := [(⟨"StandingUp$Texts", "doStep", "(II[I)I"⟩, 13), (⟨"StandingUp", "oneOf", "(I)LStandingUp$Rower;"⟩, 18), (⟨"StandingUp", "otherOf", "(I)LStandingUp$Rower;"⟩, 18), (⟨"StandingUp", "sheetAt", "(I)LStandingUp$Sheet;"⟩, 18), (⟨"StandingUp$Boat", "bestFrom", "(II)J"⟩, 6), (⟨"StandingUp$Boat", "planPuttingOff", "(II)J"⟩, 6), (⟨"StandingUp$Boat", "waitsAfterLast", "(I)J"⟩, 6), (⟨"StandingUp", "dueTwo", "(II)I"⟩, 18), (⟨"StandingUp", "oneMore", "(I)V"⟩, 18), (⟨"StandingUp", "firstOther", "(ILStandingUp$Sheet;)I"⟩, 18), (⟨"StandingUp", "eldestSon", "(I)I"⟩, 18), (⟨"StandingUp", "firstOfBlood", "(I)I"⟩, 18), (⟨"StandingUp", "mostTurns", "(II)I"⟩, 18), (⟨"StandingUp$Landings", "measure", "([I[LStandingUp$Crossing;I)V"⟩, 4), (⟨"StandingUp", "priceOf", "(II)I"⟩, 18), (⟨"StandingUp", "openOnes", "()I"⟩, 18)]
theorem lw_r2 : ∀ q ∈ lw_privs_2, lw_okq q := List.forall_mem_cons.mpr ⟨lw_p16, List.forall_mem_cons.mpr ⟨lw_p17, List.forall_mem_cons.mpr ⟨lw_p18, List.forall_mem_cons.mpr ⟨lw_p19, List.forall_mem_cons.mpr ⟨lw_p20, List.forall_mem_cons.mpr ⟨lw_p21, List.forall_mem_cons.mpr ⟨lw_p22, List.forall_mem_cons.mpr ⟨lw_p23, List.forall_mem_cons.mpr ⟨lw_p24, List.forall_mem_cons.mpr ⟨lw_p25, List.forall_mem_cons.mpr ⟨lw_p26, List.forall_mem_cons.mpr ⟨lw_p27, List.forall_mem_cons.mpr ⟨lw_p28, List.forall_mem_cons.mpr ⟨lw_p29, List.forall_mem_cons.mpr ⟨lw_p30, List.forall_mem_cons.mpr ⟨lw_p31, fun _ h => absurd h List.not_mem_nil⟩⟩⟩⟩⟩⟩⟩⟩⟩⟩⟩⟩⟩⟩⟩⟩
theorem lw_p32 : lw_okq (⟨"StandingUp", "illOnes", "()I"⟩, 18) := ⟨⟨by decide +kernel, by decide +kernel⟩, List.mem_of_getElem? (i := 23) (by decide +kernel), List.mem_of_getElem? (i := 980) (by decide +kernel), List.mem_of_getElem? (i := 981) (by decide +kernel)⟩
theorem lw_p33 : lw_okq (⟨"StandingUp", "turnsInAll", "()I"⟩, 18) := ⟨⟨by decide +kernel, by decide +kernel⟩, List.mem_of_getElem? (i := 23) (by decide +kernel), List.mem_of_getElem? (i := 984) (by decide +kernel), List.mem_of_getElem? (i := 985) (by decide +kernel)⟩
theorem lw_p34 : lw_okq (⟨"StandingUpModel", "spell", "(IJ)V"⟩, 58) := ⟨⟨by decide +kernel, by decide +kernel⟩, List.mem_of_getElem? (i := 1027) (by decide +kernel), List.mem_of_getElem? (i := 1034) (by decide +kernel), List.mem_of_getElem? (i := 1035) (by decide +kernel)⟩
theorem lw_p35 : lw_okq (⟨"StandingUpModel", "isCrossing", "(I)Z"⟩, 58) := ⟨⟨by decide +kernel, by decide +kernel⟩, List.mem_of_getElem? (i := 1027) (by decide +kernel), List.mem_of_getElem? (i := 1237) (by decide +kernel), List.mem_of_getElem? (i := 1238) (by decide +kernel)⟩
theorem lw_p36 : lw_okq (⟨"StandingUpModel", "isRower", "(I)Z"⟩, 58) := ⟨⟨by decide +kernel, by decide +kernel⟩, List.mem_of_getElem? (i := 1027) (by decide +kernel), List.mem_of_getElem? (i := 1249) (by decide +kernel), List.mem_of_getElem? (i := 1250) (by decide +kernel)⟩
theorem lw_p37 : lw_okq (⟨"StandingUpModel", "paceOf", "(I)I"⟩, 58) := ⟨⟨by decide +kernel, by decide +kernel⟩, List.mem_of_getElem? (i := 1027) (by decide +kernel), List.mem_of_getElem? (i := 1266) (by decide +kernel), List.mem_of_getElem? (i := 1267) (by decide +kernel)⟩
theorem lw_p38 : lw_okq (⟨"StandingUpModel", "may", "(II)Z"⟩, 58) := ⟨⟨by decide +kernel, by decide +kernel⟩, List.mem_of_getElem? (i := 1027) (by decide +kernel), List.mem_of_getElem? (i := 1270) (by decide +kernel), List.mem_of_getElem? (i := 1271) (by decide +kernel)⟩
theorem lw_p39 : lw_okq (⟨"StandingUpModel", "partsOf", "(I)I"⟩, 58) := ⟨⟨by decide +kernel, by decide +kernel⟩, List.mem_of_getElem? (i := 1027) (by decide +kernel), List.mem_of_getElem? (i := 1277) (by decide +kernel), List.mem_of_getElem? (i := 1278) (by decide +kernel)⟩
theorem lw_p40 : lw_okq (⟨"StandingUpModel", "dueOf", "(II)I"⟩, 58) := ⟨⟨by decide +kernel, by decide +kernel⟩, List.mem_of_getElem? (i := 1027) (by decide +kernel), List.mem_of_getElem? (i := 1281) (by decide +kernel), List.mem_of_getElem? (i := 1282) (by decide +kernel)⟩
theorem lw_p41 : lw_okq (⟨"StandingUpModel", "read", "(IIIIII)I"⟩, 58) := ⟨⟨by decide +kernel, by decide +kernel⟩, List.mem_of_getElem? (i := 1027) (by decide +kernel), List.mem_of_getElem? (i := 1285) (by decide +kernel), List.mem_of_getElem? (i := 1286) (by decide +kernel)⟩
theorem lw_p42 : lw_okq (⟨"StandingUpModel", "next", "()V"⟩, 58) := ⟨⟨by decide +kernel, by decide +kernel⟩, List.mem_of_getElem? (i := 1027) (by decide +kernel), List.mem_of_getElem? (i := 1289) (by decide +kernel), List.mem_of_getElem? (i := 1290) (by decide +kernel)⟩
theorem lw_p43 : lw_okq (⟨"StandingUpModel", "byteAt", "(I)I"⟩, 58) := ⟨⟨by decide +kernel, by decide +kernel⟩, List.mem_of_getElem? (i := 1027) (by decide +kernel), List.mem_of_getElem? (i := 1293) (by decide +kernel), List.mem_of_getElem? (i := 1294) (by decide +kernel)⟩
theorem lw_p44 : lw_okq (⟨"StandingUpModel", "part", "(J)I"⟩, 58) := ⟨⟨by decide +kernel, by decide +kernel⟩, List.mem_of_getElem? (i := 1027) (by decide +kernel), List.mem_of_getElem? (i := 1306) (by decide +kernel), List.mem_of_getElem? (i := 1307) (by decide +kernel)⟩
theorem lw_p45 : lw_okq (⟨"StandingUpModel", "isWord", "(J)Z"⟩, 58) := ⟨⟨by decide +kernel, by decide +kernel⟩, List.mem_of_getElem? (i := 1027) (by decide +kernel), List.mem_of_getElem? (i := 1310) (by decide +kernel), List.mem_of_getElem? (i := 1311) (by decide +kernel)⟩
theorem lw_p46 : lw_okq (⟨"StandingUpModel", "fail", "()V"⟩, 58) := ⟨⟨by decide +kernel, by decide +kernel⟩, List.mem_of_getElem? (i := 1027) (by decide +kernel), List.mem_of_getElem? (i := 1314) (by decide +kernel), List.mem_of_getElem? (i := 1315) (by decide +kernel)⟩
theorem lw_p47 : lw_okq (⟨"StandingUpModel", "either", "()I"⟩, 58) := ⟨⟨by decide +kernel, by decide +kernel⟩, List.mem_of_getElem? (i := 1027) (by decide +kernel), List.mem_of_getElem? (i := 1318) (by decide +kernel), List.mem_of_getElem? (i := 1319) (by decide +kernel)⟩
def lw_privs_3 : List (MethodName × Nat) := [(⟨"StandingUp", "illOnes", "()I"⟩, 18), (⟨"StandingUp", "turnsInAll", "()I"⟩, 18), (⟨"StandingUpModel", "spell", "(IJ)V"⟩, 58), (⟨"StandingUpModel", "isCrossing", "(I)Z"⟩, 58), (⟨"StandingUpModel", "isRower", "(I)Z"⟩, 58), (⟨"StandingUpModel", "paceOf", "(I)I"⟩, 58), (⟨"StandingUpModel", "may", "(II)Z"⟩, 58), (⟨"StandingUpModel", "partsOf", "(I)I"⟩, 58), (⟨"StandingUpModel", "dueOf", "(II)I"⟩, 58), (⟨"StandingUpModel", "read", "(IIIIII)I"⟩, 58), (⟨"StandingUpModel", "next", "()V"⟩, 58), (⟨"StandingUpModel", "byteAt", "(I)I"⟩, 58), (⟨"StandingUpModel", "part", "(J)I"⟩, 58), (⟨"StandingUpModel", "isWord", "(J)Z"⟩, 58), (⟨"StandingUpModel", "fail", "()V"⟩, 58), (⟨"StandingUpModel", "either", "()I"⟩, 58)]
theorem lw_r3 : ∀ q ∈ lw_privs_3, lw_okq q := List.forall_mem_cons.mpr ⟨lw_p32, List.forall_mem_cons.mpr ⟨lw_p33, List.forall_mem_cons.mpr ⟨lw_p34, List.forall_mem_cons.mpr ⟨lw_p35, List.forall_mem_cons.mpr ⟨lw_p36, List.forall_mem_cons.mpr ⟨lw_p37, List.forall_mem_cons.mpr ⟨lw_p38, List.forall_mem_cons.mpr ⟨lw_p39, List.forall_mem_cons.mpr ⟨lw_p40, List.forall_mem_cons.mpr ⟨lw_p41, List.forall_mem_cons.mpr ⟨lw_p42, List.forall_mem_cons.mpr ⟨lw_p43, List.forall_mem_cons.mpr ⟨lw_p44, List.forall_mem_cons.mpr ⟨lw_p45, List.forall_mem_cons.mpr ⟨lw_p46, List.forall_mem_cons.mpr ⟨lw_p47, fun _ h => absurd h List.not_mem_nil⟩⟩⟩⟩⟩⟩⟩⟩⟩⟩⟩⟩⟩⟩⟩⟩
theorem lw_p48 : lw_okq (⟨"StandingUpModel", "both", "()I"⟩, 58) := ⟨⟨by decide +kernel, by decide +kernel⟩, List.mem_of_getElem? (i := 1027) (by decide +kernel), List.mem_of_getElem? (i := 1322) (by decide +kernel), List.mem_of_getElem? (i := 1323) (by decide +kernel)⟩
theorem lw_p49 : lw_okq (⟨"StandingUpModel", "not", "()I"⟩, 58) := ⟨⟨by decide +kernel, by decide +kernel⟩, List.mem_of_getElem? (i := 1027) (by decide +kernel), List.mem_of_getElem? (i := 1326) (by decide +kernel), List.mem_of_getElem? (i := 1327) (by decide +kernel)⟩
theorem lw_p50 : lw_okq (⟨"StandingUpModel", "opens", "()Z"⟩, 58) := ⟨⟨by decide +kernel, by decide +kernel⟩, List.mem_of_getElem? (i := 1027) (by decide +kernel), List.mem_of_getElem? (i := 1331) (by decide +kernel), List.mem_of_getElem? (i := 1332) (by decide +kernel)⟩
theorem lw_p51 : lw_okq (⟨"StandingUpModel", "added", "()I"⟩, 58) := ⟨⟨by decide +kernel, by decide +kernel⟩, List.mem_of_getElem? (i := 1027) (by decide +kernel), List.mem_of_getElem? (i := 1335) (by decide +kernel), List.mem_of_getElem? (i := 1336) (by decide +kernel)⟩
theorem lw_p52 : lw_okq (⟨"StandingUpModel", "term", "()I"⟩, 58) := ⟨⟨by decide +kernel, by decide +kernel⟩, List.mem_of_getElem? (i := 1027) (by decide +kernel), List.mem_of_getElem? (i := 1339) (by decide +kernel), List.mem_of_getElem? (i := 1340) (by decide +kernel)⟩
theorem lw_p53 : lw_okq (⟨"StandingUpModel", "one", "()I"⟩, 58) := ⟨⟨by decide +kernel, by decide +kernel⟩, List.mem_of_getElem? (i := 1027) (by decide +kernel), List.mem_of_getElem? (i := 1343) (by decide +kernel), List.mem_of_getElem? (i := 1344) (by decide +kernel)⟩
theorem lw_p54 : lw_okq (⟨"StandingUpModel", "isSign", "(I)Z"⟩, 58) := ⟨⟨by decide +kernel, by decide +kernel⟩, List.mem_of_getElem? (i := 1027) (by decide +kernel), List.mem_of_getElem? (i := 1347) (by decide +kernel), List.mem_of_getElem? (i := 1348) (by decide +kernel)⟩
theorem lw_p55 : lw_okq (⟨"StandingUpModel", "name", "()I"⟩, 58) := ⟨⟨by decide +kernel, by decide +kernel⟩, List.mem_of_getElem? (i := 1027) (by decide +kernel), List.mem_of_getElem? (i := 1351) (by decide +kernel), List.mem_of_getElem? (i := 1352) (by decide +kernel)⟩
theorem lw_p56 : lw_okq (⟨"StandingUpModel", "areTwo", "(I)Z"⟩, 58) := ⟨⟨by decide +kernel, by decide +kernel⟩, List.mem_of_getElem? (i := 1027) (by decide +kernel), List.mem_of_getElem? (i := 1383) (by decide +kernel), List.mem_of_getElem? (i := 1384) (by decide +kernel)⟩
theorem lw_p57 : lw_okq (⟨"StandingUpModel", "minute", "(IIIIIIZ)V"⟩, 58) := ⟨⟨by decide +kernel, by decide +kernel⟩, List.mem_of_getElem? (i := 1027) (by decide +kernel), List.mem_of_getElem? (i := 1408) (by decide +kernel), List.mem_of_getElem? (i := 1409) (by decide +kernel)⟩
theorem lw_p58 : lw_okq (⟨"StandingUpModel", "turnOf", "(II)I"⟩, 58) := ⟨⟨by decide +kernel, by decide +kernel⟩, List.mem_of_getElem? (i := 1027) (by decide +kernel), List.mem_of_getElem? (i := 1416) (by decide +kernel), List.mem_of_getElem? (i := 1417) (by decide +kernel)⟩
theorem lw_p59 : lw_okq (⟨"StandingUpModel", "foremost", "(III)I"⟩, 58) := ⟨⟨by decide +kernel, by decide +kernel⟩, List.mem_of_getElem? (i := 1027) (by decide +kernel), List.mem_of_getElem? (i := 1420) (by decide +kernel), List.mem_of_getElem? (i := 1421) (by decide +kernel)⟩
theorem lw_p60 : lw_okq (⟨"StandingUpModel", "isAhead", "(II)Z"⟩, 58) := ⟨⟨by decide +kernel, by decide +kernel⟩, List.mem_of_getElem? (i := 1027) (by decide +kernel), List.mem_of_getElem? (i := 1438) (by decide +kernel), List.mem_of_getElem? (i := 1439) (by decide +kernel)⟩
theorem lw_p61 : lw_okq (⟨"StandingUpModel", "walks", "()V"⟩, 58) := ⟨⟨by decide +kernel, by decide +kernel⟩, List.mem_of_getElem? (i := 1027) (by decide +kernel), List.mem_of_getElem? (i := 1456) (by decide +kernel), List.mem_of_getElem? (i := 1457) (by decide +kernel)⟩
theorem lw_p62 : lw_okq (⟨"StandingUpModel", "priceOf", "(II)I"⟩, 58) := ⟨⟨by decide +kernel, by decide +kernel⟩, List.mem_of_getElem? (i := 1027) (by decide +kernel), List.mem_of_getElem? (i := 1483) (by decide +kernel), List.mem_of_getElem? (i := 1484) (by decide +kernel)⟩
def lw_privs_4 : List (MethodName × Nat) := [(⟨"StandingUpModel", "both", "()I"⟩, 58), (⟨"StandingUpModel", "not", "()I"⟩, 58), (⟨"StandingUpModel", "opens", "()Z"⟩, 58), (⟨"StandingUpModel", "added", "()I"⟩, 58), (⟨"StandingUpModel", "term", "()I"⟩, 58), (⟨"StandingUpModel", "one", "()I"⟩, 58), (⟨"StandingUpModel", "isSign", "(I)Z"⟩, 58), (⟨"StandingUpModel", "name", "()I"⟩, 58), (⟨"StandingUpModel", "areTwo", "(I)Z"⟩, 58), (⟨"StandingUpModel", "minute", "(IIIIIIZ)V"⟩, 58), (⟨"StandingUpModel", "turnOf", "(II)I"⟩, 58), (⟨"StandingUpModel", "foremost", "(III)I"⟩, 58), (⟨"StandingUpModel", "isAhead", "(II)Z"⟩, 58), (⟨"StandingUpModel", "walks", "()V"⟩, 58), (⟨"StandingUpModel", "priceOf", "(II)I"⟩, 58)]
theorem lw_r4 : ∀ q ∈ lw_privs_4, lw_okq q := List.forall_mem_cons.mpr ⟨lw_p48, List.forall_mem_cons.mpr ⟨lw_p49, List.forall_mem_cons.mpr ⟨lw_p50, List.forall_mem_cons.mpr ⟨lw_p51, List.forall_mem_cons.mpr ⟨lw_p52, List.forall_mem_cons.mpr ⟨lw_p53, List.forall_mem_cons.mpr ⟨lw_p54, List.forall_mem_cons.mpr ⟨lw_p55, List.forall_mem_cons.mpr ⟨lw_p56, List.forall_mem_cons.mpr ⟨lw_p57, List.forall_mem_cons.mpr ⟨lw_p58, List.forall_mem_cons.mpr ⟨lw_p59, List.forall_mem_cons.mpr ⟨lw_p60, List.forall_mem_cons.mpr ⟨lw_p61, List.forall_mem_cons.mpr ⟨lw_p62, fun _ h => absurd h List.not_mem_nil⟩⟩⟩⟩⟩⟩⟩⟩⟩⟩⟩⟩⟩⟩⟩
def lw_privs : List (MethodName × Nat) := lw_privs_1 ++ (lw_privs_2 ++ (lw_privs_3 ++ (lw_privs_4)))
def lw_tbl : List Cond := k2_sels lw_privs ++ tables_1
theorem lw_privs_ok : ∀ q ∈ lw_privs, lw_okq q := by
  show ∀ q ∈ lw_privs_1 ++ (lw_privs_2 ++ (lw_privs_3 ++ (lw_privs_4))), lw_okq q
  exact List.forall_mem_append.mpr ⟨lw_r1, List.forall_mem_append.mpr ⟨lw_r2, List.forall_mem_append.mpr ⟨lw_r3, lw_r4⟩⟩⟩
-- names and field tables, as printed
def RX0 : String := "StandingUp$Boat"
def TX0 : u_T := fun k => match k with
  | 0 => ("StandingUp$Boat", "minutes", "I", false)
  | 1 => ("StandingUp$Boat", "most", "I", false)
  | 2 => ("StandingUp$Boat", "trip", "I", false)
  | 3 => ("StandingUp$Boat", "came", "[I", true)
  | 4 => ("StandingUp$Boat", "sums", "[I", true)
  | _ => ("StandingUp$Boat", "best", "[J", true)
def tyX0 : Nat → FieldType := fun k => match k with
  | 0 => .int
  | 1 => .int
  | 2 => .int
  | 3 => .array .int
  | 4 => .array .int
  | _ => .array .long
theorem nmX0 : ∀ a, a < 6 → ∀ b, b < 6 → a ≠ b → (TX0 a).2.1 ≠ (TX0 b).2.1 := by decide +kernel
theorem tyX0_ok : ∀ k, k < 6 → parseFieldDescriptor (TX0 k).2.2.1 = some (tyX0 k) := by decide +kernel
abbrev cX0_init : ByteArray := prog_2_method_1_code
def yX0_init : MethodName := ⟨RX0, "<init>", "()V"⟩
abbrev cX0_waitsOf : ByteArray := prog_2_method_2_code
def yX0_waitsOf : MethodName := ⟨RX0, "waitsOf", "(J)I"⟩
abbrev cX0_minutesOf : ByteArray := prog_2_method_3_code
def yX0_minutesOf : MethodName := ⟨RX0, "minutesOf", "(J)I"⟩
abbrev cX0_awaits : ByteArray := prog_2_method_4_code
def yX0_awaits : MethodName := ⟨RX0, "awaits", "(LStandingUp$Sheet;)Z"⟩
abbrev cX0_bestPlan : ByteArray := prog_2_method_5_code
def yX0_bestPlan : MethodName := ⟨RX0, "bestPlan", "(II)J"⟩
abbrev cX0_bestFrom : ByteArray := prog_2_method_6_code
def yX0_bestFrom : MethodName := ⟨RX0, "bestFrom", "(II)J"⟩
abbrev cX0_planPuttingOff : ByteArray := prog_2_method_7_code
def yX0_planPuttingOff : MethodName := ⟨RX0, "planPuttingOff", "(II)J"⟩
abbrev cX0_waitsAfterLast : ByteArray := prog_2_method_8_code
def yX0_waitsAfterLast : MethodName := ⟨RX0, "waitsAfterLast", "(I)J"⟩
def RX1 : String := "StandingUp$Crossing"
def TX1 : u_T := fun k => match k with
  | 0 => ("StandingUp$Crossing", "strokes", "I", true)
  | 1 => ("StandingUp$Crossing", "landings", "I", true)
  | 2 => ("StandingUp$Crossing", "isOpen", "I", false)
  | 3 => ("StandingUp$Crossing", "heads", "I", false)
  | 4 => ("StandingUp$Crossing", "keptOpen", "I", false)
  | _ => ("StandingUp$Crossing", "keptHeads", "I", false)
def tyX1 : Nat → FieldType := fun k => match k with
  | 0 => .int
  | 1 => .int
  | 2 => .int
  | 3 => .int
  | 4 => .int
  | _ => .int
theorem nmX1 : ∀ a, a < 6 → ∀ b, b < 6 → a ≠ b → (TX1 a).2.1 ≠ (TX1 b).2.1 := by decide +kernel
theorem tyX1_ok : ∀ k, k < 6 → parseFieldDescriptor (TX1 k).2.2.1 = some (tyX1 k) := by decide +kernel
abbrev cX1_init : ByteArray := prog_3_method_1_code
def yX1_init : MethodName := ⟨RX1, "<init>", "(II)V"⟩
abbrev cX1_become : ByteArray := prog_3_method_2_code
def yX1_become : MethodName := ⟨RX1, "become", "(I)I"⟩
abbrev cX1_takeHeads : ByteArray := prog_3_method_3_code
def yX1_takeHeads : MethodName := ⟨RX1, "takeHeads", "(I)I"⟩
abbrev cX1_crewNeeded : ByteArray := prog_3_method_4_code
def yX1_crewNeeded : MethodName := ⟨RX1, "crewNeeded", "()I"⟩
abbrev cX1_keep : ByteArray := prog_3_method_5_code
def yX1_keep : MethodName := ⟨RX1, "keep", "()V"⟩
abbrev cX1_comeBack : ByteArray := prog_3_method_6_code
def yX1_comeBack : MethodName := ⟨RX1, "comeBack", "()V"⟩
def RX2 : String := "StandingUp$Elder"
def TX2 : u_T := fun k => match k with
  | 0 => ("StandingUp$Rower", "kind", "I", true)
  | 1 => ("StandingUp$Rower", "age", "I", true)
  | 2 => ("StandingUp$Rower", "number", "I", true)
  | 3 => ("StandingUp$Rower", "crossing", "I", true)
  | 4 => ("StandingUp$Rower", "father", "I", true)
  | 5 => ("StandingUp$Rower", "illness", "I", false)
  | 6 => ("StandingUp$Rower", "turns", "I", false)
  | 7 => ("StandingUp$Rower", "keptIllness", "I", false)
  | _ => ("StandingUp$Rower", "keptTurns", "I", false)
def tyX2 : Nat → FieldType := fun k => match k with
  | 0 => .int
  | 1 => .int
  | 2 => .int
  | 3 => .int
  | 4 => .int
  | 5 => .int
  | 6 => .int
  | 7 => .int
  | _ => .int
theorem nmX2 : ∀ a, a < 9 → ∀ b, b < 9 → a ≠ b → (TX2 a).2.1 ≠ (TX2 b).2.1 := by decide +kernel
theorem tyX2_ok : ∀ k, k < 9 → parseFieldDescriptor (TX2 k).2.2.1 = some (tyX2 k) := by decide +kernel
abbrev cX2_init : ByteArray := prog_4_method_1_code
def yX2_init : MethodName := ⟨RX2, "<init>", "(III)V"⟩
abbrev cX2_pace : ByteArray := prog_4_method_2_code
def yX2_pace : MethodName := ⟨RX2, "pace", "()I"⟩
abbrev cX2_may : ByteArray := prog_4_method_3_code
def yX2_may : MethodName := ⟨RX2, "may", "(I)Z"⟩
abbrev cX2_parts : ByteArray := prog_4_method_4_code
def yX2_parts : MethodName := ⟨RX2, "parts", "()I"⟩
def RX3 : String := "StandingUp$Heir"
def TX3 : u_T := fun k => match k with
  | 0 => ("StandingUp$Rower", "kind", "I", true)
  | 1 => ("StandingUp$Rower", "age", "I", true)
  | 2 => ("StandingUp$Rower", "number", "I", true)
  | 3 => ("StandingUp$Rower", "crossing", "I", true)
  | 4 => ("StandingUp$Rower", "father", "I", true)
  | 5 => ("StandingUp$Rower", "illness", "I", false)
  | 6 => ("StandingUp$Rower", "turns", "I", false)
  | 7 => ("StandingUp$Rower", "keptIllness", "I", false)
  | _ => ("StandingUp$Rower", "keptTurns", "I", false)
def tyX3 : Nat → FieldType := fun k => match k with
  | 0 => .int
  | 1 => .int
  | 2 => .int
  | 3 => .int
  | 4 => .int
  | 5 => .int
  | 6 => .int
  | 7 => .int
  | _ => .int
theorem nmX3 : ∀ a, a < 9 → ∀ b, b < 9 → a ≠ b → (TX3 a).2.1 ≠ (TX3 b).2.1 := by decide +kernel
theorem tyX3_ok : ∀ k, k < 9 → parseFieldDescriptor (TX3 k).2.2.1 = some (tyX3 k) := by decide +kernel
abbrev cX3_init : ByteArray := prog_5_method_1_code
def yX3_init : MethodName := ⟨RX3, "<init>", "(III)V"⟩
abbrev cX3_pace : ByteArray := prog_5_method_2_code
def yX3_pace : MethodName := ⟨RX3, "pace", "()I"⟩
abbrev cX3_may : ByteArray := prog_5_method_3_code
def yX3_may : MethodName := ⟨RX3, "may", "(I)Z"⟩
abbrev cX3_parts : ByteArray := prog_5_method_4_code
def yX3_parts : MethodName := ⟨RX3, "parts", "()I"⟩
def RX4 : String := "StandingUp$Landings"
def TX4 : u_T := fun k => match k with
  | 0 => ("StandingUp$Landings", "paths", "[I", true)
  | 1 => ("StandingUp$Landings", "keptPaths", "[I", true)
  | 2 => ("StandingUp$Landings", "now", "[I", true)
  | _ => ("StandingUp$Landings", "then", "[I", true)
def tyX4 : Nat → FieldType := fun k => match k with
  | 0 => .array .int
  | 1 => .array .int
  | 2 => .array .int
  | _ => .array .int
theorem nmX4 : ∀ a, a < 4 → ∀ b, b < 4 → a ≠ b → (TX4 a).2.1 ≠ (TX4 b).2.1 := by decide +kernel
theorem tyX4_ok : ∀ k, k < 4 → parseFieldDescriptor (TX4 k).2.2.1 = some (tyX4 k) := by decide +kernel
abbrev cX4_init : ByteArray := prog_6_method_1_code
def yX4_init : MethodName := ⟨RX4, "<init>", "()V"⟩
abbrev cX4_areTwo : ByteArray := prog_6_method_2_code
def yX4_areTwo : MethodName := ⟨RX4, "areTwo", "(I)Z"⟩
abbrev cX4_turned : ByteArray := prog_6_method_3_code
def yX4_turned : MethodName := ⟨RX4, "turned", "(I)I"⟩
abbrev cX4_takePath : ByteArray := prog_6_method_4_code
def yX4_takePath : MethodName := ⟨RX4, "takePath", "(II)I"⟩
abbrev cX4_leastWay : ByteArray := prog_6_method_5_code
def yX4_leastWay : MethodName := ⟨RX4, "leastWay", "(I[LStandingUp$Crossing;I)I"⟩
abbrev cX4_measureNow : ByteArray := prog_6_method_6_code
def yX4_measureNow : MethodName := ⟨RX4, "measureNow", "([LStandingUp$Crossing;I)V"⟩
abbrev cX4_measureThen : ByteArray := prog_6_method_7_code
def yX4_measureThen : MethodName := ⟨RX4, "measureThen", "([LStandingUp$Crossing;I)V"⟩
abbrev cX4_measure : ByteArray := prog_6_method_8_code
def yX4_measure : MethodName := ⟨RX4, "measure", "([I[LStandingUp$Crossing;I)V"⟩
abbrev cX4_lostMinutes : ByteArray := prog_6_method_9_code
def yX4_lostMinutes : MethodName := ⟨RX4, "lostMinutes", "()I"⟩
abbrev cX4_keep : ByteArray := prog_6_method_10_code
def yX4_keep : MethodName := ⟨RX4, "keep", "()V"⟩
abbrev cX4_comeBack : ByteArray := prog_6_method_11_code
def yX4_comeBack : MethodName := ⟨RX4, "comeBack", "()V"⟩
def RX5 : String := "StandingUp$Master"
def TX5 : u_T := fun k => match k with
  | 0 => ("StandingUp$Rower", "kind", "I", true)
  | 1 => ("StandingUp$Rower", "age", "I", true)
  | 2 => ("StandingUp$Rower", "number", "I", true)
  | 3 => ("StandingUp$Rower", "crossing", "I", true)
  | 4 => ("StandingUp$Rower", "father", "I", true)
  | 5 => ("StandingUp$Rower", "illness", "I", false)
  | 6 => ("StandingUp$Rower", "turns", "I", false)
  | 7 => ("StandingUp$Rower", "keptIllness", "I", false)
  | _ => ("StandingUp$Rower", "keptTurns", "I", false)
def tyX5 : Nat → FieldType := fun k => match k with
  | 0 => .int
  | 1 => .int
  | 2 => .int
  | 3 => .int
  | 4 => .int
  | 5 => .int
  | 6 => .int
  | 7 => .int
  | _ => .int
theorem nmX5 : ∀ a, a < 9 → ∀ b, b < 9 → a ≠ b → (TX5 a).2.1 ≠ (TX5 b).2.1 := by decide +kernel
theorem tyX5_ok : ∀ k, k < 9 → parseFieldDescriptor (TX5 k).2.2.1 = some (tyX5 k) := by decide +kernel
abbrev cX5_init : ByteArray := prog_7_method_1_code
def yX5_init : MethodName := ⟨RX5, "<init>", "(III)V"⟩
abbrev cX5_pace : ByteArray := prog_7_method_2_code
def yX5_pace : MethodName := ⟨RX5, "pace", "()I"⟩
abbrev cX5_may : ByteArray := prog_7_method_3_code
def yX5_may : MethodName := ⟨RX5, "may", "(I)Z"⟩
abbrev cX5_parts : ByteArray := prog_7_method_4_code
def yX5_parts : MethodName := ⟨RX5, "parts", "()I"⟩
def RX6 : String := "StandingUp$Old"
def TX6 : u_T := fun k => match k with
  | 0 => ("StandingUp$Rower", "kind", "I", true)
  | 1 => ("StandingUp$Rower", "age", "I", true)
  | 2 => ("StandingUp$Rower", "number", "I", true)
  | 3 => ("StandingUp$Rower", "crossing", "I", true)
  | 4 => ("StandingUp$Rower", "father", "I", true)
  | 5 => ("StandingUp$Rower", "illness", "I", false)
  | 6 => ("StandingUp$Rower", "turns", "I", false)
  | 7 => ("StandingUp$Rower", "keptIllness", "I", false)
  | _ => ("StandingUp$Rower", "keptTurns", "I", false)
def tyX6 : Nat → FieldType := fun k => match k with
  | 0 => .int
  | 1 => .int
  | 2 => .int
  | 3 => .int
  | 4 => .int
  | 5 => .int
  | 6 => .int
  | 7 => .int
  | _ => .int
theorem nmX6 : ∀ a, a < 9 → ∀ b, b < 9 → a ≠ b → (TX6 a).2.1 ≠ (TX6 b).2.1 := by decide +kernel
theorem tyX6_ok : ∀ k, k < 9 → parseFieldDescriptor (TX6 k).2.2.1 = some (tyX6 k) := by decide +kernel
abbrev cX6_init : ByteArray := prog_8_method_1_code
def yX6_init : MethodName := ⟨RX6, "<init>", "(III)V"⟩
abbrev cX6_pace : ByteArray := prog_8_method_2_code
def yX6_pace : MethodName := ⟨RX6, "pace", "()I"⟩
abbrev cX6_may : ByteArray := prog_8_method_3_code
def yX6_may : MethodName := ⟨RX6, "may", "(I)Z"⟩
def RX7 : String := "StandingUp$Rower"
def TX7 : u_T := fun k => match k with
  | 0 => ("StandingUp$Rower", "kind", "I", true)
  | 1 => ("StandingUp$Rower", "age", "I", true)
  | 2 => ("StandingUp$Rower", "number", "I", true)
  | 3 => ("StandingUp$Rower", "crossing", "I", true)
  | 4 => ("StandingUp$Rower", "father", "I", true)
  | 5 => ("StandingUp$Rower", "illness", "I", false)
  | 6 => ("StandingUp$Rower", "turns", "I", false)
  | 7 => ("StandingUp$Rower", "keptIllness", "I", false)
  | _ => ("StandingUp$Rower", "keptTurns", "I", false)
def tyX7 : Nat → FieldType := fun k => match k with
  | 0 => .int
  | 1 => .int
  | 2 => .int
  | 3 => .int
  | 4 => .int
  | 5 => .int
  | 6 => .int
  | 7 => .int
  | _ => .int
theorem nmX7 : ∀ a, a < 9 → ∀ b, b < 9 → a ≠ b → (TX7 a).2.1 ≠ (TX7 b).2.1 := by decide +kernel
theorem tyX7_ok : ∀ k, k < 9 → parseFieldDescriptor (TX7 k).2.2.1 = some (tyX7 k) := by decide +kernel
abbrev cX7_init : ByteArray := prog_9_method_1_code
def yX7_init : MethodName := ⟨RX7, "<init>", "(III)V"⟩
abbrev cX7_pace : ByteArray := prog_9_method_2_code
def yX7_pace : MethodName := ⟨RX7, "pace", "()I"⟩
abbrev cX7_toldPace : ByteArray := prog_9_method_3_code
def yX7_toldPace : MethodName := ⟨RX7, "toldPace", "()I"⟩
abbrev cX7_may : ByteArray := prog_9_method_4_code
def yX7_may : MethodName := ⟨RX7, "may", "(I)Z"⟩
abbrev cX7_parts : ByteArray := prog_9_method_5_code
def yX7_parts : MethodName := ⟨RX7, "parts", "()I"⟩
abbrev cX7_rowsAt : ByteArray := prog_9_method_6_code
def yX7_rowsAt : MethodName := ⟨RX7, "rowsAt", "(I)Z"⟩
abbrev cX7_isIll : ByteArray := prog_9_method_7_code
def yX7_isIll : MethodName := ⟨RX7, "isIll", "()Z"⟩
abbrev cX7_keep : ByteArray := prog_9_method_8_code
def yX7_keep : MethodName := ⟨RX7, "keep", "()V"⟩
abbrev cX7_comeBack : ByteArray := prog_9_method_9_code
def yX7_comeBack : MethodName := ⟨RX7, "comeBack", "()V"⟩
def RX8 : String := "StandingUp$Sheet"
def TX8 : u_T := fun k => match k with
  | 0 => ("StandingUp$Sheet", "sort", "I", false)
  | 1 => ("StandingUp$Sheet", "size", "I", false)
  | _ => ("StandingUp$Sheet", "items", "[I", true)
def tyX8 : Nat → FieldType := fun k => match k with
  | 0 => .int
  | 1 => .int
  | _ => .array .int
theorem nmX8 : ∀ a, a < 3 → ∀ b, b < 3 → a ≠ b → (TX8 a).2.1 ≠ (TX8 b).2.1 := by decide +kernel
theorem tyX8_ok : ∀ k, k < 3 → parseFieldDescriptor (TX8 k).2.2.1 = some (tyX8 k) := by decide +kernel
abbrev cX8_init : ByteArray := prog_10_method_1_code
def yX8_init : MethodName := ⟨RX8, "<init>", "()V"⟩
abbrev cX8_isMissing : ByteArray := prog_10_method_2_code
def yX8_isMissing : MethodName := ⟨RX8, "isMissing", "()Z"⟩
abbrev cX8_become : ByteArray := prog_10_method_3_code
def yX8_become : MethodName := ⟨RX8, "become", "(II)V"⟩
abbrev cX8_holds : ByteArray := prog_10_method_4_code
def yX8_holds : MethodName := ⟨RX8, "holds", "(II)Z"⟩
abbrev cX8_item : ByteArray := prog_10_method_5_code
def yX8_item : MethodName := ⟨RX8, "item", "(I)I"⟩
abbrev cX8_put : ByteArray := prog_10_method_6_code
def yX8_put : MethodName := ⟨RX8, "put", "(II)Z"⟩
def RX9 : String := "StandingUp$StandIn"
def TX9 : u_T := fun k => match k with
  | 0 => ("StandingUp$Rower", "kind", "I", true)
  | 1 => ("StandingUp$Rower", "age", "I", true)
  | 2 => ("StandingUp$Rower", "number", "I", true)
  | 3 => ("StandingUp$Rower", "crossing", "I", true)
  | 4 => ("StandingUp$Rower", "father", "I", true)
  | 5 => ("StandingUp$Rower", "illness", "I", false)
  | 6 => ("StandingUp$Rower", "turns", "I", false)
  | 7 => ("StandingUp$Rower", "keptIllness", "I", false)
  | _ => ("StandingUp$Rower", "keptTurns", "I", false)
def tyX9 : Nat → FieldType := fun k => match k with
  | 0 => .int
  | 1 => .int
  | 2 => .int
  | 3 => .int
  | 4 => .int
  | 5 => .int
  | 6 => .int
  | 7 => .int
  | _ => .int
theorem nmX9 : ∀ a, a < 9 → ∀ b, b < 9 → a ≠ b → (TX9 a).2.1 ≠ (TX9 b).2.1 := by decide +kernel
theorem tyX9_ok : ∀ k, k < 9 → parseFieldDescriptor (TX9 k).2.2.1 = some (tyX9 k) := by decide +kernel
abbrev cX9_init : ByteArray := prog_11_method_1_code
def yX9_init : MethodName := ⟨RX9, "<init>", "(III)V"⟩
abbrev cX9_pace : ByteArray := prog_11_method_2_code
def yX9_pace : MethodName := ⟨RX9, "pace", "()I"⟩
abbrev cX9_may : ByteArray := prog_11_method_3_code
def yX9_may : MethodName := ⟨RX9, "may", "(I)Z"⟩
abbrev cX9_parts : ByteArray := prog_11_method_4_code
def yX9_parts : MethodName := ⟨RX9, "parts", "()I"⟩
abbrev cX9_rowsAt : ByteArray := prog_11_method_5_code
def yX9_rowsAt : MethodName := ⟨RX9, "rowsAt", "(I)Z"⟩
def RX10 : String := "StandingUp$Texts"
def TX10 : u_T := fun k => match k with
  | 0 => ("StandingUp$Texts", "tape", "[B", true)
  | 1 => ("StandingUp$Texts", "size", "I", false)
  | 2 => ("StandingUp$Texts", "steps", "[I", true)
  | 3 => ("StandingUp$Texts", "starts", "[I", true)
  | 4 => ("StandingUp$Texts", "count", "I", false)
  | 5 => ("StandingUp$Texts", "rule", "I", false)
  | 6 => ("StandingUp$Texts", "stack", "[I", true)
  | 7 => ("StandingUp$Texts", "length", "I", false)
  | 8 => ("StandingUp$Texts", "place", "I", false)
  | 9 => ("StandingUp$Texts", "first", "I", false)
  | 10 => ("StandingUp$Texts", "token", "I", false)
  | 11 => ("StandingUp$Texts", "number", "I", false)
  | _ => ("StandingUp$Texts", "fault", "I", false)
def tyX10 : Nat → FieldType := fun k => match k with
  | 0 => .array .byte
  | 1 => .int
  | 2 => .array .int
  | 3 => .array .int
  | 4 => .int
  | 5 => .int
  | 6 => .array .int
  | 7 => .int
  | 8 => .int
  | 9 => .int
  | 10 => .int
  | 11 => .int
  | _ => .int
theorem nmX10 : ∀ a, a < 13 → ∀ b, b < 13 → a ≠ b → (TX10 a).2.1 ≠ (TX10 b).2.1 := by decide +kernel
theorem tyX10_ok : ∀ k, k < 13 → parseFieldDescriptor (TX10 k).2.2.1 = some (tyX10 k) := by decide +kernel
abbrev cX10_init : ByteArray := prog_12_method_1_code
def yX10_init : MethodName := ⟨RX10, "<init>", "()V"⟩
abbrev cX10_addBytes : ByteArray := prog_12_method_2_code
def yX10_addBytes : MethodName := ⟨RX10, "addBytes", "(IJ)I"⟩
abbrev cX10_addSigns : ByteArray := prog_12_method_3_code
def yX10_addSigns : MethodName := ⟨RX10, "addSigns", "(Ljava/lang/String;)V"⟩
abbrev cX10_readTape : ByteArray := prog_12_method_4_code
def yX10_readTape : MethodName := ⟨RX10, "readTape", "()I"⟩
abbrev cX10_read : ByteArray := prog_12_method_5_code
def yX10_read : MethodName := ⟨RX10, "read", "(II)V"⟩
abbrev cX10_readOpening : ByteArray := prog_12_method_6_code
def yX10_readOpening : MethodName := ⟨RX10, "readOpening", "(I)V"⟩
abbrev cX10_readOne : ByteArray := prog_12_method_7_code
def yX10_readOne : MethodName := ⟨RX10, "readOne", "()V"⟩
abbrev cX10_readJoined : ByteArray := prog_12_method_8_code
def yX10_readJoined : MethodName := ⟨RX10, "readJoined", "(II)V"⟩
abbrev cX10_joins : ByteArray := prog_12_method_9_code
def yX10_joins : MethodName := ⟨RX10, "joins", "(I)Z"⟩
abbrev cX10_pass : ByteArray := prog_12_method_10_code
def yX10_pass : MethodName := ⟨RX10, "pass", "(I)V"⟩
abbrev cX10_refuse : ByteArray := prog_12_method_11_code
def yX10_refuse : MethodName := ⟨RX10, "refuse", "()V"⟩
abbrev cX10_write : ByteArray := prog_12_method_12_code
def yX10_write : MethodName := ⟨RX10, "write", "(I)V"⟩
abbrev cX10_nextToken : ByteArray := prog_12_method_13_code
def yX10_nextToken : MethodName := ⟨RX10, "nextToken", "()V"⟩
abbrev cX10_isLetter : ByteArray := prog_12_method_14_code
def yX10_isLetter : MethodName := ⟨RX10, "isLetter", "(I)Z"⟩
abbrev cX10_isDigit : ByteArray := prog_12_method_15_code
def yX10_isDigit : MethodName := ⟨RX10, "isDigit", "(I)Z"⟩
abbrev cX10_takeNumber : ByteArray := prog_12_method_16_code
def yX10_takeNumber : MethodName := ⟨RX10, "takeNumber", "()V"⟩
abbrev cX10_takeWord : ByteArray := prog_12_method_17_code
def yX10_takeWord : MethodName := ⟨RX10, "takeWord", "()V"⟩
abbrev cX10_isWord : ByteArray := prog_12_method_18_code
def yX10_isWord : MethodName := ⟨RX10, "isWord", "(I)Z"⟩
abbrev cX10_value : ByteArray := prog_12_method_19_code
def yX10_value : MethodName := ⟨RX10, "value", "(I[I)I"⟩
abbrev cX10_doStep : ByteArray := prog_12_method_20_code
def yX10_doStep : MethodName := ⟨RX10, "doStep", "(II[I)I"⟩
abbrev cX10_joined : ByteArray := prog_12_method_21_code
def yX10_joined : MethodName := ⟨RX10, "joined", "(III)I"⟩
def RX11 : String := "StandingUp"
def TX11 : u_T := fun k => match k with
  | 0 => ("StandingUp", "tide", "I", false)
  | 1 => ("StandingUp", "wash", "I", false)
  | 2 => ("StandingUp", "crossings", "[LStandingUp$Crossing;", true)
  | 3 => ("StandingUp", "crossingCount", "I", false)
  | 4 => ("StandingUp", "crew", "[LStandingUp$Rower;", true)
  | 5 => ("StandingUp", "crewCount", "I", false)
  | 6 => ("StandingUp", "texts", "LStandingUp$Texts;", true)
  | 7 => ("StandingUp", "names", "[I", true)
  | 8 => ("StandingUp", "boat", "LStandingUp$Boat;", true)
  | 9 => ("StandingUp", "landingsOfAll", "LStandingUp$Landings;", true)
  | 10 => ("StandingUp", "sheets", "[LStandingUp$Sheet;", true)
  | 11 => ("StandingUp", "turnsAhead", "[I", true)
  | 12 => ("StandingUp", "imageKept", "Z", false)
  | 13 => ("StandingUp", "keptTide", "I", false)
  | 14 => ("StandingUp", "keptWash", "I", false)
  | 15 => ("StandingUp", "keptRule", "I", false)
  | 16 => ("StandingUp", "keptCrossings", "I", false)
  | _ => ("StandingUp", "keptCrew", "I", false)
def tyX11 : Nat → FieldType := fun k => match k with
  | 0 => .int
  | 1 => .int
  | 2 => .array (.object "StandingUp$Crossing")
  | 3 => .int
  | 4 => .array (.object "StandingUp$Rower")
  | 5 => .int
  | 6 => .object "StandingUp$Texts"
  | 7 => .array .int
  | 8 => .object "StandingUp$Boat"
  | 9 => .object "StandingUp$Landings"
  | 10 => .array (.object "StandingUp$Sheet")
  | 11 => .array .int
  | 12 => .boolean
  | 13 => .int
  | 14 => .int
  | 15 => .int
  | 16 => .int
  | _ => .int
theorem nmX11 : ∀ a, a < 18 → ∀ b, b < 18 → a ≠ b → (TX11 a).2.1 ≠ (TX11 b).2.1 := by decide +kernel
theorem tyX11_ok : ∀ k, k < 18 → parseFieldDescriptor (TX11 k).2.2.1 = some (tyX11 k) := by decide +kernel
abbrev cX11_init : ByteArray := prog_1_method_1_code
def yX11_init : MethodName := ⟨RX11, "<init>", "()V"⟩
abbrev cX11_crossing : ByteArray := prog_1_method_2_code
def yX11_crossing : MethodName := ⟨RX11, "crossing", "(II)I"⟩
abbrev cX11_set : ByteArray := prog_1_method_3_code
def yX11_set : MethodName := ⟨RX11, "set", "(II)I"⟩
abbrev cX11_setWater : ByteArray := prog_1_method_4_code
def yX11_setWater : MethodName := ⟨RX11, "setWater", "(II)I"⟩
abbrev cX11_rower : ByteArray := prog_1_method_5_code
def yX11_rower : MethodName := ⟨RX11, "rower", "(III)I"⟩
abbrev cX11_newRower : ByteArray := prog_1_method_6_code
def yX11_newRower : MethodName := ⟨RX11, "newRower", "(III)LStandingUp$Rower;"⟩
abbrev cX11_ill : ByteArray := prog_1_method_7_code
def yX11_ill : MethodName := ⟨RX11, "ill", "(II)I"⟩
abbrev cX11_told : ByteArray := prog_1_method_8_code
def yX11_told : MethodName := ⟨RX11, "told", "(III)I"⟩
abbrev cX11_feed : ByteArray := prog_1_method_9_code
def yX11_feed : MethodName := ⟨RX11, "feed", "(IJ)I"⟩
abbrev cX11_text : ByteArray := prog_1_method_10_code
def yX11_text : MethodName := ⟨RX11, "text", "()I"⟩
abbrev cX11_force : ByteArray := prog_1_method_11_code
def yX11_force : MethodName := ⟨RX11, "force", "(I)I"⟩
abbrev cX11_load : ByteArray := prog_1_method_12_code
def yX11_load : MethodName := ⟨RX11, "load", "(III)I"⟩
abbrev cX11_takes : ByteArray := prog_1_method_13_code
def yX11_takes : MethodName := ⟨RX11, "takes", "(II)I"⟩
abbrev cX11_byRule : ByteArray := prog_1_method_14_code
def yX11_byRule : MethodName := ⟨RX11, "byRule", "(IIIII)I"⟩
abbrev cX11_priceOf : ByteArray := prog_1_method_15_code
def yX11_priceOf : MethodName := ⟨RX11, "priceOf", "(II)I"⟩
abbrev cX11_waits : ByteArray := prog_1_method_16_code
def yX11_waits : MethodName := ⟨RX11, "waits", "(IIII)I"⟩
abbrev cX11_turn : ByteArray := prog_1_method_17_code
def yX11_turn : MethodName := ⟨RX11, "turn", "(II)I"⟩
abbrev cX11_rowed : ByteArray := prog_1_method_18_code
def yX11_rowed : MethodName := ⟨RX11, "rowed", "(II)I"⟩
abbrev cX11_judge : ByteArray := prog_1_method_19_code
def yX11_judge : MethodName := ⟨RX11, "judge", "(II)I"⟩
abbrev cX11_firstOther : ByteArray := prog_1_method_20_code
def yX11_firstOther : MethodName := ⟨RX11, "firstOther", "(ILStandingUp$Sheet;)I"⟩
abbrev cX11_dueTwo : ByteArray := prog_1_method_21_code
def yX11_dueTwo : MethodName := ⟨RX11, "dueTwo", "(II)I"⟩
abbrev cX11_oneMore : ByteArray := prog_1_method_22_code
def yX11_oneMore : MethodName := ⟨RX11, "oneMore", "(I)V"⟩
abbrev cX11_heir : ByteArray := prog_1_method_23_code
def yX11_heir : MethodName := ⟨RX11, "heir", "(II)I"⟩
abbrev cX11_eldestSon : ByteArray := prog_1_method_24_code
def yX11_eldestSon : MethodName := ⟨RX11, "eldestSon", "(I)I"⟩
abbrev cX11_firstOfBlood : ByteArray := prog_1_method_25_code
def yX11_firstOfBlood : MethodName := ⟨RX11, "firstOfBlood", "(I)I"⟩
abbrev cX11_mostTurns : ByteArray := prog_1_method_26_code
def yX11_mostTurns : MethodName := ⟨RX11, "mostTurns", "(II)I"⟩
abbrev cX11_open : ByteArray := prog_1_method_27_code
def yX11_open : MethodName := ⟨RX11, "open", "(II)I"⟩
abbrev cX11_path : ByteArray := prog_1_method_28_code
def yX11_path : MethodName := ⟨RX11, "path", "(II)I"⟩
abbrev cX11_foot : ByteArray := prog_1_method_29_code
def yX11_foot : MethodName := ⟨RX11, "foot", "(I)I"⟩
abbrev cX11_lost : ByteArray := prog_1_method_30_code
def yX11_lost : MethodName := ⟨RX11, "lost", "(I)I"⟩
abbrev cX11_fog : ByteArray := prog_1_method_31_code
def yX11_fog : MethodName := ⟨RX11, "fog", "(IIII)I"⟩
abbrev cX11_isABoat : ByteArray := prog_1_method_32_code
def yX11_isABoat : MethodName := ⟨RX11, "isABoat", "(I)Z"⟩
abbrev cX11_turnedAbout : ByteArray := prog_1_method_33_code
def yX11_turnedAbout : MethodName := ⟨RX11, "turnedAbout", "(II)I"⟩
abbrev cX11_box : ByteArray := prog_1_method_34_code
def yX11_box : MethodName := ⟨RX11, "box", "(IIII)I"⟩
abbrev cX11_shares : ByteArray := prog_1_method_35_code
def yX11_shares : MethodName := ⟨RX11, "shares", "(III)I"⟩
abbrev cX11_shareOf : ByteArray := prog_1_method_36_code
def yX11_shareOf : MethodName := ⟨RX11, "shareOf", "(LStandingUp$Rower;II)I"⟩
abbrev cX11_bridge : ByteArray := prog_1_method_37_code
def yX11_bridge : MethodName := ⟨RX11, "bridge", "(II)I"⟩
abbrev cX11_image : ByteArray := prog_1_method_38_code
def yX11_image : MethodName := ⟨RX11, "image", "()I"⟩
abbrev cX11_back : ByteArray := prog_1_method_39_code
def yX11_back : MethodName := ⟨RX11, "back", "()I"⟩
abbrev cX11_count : ByteArray := prog_1_method_40_code
def yX11_count : MethodName := ⟨RX11, "count", "(I)I"⟩
abbrev cX11_openOnes : ByteArray := prog_1_method_41_code
def yX11_openOnes : MethodName := ⟨RX11, "openOnes", "()I"⟩
abbrev cX11_illOnes : ByteArray := prog_1_method_42_code
def yX11_illOnes : MethodName := ⟨RX11, "illOnes", "()I"⟩
abbrev cX11_turnsInAll : ByteArray := prog_1_method_43_code
def yX11_turnsInAll : MethodName := ⟨RX11, "turnsInAll", "()I"⟩
abbrev cX11_sheet : ByteArray := prog_1_method_44_code
def yX11_sheet : MethodName := ⟨RX11, "sheet", "(III)I"⟩
abbrev cX11_cell : ByteArray := prog_1_method_45_code
def yX11_cell : MethodName := ⟨RX11, "cell", "(III)I"⟩
abbrev cX11_copy : ByteArray := prog_1_method_46_code
def yX11_copy : MethodName := ⟨RX11, "copy", "(IIIII)I"⟩
abbrev cX11_rowers : ByteArray := prog_1_method_47_code
def yX11_rowers : MethodName := ⟨RX11, "rowers", "(IIII)I"⟩
abbrev cX11_taken : ByteArray := prog_1_method_48_code
def yX11_taken : MethodName := ⟨RX11, "taken", "(II)I"⟩
abbrev cX11_isUnder : ByteArray := prog_1_method_49_code
def yX11_isUnder : MethodName := ⟨RX11, "isUnder", "(LStandingUp$Rower;I)Z"⟩
abbrev cX11_within : ByteArray := prog_1_method_50_code
def yX11_within : MethodName := ⟨RX11, "within", "(III)Z"⟩
abbrev cX11_isHour : ByteArray := prog_1_method_51_code
def yX11_isHour : MethodName := ⟨RX11, "isHour", "(I)Z"⟩
abbrev cX11_crossingAt : ByteArray := prog_1_method_52_code
def yX11_crossingAt : MethodName := ⟨RX11, "crossingAt", "(J)LStandingUp$Crossing;"⟩
abbrev cX11_rowerAt : ByteArray := prog_1_method_53_code
def yX11_rowerAt : MethodName := ⟨RX11, "rowerAt", "(I)LStandingUp$Rower;"⟩
abbrev cX11_oneOf : ByteArray := prog_1_method_54_code
def yX11_oneOf : MethodName := ⟨RX11, "oneOf", "(I)LStandingUp$Rower;"⟩
abbrev cX11_otherOf : ByteArray := prog_1_method_55_code
def yX11_otherOf : MethodName := ⟨RX11, "otherOf", "(I)LStandingUp$Rower;"⟩
abbrev cX11_sheetAt : ByteArray := prog_1_method_56_code
def yX11_sheetAt : MethodName := ⟨RX11, "sheetAt", "(I)LStandingUp$Sheet;"⟩
def RX12 : String := "StandingUpModel"
def TX12 : u_T := fun k => match k with
  | 0 => ("StandingUpModel", "thrown", "I", false)
  | 1 => ("StandingUpModel", "texts", "[I", true)
  | 2 => ("StandingUpModel", "textSize", "[I", true)
  | 3 => ("StandingUpModel", "textCount", "I", false)
  | 4 => ("StandingUpModel", "rule", "I", false)
  | 5 => ("StandingUpModel", "tape", "[I", true)
  | 6 => ("StandingUpModel", "taped", "I", false)
  | 7 => ("StandingUpModel", "strokes", "[I", true)
  | 8 => ("StandingUpModel", "landings", "[I", true)
  | 9 => ("StandingUpModel", "isOpen", "[I", true)
  | 10 => ("StandingUpModel", "heads", "[I", true)
  | 11 => ("StandingUpModel", "crossings", "I", false)
  | 12 => ("StandingUpModel", "tide", "I", false)
  | 13 => ("StandingUpModel", "wash", "I", false)
  | 14 => ("StandingUpModel", "kind", "[I", true)
  | 15 => ("StandingUpModel", "age", "[I", true)
  | 16 => ("StandingUpModel", "number", "[I", true)
  | 17 => ("StandingUpModel", "crossingOf", "[I", true)
  | 18 => ("StandingUpModel", "father", "[I", true)
  | 19 => ("StandingUpModel", "isIll", "[I", true)
  | 20 => ("StandingUpModel", "turnsOf", "[I", true)
  | 21 => ("StandingUpModel", "rowerMany", "I", false)
  | 22 => ("StandingUpModel", "from", "I", false)
  | 23 => ("StandingUpModel", "size", "I", false)
  | 24 => ("StandingUpModel", "token", "I", false)
  | 25 => ("StandingUpModel", "tokenAt", "I", false)
  | 26 => ("StandingUpModel", "tokenWorth", "J", false)
  | 27 => ("StandingUpModel", "here", "I", false)
  | 28 => ("StandingUpModel", "open", "I", false)
  | 29 => ("StandingUpModel", "bad", "Z", false)
  | 30 => ("StandingUpModel", "fault", "I", false)
  | 31 => ("StandingUpModel", "aboutHeads", "I", false)
  | 32 => ("StandingUpModel", "aboutAge", "I", false)
  | 33 => ("StandingUpModel", "aboutHour", "I", false)
  | 34 => ("StandingUpModel", "aboutTurns", "I", false)
  | 35 => ("StandingUpModel", "sums", "[I", true)
  | 36 => ("StandingUpModel", "sumsNext", "[I", true)
  | 37 => ("StandingUpModel", "puts", "[I", true)
  | 38 => ("StandingUpModel", "putsNext", "[I", true)
  | 39 => ("StandingUpModel", "aside", "[I", true)
  | 40 => ("StandingUpModel", "paths", "[I", true)
  | 41 => ("StandingUpModel", "feet", "[I", true)
  | 42 => ("StandingUpModel", "feetNow", "[I", true)
  | 43 => ("StandingUpModel", "imageOpen", "[I", true)
  | 44 => ("StandingUpModel", "imageHeads", "[I", true)
  | 45 => ("StandingUpModel", "imageIll", "[I", true)
  | 46 => ("StandingUpModel", "imageTurns", "[I", true)
  | 47 => ("StandingUpModel", "imagePaths", "[I", true)
  | 48 => ("StandingUpModel", "hasImage", "Z", false)
  | 49 => ("StandingUpModel", "imageCrossings", "I", false)
  | 50 => ("StandingUpModel", "imageRowers", "I", false)
  | 51 => ("StandingUpModel", "imageTide", "I", false)
  | 52 => ("StandingUpModel", "imageWash", "I", false)
  | 53 => ("StandingUpModel", "imageRule", "I", false)
  | 54 => ("StandingUpModel", "isThere", "[Z", true)
  | 55 => ("StandingUpModel", "sorts", "[I", true)
  | 56 => ("StandingUpModel", "sheetSize", "[I", true)
  | _ => ("StandingUpModel", "items", "[I", true)
def tyX12 : Nat → FieldType := fun k => match k with
  | 0 => .int
  | 1 => .array .int
  | 2 => .array .int
  | 3 => .int
  | 4 => .int
  | 5 => .array .int
  | 6 => .int
  | 7 => .array .int
  | 8 => .array .int
  | 9 => .array .int
  | 10 => .array .int
  | 11 => .int
  | 12 => .int
  | 13 => .int
  | 14 => .array .int
  | 15 => .array .int
  | 16 => .array .int
  | 17 => .array .int
  | 18 => .array .int
  | 19 => .array .int
  | 20 => .array .int
  | 21 => .int
  | 22 => .int
  | 23 => .int
  | 24 => .int
  | 25 => .int
  | 26 => .long
  | 27 => .int
  | 28 => .int
  | 29 => .boolean
  | 30 => .int
  | 31 => .int
  | 32 => .int
  | 33 => .int
  | 34 => .int
  | 35 => .array .int
  | 36 => .array .int
  | 37 => .array .int
  | 38 => .array .int
  | 39 => .array .int
  | 40 => .array .int
  | 41 => .array .int
  | 42 => .array .int
  | 43 => .array .int
  | 44 => .array .int
  | 45 => .array .int
  | 46 => .array .int
  | 47 => .array .int
  | 48 => .boolean
  | 49 => .int
  | 50 => .int
  | 51 => .int
  | 52 => .int
  | 53 => .int
  | 54 => .array .boolean
  | 55 => .array .int
  | 56 => .array .int
  | _ => .array .int
theorem nmX12 : ∀ a, a < 58 → ∀ b, b < 58 → a ≠ b → (TX12 a).2.1 ≠ (TX12 b).2.1 := by decide +kernel
theorem tyX12_ok : ∀ k, k < 58 → parseFieldDescriptor (TX12 k).2.2.1 = some (tyX12 k) := by decide +kernel
abbrev cX12_in : ByteArray := prog_14_method_2_code
def yX12_in : MethodName := ⟨RX12, "in", "(JJJ)Z"⟩
abbrev cX12_init : ByteArray := prog_14_method_3_code
def yX12_init : MethodName := ⟨RX12, "<init>", "()V"⟩
abbrev cX12_spell : ByteArray := prog_14_method_4_code
def yX12_spell : MethodName := ⟨RX12, "spell", "(IJ)V"⟩
abbrev cX12_isCrossing : ByteArray := prog_14_method_5_code
def yX12_isCrossing : MethodName := ⟨RX12, "isCrossing", "(I)Z"⟩
abbrev cX12_isRower : ByteArray := prog_14_method_6_code
def yX12_isRower : MethodName := ⟨RX12, "isRower", "(I)Z"⟩
abbrev cX12_isHour : ByteArray := prog_14_method_7_code
def yX12_isHour : MethodName := ⟨RX12, "isHour", "(I)Z"⟩
abbrev cX12_areLandings : ByteArray := prog_14_method_8_code
def yX12_areLandings : MethodName := ⟨RX12, "areLandings", "(I)Z"⟩
abbrev cX12_crossing : ByteArray := prog_14_method_9_code
def yX12_crossing : MethodName := ⟨RX12, "crossing", "(II)I"⟩
abbrev cX12_set : ByteArray := prog_14_method_10_code
def yX12_set : MethodName := ⟨RX12, "set", "(II)I"⟩
abbrev cX12_rower : ByteArray := prog_14_method_11_code
def yX12_rower : MethodName := ⟨RX12, "rower", "(III)I"⟩
abbrev cX12_ill : ByteArray := prog_14_method_12_code
def yX12_ill : MethodName := ⟨RX12, "ill", "(II)I"⟩
abbrev cX12_paceOf : ByteArray := prog_14_method_13_code
def yX12_paceOf : MethodName := ⟨RX12, "paceOf", "(I)I"⟩
abbrev cX12_may : ByteArray := prog_14_method_14_code
def yX12_may : MethodName := ⟨RX12, "may", "(II)Z"⟩
abbrev cX12_partsOf : ByteArray := prog_14_method_15_code
def yX12_partsOf : MethodName := ⟨RX12, "partsOf", "(I)I"⟩
abbrev cX12_told : ByteArray := prog_14_method_16_code
def yX12_told : MethodName := ⟨RX12, "told", "(III)I"⟩
abbrev cX12_feed : ByteArray := prog_14_method_17_code
def yX12_feed : MethodName := ⟨RX12, "feed", "(IJ)I"⟩
abbrev cX12_byteAt : ByteArray := prog_14_method_18_code
def yX12_byteAt : MethodName := ⟨RX12, "byteAt", "(I)I"⟩
abbrev cX12_next : ByteArray := prog_14_method_19_code
def yX12_next : MethodName := ⟨RX12, "next", "()V"⟩
abbrev cX12_fail : ByteArray := prog_14_method_20_code
def yX12_fail : MethodName := ⟨RX12, "fail", "()V"⟩
abbrev cX12_isWord : ByteArray := prog_14_method_21_code
def yX12_isWord : MethodName := ⟨RX12, "isWord", "(J)Z"⟩
abbrev cX12_isSign : ByteArray := prog_14_method_22_code
def yX12_isSign : MethodName := ⟨RX12, "isSign", "(I)Z"⟩
abbrev cX12_opens : ByteArray := prog_14_method_23_code
def yX12_opens : MethodName := ⟨RX12, "opens", "()Z"⟩
abbrev cX12_name : ByteArray := prog_14_method_24_code
def yX12_name : MethodName := ⟨RX12, "name", "()I"⟩
abbrev cX12_one : ByteArray := prog_14_method_25_code
def yX12_one : MethodName := ⟨RX12, "one", "()I"⟩
abbrev cX12_term : ByteArray := prog_14_method_26_code
def yX12_term : MethodName := ⟨RX12, "term", "()I"⟩
abbrev cX12_added : ByteArray := prog_14_method_27_code
def yX12_added : MethodName := ⟨RX12, "added", "()I"⟩
abbrev cX12_not : ByteArray := prog_14_method_28_code
def yX12_not : MethodName := ⟨RX12, "not", "()I"⟩
abbrev cX12_both : ByteArray := prog_14_method_29_code
def yX12_both : MethodName := ⟨RX12, "both", "()I"⟩
abbrev cX12_either : ByteArray := prog_14_method_30_code
def yX12_either : MethodName := ⟨RX12, "either", "()I"⟩
abbrev cX12_part : ByteArray := prog_14_method_31_code
def yX12_part : MethodName := ⟨RX12, "part", "(J)I"⟩
abbrev cX12_read : ByteArray := prog_14_method_32_code
def yX12_read : MethodName := ⟨RX12, "read", "(IIIIII)I"⟩
abbrev cX12_within : ByteArray := prog_14_method_33_code
def yX12_within : MethodName := ⟨RX12, "within", "(III)I"⟩
abbrev cX12_dueOf : ByteArray := prog_14_method_34_code
def yX12_dueOf : MethodName := ⟨RX12, "dueOf", "(II)I"⟩
abbrev cX12_text : ByteArray := prog_14_method_35_code
def yX12_text : MethodName := ⟨RX12, "text", "()I"⟩
abbrev cX12_force : ByteArray := prog_14_method_36_code
def yX12_force : MethodName := ⟨RX12, "force", "(I)I"⟩
abbrev cX12_areTwo : ByteArray := prog_14_method_37_code
def yX12_areTwo : MethodName := ⟨RX12, "areTwo", "(I)Z"⟩
abbrev cX12_load : ByteArray := prog_14_method_38_code
def yX12_load : MethodName := ⟨RX12, "load", "(III)I"⟩
abbrev cX12_takes : ByteArray := prog_14_method_39_code
def yX12_takes : MethodName := ⟨RX12, "takes", "(II)I"⟩
abbrev cX12_tail : ByteArray := prog_14_method_40_code
def yX12_tail : MethodName := ⟨RX12, "tail", "(IIII)I"⟩
abbrev cX12_waits : ByteArray := prog_14_method_41_code
def yX12_waits : MethodName := ⟨RX12, "waits", "(IIII)I"⟩
abbrev cX12_minute : ByteArray := prog_14_method_42_code
def yX12_minute : MethodName := ⟨RX12, "minute", "(IIIIIIZ)V"⟩
abbrev cX12_foremost : ByteArray := prog_14_method_43_code
def yX12_foremost : MethodName := ⟨RX12, "foremost", "(III)I"⟩
abbrev cX12_turnOf : ByteArray := prog_14_method_44_code
def yX12_turnOf : MethodName := ⟨RX12, "turnOf", "(II)I"⟩
abbrev cX12_turn : ByteArray := prog_14_method_45_code
def yX12_turn : MethodName := ⟨RX12, "turn", "(II)I"⟩
abbrev cX12_rowed : ByteArray := prog_14_method_46_code
def yX12_rowed : MethodName := ⟨RX12, "rowed", "(II)I"⟩
abbrev cX12_judge : ByteArray := prog_14_method_47_code
def yX12_judge : MethodName := ⟨RX12, "judge", "(II)I"⟩
abbrev cX12_isAhead : ByteArray := prog_14_method_48_code
def yX12_isAhead : MethodName := ⟨RX12, "isAhead", "(II)Z"⟩
abbrev cX12_heir : ByteArray := prog_14_method_49_code
def yX12_heir : MethodName := ⟨RX12, "heir", "(II)I"⟩
abbrev cX12_open : ByteArray := prog_14_method_50_code
def yX12_open : MethodName := ⟨RX12, "open", "(II)I"⟩
abbrev cX12_path : ByteArray := prog_14_method_51_code
def yX12_path : MethodName := ⟨RX12, "path", "(II)I"⟩
abbrev cX12_walks : ByteArray := prog_14_method_52_code
def yX12_walks : MethodName := ⟨RX12, "walks", "()V"⟩
abbrev cX12_foot : ByteArray := prog_14_method_53_code
def yX12_foot : MethodName := ⟨RX12, "foot", "(I)I"⟩
abbrev cX12_lost : ByteArray := prog_14_method_54_code
def yX12_lost : MethodName := ⟨RX12, "lost", "(I)I"⟩
abbrev cX12_isBoat : ByteArray := prog_14_method_55_code
def yX12_isBoat : MethodName := ⟨RX12, "isBoat", "(I)Z"⟩
abbrev cX12_onward : ByteArray := prog_14_method_56_code
def yX12_onward : MethodName := ⟨RX12, "onward", "(II)I"⟩
abbrev cX12_fog : ByteArray := prog_14_method_57_code
def yX12_fog : MethodName := ⟨RX12, "fog", "(IIII)I"⟩
abbrev cX12_plain : ByteArray := prog_14_method_58_code
def yX12_plain : MethodName := ⟨RX12, "plain", "(I)I"⟩
abbrev cX12_priceOf : ByteArray := prog_14_method_59_code
def yX12_priceOf : MethodName := ⟨RX12, "priceOf", "(II)I"⟩
abbrev cX12_box : ByteArray := prog_14_method_60_code
def yX12_box : MethodName := ⟨RX12, "box", "(IIII)I"⟩
abbrev cX12_shares : ByteArray := prog_14_method_61_code
def yX12_shares : MethodName := ⟨RX12, "shares", "(III)I"⟩
abbrev cX12_bridge : ByteArray := prog_14_method_62_code
def yX12_bridge : MethodName := ⟨RX12, "bridge", "(II)I"⟩
abbrev cX12_image : ByteArray := prog_14_method_63_code
def yX12_image : MethodName := ⟨RX12, "image", "()I"⟩
abbrev cX12_back : ByteArray := prog_14_method_64_code
def yX12_back : MethodName := ⟨RX12, "back", "()I"⟩
abbrev cX12_count : ByteArray := prog_14_method_65_code
def yX12_count : MethodName := ⟨RX12, "count", "(I)I"⟩
abbrev cX12_isSheet : ByteArray := prog_14_method_66_code
def yX12_isSheet : MethodName := ⟨RX12, "isSheet", "(I)Z"⟩
abbrev cX12_sheet : ByteArray := prog_14_method_67_code
def yX12_sheet : MethodName := ⟨RX12, "sheet", "(III)I"⟩
abbrev cX12_cell : ByteArray := prog_14_method_68_code
def yX12_cell : MethodName := ⟨RX12, "cell", "(III)I"⟩
abbrev cX12_copy : ByteArray := prog_14_method_69_code
def yX12_copy : MethodName := ⟨RX12, "copy", "(IIIII)I"⟩
abbrev cX12_rowers : ByteArray := prog_14_method_70_code
def yX12_rowers : MethodName := ⟨RX12, "rowers", "(IIII)I"⟩
abbrev cX12_over : ByteArray := prog_14_method_71_code
def yX12_over : MethodName := ⟨RX12, "over", "(I)I"⟩
abbrev cX12_taken : ByteArray := prog_14_method_72_code
def yX12_taken : MethodName := ⟨RX12, "taken", "(II)I"⟩
def RJx145de : String := "java/io/Serializable"
def RJx9f9b0 : String := "java/lang/CharSequence"
def RJ11 : String := "java/lang/Character"
abbrev cJ11_isValidCodePoint_9a6ad : ByteArray := prog_15_method_11_code
def yJ11_isValidCodePoint_9a6ad : MethodName := ⟨RJ11, "isValidCodePoint", "(I)Z"⟩
abbrev cJ11_highSurrogate_5068e : ByteArray := prog_15_method_28_code
def yJ11_highSurrogate_5068e : MethodName := ⟨RJ11, "highSurrogate", "(I)C"⟩
abbrev cJ11_lowSurrogate_5068e : ByteArray := prog_15_method_29_code
def yJ11_lowSurrogate_5068e : MethodName := ⟨RJ11, "lowSurrogate", "(I)C"⟩
def RJxb160c : String := "java/lang/Comparable"
def RJ9 : String := "java/lang/Math"
abbrev cJ9_abs_0f7a4 : ByteArray := prog_16_method_59_code
def yJ9_abs_0f7a4 : MethodName := ⟨RJ9, "abs", "(I)I"⟩
abbrev cJ9_max_7cf53 : ByteArray := prog_16_method_65_code
def yJ9_max_7cf53 : MethodName := ⟨RJ9, "max", "(II)I"⟩
abbrev cJ9_min_7cf53 : ByteArray := prog_16_method_69_code
def yJ9_min_7cf53 : MethodName := ⟨RJ9, "min", "(II)I"⟩
abbrev cJ9_min_f86c9 : ByteArray := prog_16_method_70_code
def yJ9_min_f86c9 : MethodName := ⟨RJ9, "min", "(JJ)J"⟩
def RJ0 : String := "java/lang/String"
abbrev cJ0_length_8abf5 : ByteArray := prog_17_method_54_code
def yJ0_length_8abf5 : MethodName := ⟨RJ0, "length", "()I"⟩
abbrev cJ0_charAt_5068e : ByteArray := prog_17_method_56_code
def yJ0_charAt_5068e : MethodName := ⟨RJ0, "charAt", "(I)C"⟩
abbrev cJ0_indexOf_0f7a4 : ByteArray := prog_17_method_79_code
def yJ0_indexOf_0f7a4 : MethodName := ⟨RJ0, "indexOf", "(I)I"⟩
abbrev cJ0_indexOf_7cf53 : ByteArray := prog_17_method_80_code
def yJ0_indexOf_7cf53 : MethodName := ⟨RJ0, "indexOf", "(II)I"⟩
abbrev cJ0_coder_7d493 : ByteArray := prog_17_method_152_code
def yJ0_coder_7d493 : MethodName := ⟨RJ0, "coder", "()B"⟩
abbrev cJ0_isLatin1_aae02 : ByteArray := prog_17_method_154_code
def yJ0_isLatin1_aae02 : MethodName := ⟨RJ0, "isLatin1", "()Z"⟩
abbrev cJ0_checkIndex_df160 : ByteArray := prog_17_method_155_code
def yJ0_checkIndex_df160 : MethodName := ⟨RJ0, "checkIndex", "(II)V"⟩
abbrev cJ0_checkBoundsBeginEnd_23922 : ByteArray := prog_17_method_158_code
def yJ0_checkBoundsBeginEnd_23922 : MethodName := ⟨RJ0, "checkBoundsBeginEnd", "(III)V"⟩
def RJ1 : String := "java/lang/StringLatin1"
abbrev cJ1_charAt_3b067 : ByteArray := prog_18_method_2_code
def yJ1_charAt_3b067 : MethodName := ⟨RJ1, "charAt", "([BI)C"⟩
abbrev cJ1_canEncode_9a6ad : ByteArray := prog_18_method_4_code
def yJ1_canEncode_9a6ad : MethodName := ⟨RJ1, "canEncode", "(I)Z"⟩
abbrev cJ1_indexOf_4cfef : ByteArray := prog_18_method_22_code
def yJ1_indexOf_4cfef : MethodName := ⟨RJ1, "indexOf", "([BIII)I"⟩
abbrev cJ1_indexOfChar_4cfef : ByteArray := prog_18_method_23_code
def yJ1_indexOfChar_4cfef : MethodName := ⟨RJ1, "indexOfChar", "([BIII)I"⟩
def RJ2 : String := "java/lang/StringUTF16"
abbrev cJ2_getChar_3b067 : ByteArray := prog_19_method_5_code
def yJ2_getChar_3b067 : MethodName := ⟨RJ2, "getChar", "([BI)C"⟩
abbrev cJ2_length_9d52b : ByteArray := prog_19_method_6_code
def yJ2_length_9d52b : MethodName := ⟨RJ2, "length", "([B)I"⟩
abbrev cJ2_indexOf_4cfef : ByteArray := prog_19_method_40_code
def yJ2_indexOf_4cfef : MethodName := ⟨RJ2, "indexOf", "([BIII)I"⟩
abbrev cJ2_indexOfChar_4cfef : ByteArray := prog_19_method_47_code
def yJ2_indexOfChar_4cfef : MethodName := ⟨RJ2, "indexOfChar", "([BIII)I"⟩
abbrev cJ2_indexOfCharUnsafe_4cfef : ByteArray := prog_19_method_48_code
def yJ2_indexOfCharUnsafe_4cfef : MethodName := ⟨RJ2, "indexOfCharUnsafe", "([BIII)I"⟩
abbrev cJ2_indexOfSupplementary_4cfef : ByteArray := prog_19_method_49_code
def yJ2_indexOfSupplementary_4cfef : MethodName := ⟨RJ2, "indexOfSupplementary", "([BIII)I"⟩
abbrev cJ2_charAt_3b067 : ByteArray := prog_19_method_83_code
def yJ2_charAt_3b067 : MethodName := ⟨RJ2, "charAt", "([BI)C"⟩
abbrev cJ2_checkIndex_2214a : ByteArray := prog_19_method_91_code
def yJ2_checkIndex_2214a : MethodName := ⟨RJ2, "checkIndex", "(I[B)V"⟩
abbrev cJ2_checkBoundsBeginEnd_d044e : ByteArray := prog_19_method_93_code
def yJ2_checkBoundsBeginEnd_d044e : MethodName := ⟨RJ2, "checkBoundsBeginEnd", "(II[B)V"⟩
def RJ10 : String := "java/lang/System"
def RJxfd54e : String := "java/lang/constant/Constable"
def RJx3cf43 : String := "java/lang/constant/ConstantDesc"
def RJ7 : String := "java/util/Arrays"
abbrev cJ7_fill_53178 : ByteArray := prog_21_method_103_code
def yJ7_fill_53178 : MethodName := ⟨RJ7, "fill", "([II)V"⟩
def RJ3 : String := "jdk/internal/util/Preconditions"
abbrev cJ3_checkIndex_8e157 : ByteArray := prog_22_method_11_code
def yJ3_checkIndex_8e157 : MethodName := ⟨RJ3, "checkIndex", "(IILjava/util/function/BiFunction;)I"⟩
abbrev cJ3_checkFromToIndex_8c36e : ByteArray := prog_22_method_12_code
def yJ3_checkFromToIndex_8c36e : MethodName := ⟨RJ3, "checkFromToIndex", "(IIILjava/util/function/BiFunction;)I"⟩
def RL : String := "StandingUpLaw"
abbrev cL_law : ByteArray := code
def yL_law : MethodName := ⟨RL, "law", "([I)Z"⟩
