section
-- ===== PART A: goes FIRST, ahead of the names: the tables' words, and 'selects' of the private methods out of them =====
/-- a private method of a class that the tables say can be made, by its rows of tables_1 -/
def lw_okq (q : MethodName × Nat) : Prop := (q.1.cls ≠ "java/lang/invoke/MethodHandle" ∧ q.1.cls ≠ "java/lang/invoke/VarHandle") ∧ Cond.instantiable q.1.cls q.2 ∈ tables_1 ∧ Cond.privateMethod q.1 ∈ tables_1 ∧ Cond.instanceMethod q.1 ∈ tables_1
theorem lw_p0 : lw_okq (⟨"StandingUp$Texts", "nextToken", "()V"⟩, 13) := ⟨⟨by decide +kernel, by decide +kernel⟩, List.mem_of_getElem? (i := 35) (by decide +kernel), List.mem_of_getElem? (i := 213) (by decide +kernel), List.mem_of_getElem? (i := 214) (by decide +kernel)⟩
theorem lw_p1 : lw_okq (⟨"StandingUp$Texts", "takeWord", "()V"⟩, 13) := ⟨⟨by decide +kernel, by decide +kernel⟩, List.mem_of_getElem? (i := 35) (by decide +kernel), List.mem_of_getElem? (i := 220) (by decide +kernel), List.mem_of_getElem? (i := 221) (by decide +kernel)⟩
theorem lw_p2 : lw_okq (⟨"StandingUp$Texts", "isWord", "(I)Z"⟩, 13) := ⟨⟨by decide +kernel, by decide +kernel⟩, List.mem_of_getElem? (i := 35) (by decide +kernel), List.mem_of_getElem? (i := 224) (by decide +kernel), List.mem_of_getElem? (i := 225) (by decide +kernel)⟩
theorem lw_p3 : lw_okq (⟨"StandingUp$Texts", "takeNumber", "()V"⟩, 13) := ⟨⟨by decide +kernel, by decide +kernel⟩, List.mem_of_getElem? (i := 35) (by decide +kernel), List.mem_of_getElem? (i := 232) (by decide +kernel), List.mem_of_getElem? (i := 233) (by decide +kernel)⟩
theorem lw_p4 : lw_okq (⟨"StandingUp$Texts", "pass", "(I)V"⟩, 13) := ⟨⟨by decide +kernel, by decide +kernel⟩, List.mem_of_getElem? (i := 35) (by decide +kernel), List.mem_of_getElem? (i := 296) (by decide +kernel), List.mem_of_getElem? (i := 297) (by decide +kernel)⟩
theorem lw_p5 : lw_okq (⟨"StandingUp$Texts", "refuse", "()V"⟩, 13) := ⟨⟨by decide +kernel, by decide +kernel⟩, List.mem_of_getElem? (i := 35) (by decide +kernel), List.mem_of_getElem? (i := 300) (by decide +kernel), List.mem_of_getElem? (i := 301) (by decide +kernel)⟩
theorem lw_p6 : lw_okq (⟨"StandingUp$Texts", "read", "(II)V"⟩, 13) := ⟨⟨by decide +kernel, by decide +kernel⟩, List.mem_of_getElem? (i := 35) (by decide +kernel), List.mem_of_getElem? (i := 304) (by decide +kernel), List.mem_of_getElem? (i := 305) (by decide +kernel)⟩
theorem lw_p7 : lw_okq (⟨"StandingUp$Texts", "readOpening", "(I)V"⟩, 13) := ⟨⟨by decide +kernel, by decide +kernel⟩, List.mem_of_getElem? (i := 35) (by decide +kernel), List.mem_of_getElem? (i := 308) (by decide +kernel), List.mem_of_getElem? (i := 309) (by decide +kernel)⟩
theorem lw_p8 : lw_okq (⟨"StandingUp$Texts", "write", "(I)V"⟩, 13) := ⟨⟨by decide +kernel, by decide +kernel⟩, List.mem_of_getElem? (i := 35) (by decide +kernel), List.mem_of_getElem? (i := 312) (by decide +kernel), List.mem_of_getElem? (i := 313) (by decide +kernel)⟩
theorem lw_p9 : lw_okq (⟨"StandingUp$Texts", "readOne", "()V"⟩, 13) := ⟨⟨by decide +kernel, by decide +kernel⟩, List.mem_of_getElem? (i := 35) (by decide +kernel), List.mem_of_getElem? (i := 316) (by decide +kernel), List.mem_of_getElem? (i := 317) (by decide +kernel)⟩
theorem lw_p10 : lw_okq (⟨"StandingUp$Texts", "readJoined", "(II)V"⟩, 13) := ⟨⟨by decide +kernel, by decide +kernel⟩, List.mem_of_getElem? (i := 35) (by decide +kernel), List.mem_of_getElem? (i := 320) (by decide +kernel), List.mem_of_getElem? (i := 321) (by decide +kernel)⟩
theorem lw_p11 : lw_okq (⟨"StandingUp$Texts", "joins", "(I)Z"⟩, 13) := ⟨⟨by decide +kernel, by decide +kernel⟩, List.mem_of_getElem? (i := 35) (by decide +kernel), List.mem_of_getElem? (i := 324) (by decide +kernel), List.mem_of_getElem? (i := 325) (by decide +kernel)⟩
theorem lw_p12 : lw_okq (⟨"StandingUp", "setWater", "(II)I"⟩, 18) := ⟨⟨by decide +kernel, by decide +kernel⟩, List.mem_of_getElem? (i := 23) (by decide +kernel), List.mem_of_getElem? (i := 426) (by decide +kernel), List.mem_of_getElem? (i := 427) (by decide +kernel)⟩
theorem lw_p13 : lw_okq (⟨"StandingUp", "crossingAt", "(J)LStandingUp$Crossing;"⟩, 18) := ⟨⟨by decide +kernel, by decide +kernel⟩, List.mem_of_getElem? (i := 23) (by decide +kernel), List.mem_of_getElem? (i := 431) (by decide +kernel), List.mem_of_getElem? (i := 432) (by decide +kernel)⟩
theorem lw_p14 : lw_okq (⟨"StandingUp", "rowerAt", "(I)LStandingUp$Rower;"⟩, 18) := ⟨⟨by decide +kernel, by decide +kernel⟩, List.mem_of_getElem? (i := 23) (by decide +kernel), List.mem_of_getElem? (i := 448) (by decide +kernel), List.mem_of_getElem? (i := 449) (by decide +kernel)⟩
theorem lw_p15 : lw_okq (⟨"StandingUp", "byRule", "(IIIII)I"⟩, 18) := ⟨⟨by decide +kernel, by decide +kernel⟩, List.mem_of_getElem? (i := 23) (by decide +kernel), List.mem_of_getElem? (i := 690) (by decide +kernel), List.mem_of_getElem? (i := 691) (by decide +kernel)⟩
def lw_privs_1 : List (MethodName × Nat) := [(⟨"StandingUp$Texts", "nextToken", "()V"⟩, 13), (⟨"StandingUp$Texts", "takeWord", "()V"⟩, 13), (⟨"StandingUp$Texts", "isWord", "(I)Z"⟩, 13), (⟨"StandingUp$Texts", "takeNumber", "()V"⟩, 13), (⟨"StandingUp$Texts", "pass", "(I)V"⟩, 13), (⟨"StandingUp$Texts", "refuse", "()V"⟩, 13), (⟨"StandingUp$Texts", "read", "(II)V"⟩, 13), (⟨"StandingUp$Texts", "readOpening", "(I)V"⟩, 13), (⟨"StandingUp$Texts", "write", "(I)V"⟩, 13), (⟨"StandingUp$Texts", "readOne", "()V"⟩, 13), (⟨"StandingUp$Texts", "readJoined", "(II)V"⟩, 13), (⟨"StandingUp$Texts", "joins", "(I)Z"⟩, 13), (⟨"StandingUp", "setWater", "(II)I"⟩, 18), (⟨"StandingUp", "crossingAt", "(J)LStandingUp$Crossing;"⟩, 18), (⟨"StandingUp", "rowerAt", "(I)LStandingUp$Rower;"⟩, 18), (⟨"StandingUp", "byRule", "(IIIII)I"⟩, 18)]
theorem lw_r1 : ∀ q ∈ lw_privs_1, lw_okq q := List.forall_mem_cons.mpr ⟨lw_p0, List.forall_mem_cons.mpr ⟨lw_p1, List.forall_mem_cons.mpr ⟨lw_p2, List.forall_mem_cons.mpr ⟨lw_p3, List.forall_mem_cons.mpr ⟨lw_p4, List.forall_mem_cons.mpr ⟨lw_p5, List.forall_mem_cons.mpr ⟨lw_p6, List.forall_mem_cons.mpr ⟨lw_p7, List.forall_mem_cons.mpr ⟨lw_p8, List.forall_mem_cons.mpr ⟨lw_p9, List.forall_mem_cons.mpr ⟨lw_p10, List.forall_mem_cons.mpr ⟨lw_p11, List.forall_mem_cons.mpr ⟨lw_p12, List.forall_mem_cons.mpr ⟨lw_p13, List.forall_mem_cons.mpr ⟨lw_p14, List.forall_mem_cons.mpr ⟨lw_p15, fun _ h => absurd h List.not_mem_nil⟩⟩⟩⟩⟩⟩⟩⟩⟩⟩⟩⟩⟩⟩⟩⟩
theorem lw_p16 : lw_okq (⟨"StandingUp$Texts", "doStep", "(II[I)I"⟩, 13) := ⟨⟨by decide +kernel, by decide +kernel⟩, List.mem_of_getElem? (i := 35) (by decide +kernel), List.mem_of_getElem? (i := 698) (by decide +kernel), List.mem_of_getElem? (i := 699) (by decide +kernel)⟩
theorem lw_p17 : lw_okq (⟨"StandingUp", "oneOf", "(I)LStandingUp$Rower;"⟩, 18) := ⟨⟨by decide +kernel, by decide +kernel⟩, List.mem_of_getElem? (i := 23) (by decide +kernel), List.mem_of_getElem? (i := 722) (by decide +kernel), List.mem_of_getElem? (i := 723) (by decide +kernel)⟩
theorem lw_p18 : lw_okq (⟨"StandingUp", "otherOf", "(I)LStandingUp$Rower;"⟩, 18) := ⟨⟨by decide +kernel, by decide +kernel⟩, List.mem_of_getElem? (i := 23) (by decide +kernel), List.mem_of_getElem? (i := 726) (by decide +kernel), List.mem_of_getElem? (i := 727) (by decide +kernel)⟩
theorem lw_p19 : lw_okq (⟨"StandingUp", "sheetAt", "(I)LStandingUp$Sheet;"⟩, 18) := ⟨⟨by decide +kernel, by decide +kernel⟩, List.mem_of_getElem? (i := 23) (by decide +kernel), List.mem_of_getElem? (i := 740) (by decide +kernel), List.mem_of_getElem? (i := 741) (by decide +kernel)⟩
theorem lw_p20 : lw_okq (⟨"StandingUp$Boat", "bestFrom", "(II)J"⟩, 6) := ⟨⟨by decide +kernel, by decide +kernel⟩, List.mem_of_getElem? (i := 86) (by decide +kernel), List.mem_of_getElem? (i := 765) (by decide +kernel), List.mem_of_getElem? (i := 766) (by decide +kernel)⟩
theorem lw_p21 : lw_okq (⟨"StandingUp$Boat", "planPuttingOff", "(II)J"⟩, 6) := ⟨⟨by decide +kernel, by decide +kernel⟩, List.mem_of_getElem? (i := 86) (by decide +kernel), List.mem_of_getElem? (i := 769) (by decide +kernel), List.mem_of_getElem? (i := 770) (by decide +kernel)⟩
theorem lw_p22 : lw_okq (⟨"StandingUp$Boat", "waitsAfterLast", "(I)J"⟩, 6) := ⟨⟨by decide +kernel, by decide +kernel⟩, List.mem_of_getElem? (i := 86) (by decide +kernel), List.mem_of_getElem? (i := 773) (by decide +kernel), List.mem_of_getElem? (i := 774) (by decide +kernel)⟩
theorem lw_p23 : lw_okq (⟨"StandingUp", "dueTwo", "(II)I"⟩, 18) := ⟨⟨by decide +kernel, by decide +kernel⟩, List.mem_of_getElem? (i := 23) (by decide +kernel), List.mem_of_getElem? (i := 792) (by decide +kernel), List.mem_of_getElem? (i := 793) (by decide +kernel)⟩
theorem lw_p24 : lw_okq (⟨"StandingUp", "oneMore", "(I)V"⟩, 18) := ⟨⟨by decide +kernel, by decide +kernel⟩, List.mem_of_getElem? (i := 23) (by decide +kernel), List.mem_of_getElem? (i := 813) (by decide +kernel), List.mem_of_getElem? (i := 814) (by decide +kernel)⟩
theorem lw_p25 : lw_okq (⟨"StandingUp", "firstOther", "(ILStandingUp$Sheet;)I"⟩, 18) := ⟨⟨by decide +kernel, by decide +kernel⟩, List.mem_of_getElem? (i := 23) (by decide +kernel), List.mem_of_getElem? (i := 821) (by decide +kernel), List.mem_of_getElem? (i := 822) (by decide +kernel)⟩
theorem lw_p26 : lw_okq (⟨"StandingUp", "eldestSon", "(I)I"⟩, 18) := ⟨⟨by decide +kernel, by decide +kernel⟩, List.mem_of_getElem? (i := 23) (by decide +kernel), List.mem_of_getElem? (i := 830) (by decide +kernel), List.mem_of_getElem? (i := 831) (by decide +kernel)⟩
theorem lw_p27 : lw_okq (⟨"StandingUp", "firstOfBlood", "(I)I"⟩, 18) := ⟨⟨by decide +kernel, by decide +kernel⟩, List.mem_of_getElem? (i := 23) (by decide +kernel), List.mem_of_getElem? (i := 834) (by decide +kernel), List.mem_of_getElem? (i := 835) (by decide +kernel)⟩
theorem lw_p28 : lw_okq (⟨"StandingUp", "mostTurns", "(II)I"⟩, 18) := ⟨⟨by decide +kernel, by decide +kernel⟩, List.mem_of_getElem? (i := 23) (by decide +kernel), List.mem_of_getElem? (i := 838) (by decide +kernel), List.mem_of_getElem? (i := 839) (by decide +kernel)⟩
theorem lw_p29 : lw_okq (⟨"StandingUp$Landings", "measure", "([I[LStandingUp$Crossing;I)V"⟩, 4) := ⟨⟨by decide +kernel, by decide +kernel⟩, List.mem_of_getElem? (i := 112) (by decide +kernel), List.mem_of_getElem? (i := 869) (by decide +kernel), List.mem_of_getElem? (i := 870) (by decide +kernel)⟩
theorem lw_p30 : lw_okq (⟨"StandingUp", "priceOf", "(II)I"⟩, 18) := ⟨⟨by decide +kernel, by decide +kernel⟩, List.mem_of_getElem? (i := 23) (by decide +kernel), List.mem_of_getElem? (i := 910) (by decide +kernel), List.mem_of_getElem? (i := 911) (by decide +kernel)⟩
theorem lw_p31 : lw_okq (⟨"StandingUp", "openOnes", "()I"⟩, 18) := ⟨⟨by decide +kernel, by decide +kernel⟩, List.mem_of_getElem? (i := 23) (by decide +kernel), List.mem_of_getElem? (i := 976) (by decide +kernel), List.mem_of_getElem? (i := 977) (by decide +kernel)⟩
def lw_privs_2 : List (MethodName × Nat) := [(⟨"StandingUp$Texts", "doStep", "(II[I)I"⟩, 13), (⟨"StandingUp", "oneOf", "(I)LStandingUp$Rower;"⟩, 18), (⟨"StandingUp", "otherOf", "(I)LStandingUp$Rower;"⟩, 18), (⟨"StandingUp", "sheetAt", "(I)LStandingUp$Sheet;"⟩, 18), (⟨"StandingUp$Boat", "bestFrom", "(II)J"⟩, 6), (⟨"StandingUp$Boat", "planPuttingOff", "(II)J"⟩, 6), (⟨"StandingUp$Boat", "waitsAfterLast", "(I)J"⟩, 6), (⟨"StandingUp", "dueTwo", "(II)I"⟩, 18), (⟨"StandingUp", "oneMore", "(I)V"⟩, 18), (⟨"StandingUp", "firstOther", "(ILStandingUp$Sheet;)I"⟩, 18), (⟨"StandingUp", "eldestSon", "(I)I"⟩, 18), (⟨"StandingUp", "firstOfBlood", "(I)I"⟩, 18), (⟨"StandingUp", "mostTurns", "(II)I"⟩, 18), (⟨"StandingUp$Landings", "measure", "([I[LStandingUp$Crossing;I)V"⟩, 4), (⟨"StandingUp", "priceOf", "(II)I"⟩, 18), (⟨"StandingUp", "openOnes", "()I"⟩, 18)]
theorem lw_r2 : ∀ q ∈ lw_privs_2, lw_okq q := List.forall_mem_cons.mpr ⟨lw_p16, List.forall_mem_cons.mpr ⟨lw_p17, List.forall_mem_cons.mpr ⟨lw_p18, List.forall_mem_cons.mpr ⟨lw_p19, List.forall_mem_cons.mpr ⟨lw_p20, List.forall_mem_cons.mpr ⟨lw_p21, List.forall_mem_cons.mpr ⟨lw_p22, List.forall_mem_cons.mpr ⟨lw_p23, List.forall_mem_cons.mpr ⟨lw_p24, List.forall_mem_cons.mpr ⟨lw_p25, List.forall_mem_cons.mpr ⟨lw_p26, List.forall_mem_cons.mpr ⟨lw_p27, List.forall_mem_cons.mpr ⟨lw_p28, List.forall_mem_cons.mpr ⟨lw_p29, List.forall_mem_cons.mpr ⟨lw_p30, List.forall_mem_cons.mpr ⟨lw_p31, fun _ h => absurd h List.not_mem_nil⟩⟩⟩⟩⟩⟩⟩⟩⟩⟩⟩⟩⟩⟩⟩⟩
theorem lw_p32 : lw_okq (⟨"StandingUp", "illOnes", "()I"⟩, 18) := ⟨⟨by decide +kernel, by decide +kernel⟩, List.mem_of_getElem? (i := 23) (by decide +kernel), List.mem_of_getElem? (i := 980) (by decide +kernel), List.mem_of_getElem? (i := 981) (by decide +kernel)⟩
theorem lw_p33 : lw_okq (⟨"StandingUp", "turnsInAll", "()I"⟩, 18) := ⟨⟨by decide +kernel, by decide +kernel⟩, List.mem_of_getElem? (i := 23) (by decide +kernel), List.mem_of_getElem? (i := 984) (by decide +kernel), List.mem_of_getElem? (i := 985) (by decide +kernel)⟩
theorem lw_p34 : lw_okq (⟨"StandingUpModel", "spell", "(IJ)V"⟩, 58) := ⟨⟨by decide +kernel, by decide +kernel⟩, List.mem_of_getElem? (i := 1027) (by decide +kernel), List.mem_of_getElem? (i := 1034) (by decide +kernel), List.mem_of_getElem? (i := 1035) (by decide +kernel)⟩
theorem lw_p35 : lw_okq (⟨"StandingUpModel", "isCrossing", "(I)Z"⟩, 58) := ⟨⟨by decide +kernel, by decide +kernel⟩, List.mem_of_getElem? (i := 1027) (by decide +kernel), List.mem_of_getElem? (i := 1237) (by decide +kernel), List.mem_of_getElem? (i := 1238) (by decide +kernel)⟩
theorem lw_p36 : lw_okq (⟨"StandingUpModel", "isRower", "(I)Z"⟩, 58) := ⟨⟨by decide +kernel, by decide +kernel⟩, List.mem_of_getElem? (i := 1027) (by decide +kernel), List.mem_of_getElem? (i := 1249) (by decide +kernel), List.mem_of_getElem? (i := 1250) (by decide +kernel)⟩
theorem lw_p37 : lw_okq (⟨"StandingUpModel", "paceOf", "(I)I"⟩, 58) := ⟨⟨by decide +kernel, by decide +kernel⟩, List.mem_of_getElem? (i := 1027) (by decide +kernel), List.mem_of_getElem? (i := 1266) (by decide +kernel), List.mem_of_getElem? (i := 1267) (by decide +kernel)⟩
theorem lw_p38 : lw_okq (⟨"StandingUpModel", "may", "(II)Z"⟩, 58) := ⟨⟨by decide +kernel, by decide +kernel⟩, List.mem_of_getElem? (i := 1027) (by decide +kernel), List.mem_of_getElem? (i := 1270) (by decide +kernel), List.mem_of_getElem? (i := 1271) (by decide +kernel)⟩
theorem lw_p39 : lw_okq (⟨"StandingUpModel", "partsOf", "(I)I"⟩, 58) := ⟨⟨by decide +kernel, by decide +kernel⟩, List.mem_of_getElem? (i := 1027) (by decide +kernel), List.mem_of_getElem? (i := 1277) (by decide +kernel), List.mem_of_getElem? (i := 1278) (by decide +kernel)⟩
theorem lw_p40 : lw_okq (⟨"StandingUpModel", "dueOf", "(II)I"⟩, 58) := ⟨⟨by decide +kernel, by decide +kernel⟩, List.mem_of_getElem? (i := 1027) (by decide +kernel), List.mem_of_getElem? (i := 1281) (by decide +kernel), List.mem_of_getElem? (i := 1282) (by decide +kernel)⟩
theorem lw_p41 : lw_okq (⟨"StandingUpModel", "read", "(IIIIII)I"⟩, 58) := ⟨⟨by decide +kernel, by decide +kernel⟩, List.mem_of_getElem? (i := 1027) (by decide +kernel), List.mem_of_getElem? (i := 1285) (by decide +kernel), List.mem_of_getElem? (i := 1286) (by decide +kernel)⟩
theorem lw_p42 : lw_okq (⟨"StandingUpModel", "next", "()V"⟩, 58) := ⟨⟨by decide +kernel, by decide +kernel⟩, List.mem_of_getElem? (i := 1027) (by decide +kernel), List.mem_of_getElem? (i := 1289) (by decide +kernel), List.mem_of_getElem? (i := 1290) (by decide +kernel)⟩
theorem lw_p43 : lw_okq (⟨"StandingUpModel", "byteAt", "(I)I"⟩, 58) := ⟨⟨by decide +kernel, by decide +kernel⟩, List.mem_of_getElem? (i := 1027) (by decide +kernel), List.mem_of_getElem? (i := 1293) (by decide +kernel), List.mem_of_getElem? (i := 1294) (by decide +kernel)⟩
theorem lw_p44 : lw_okq (⟨"StandingUpModel", "part", "(J)I"⟩, 58) := ⟨⟨by decide +kernel, by decide +kernel⟩, List.mem_of_getElem? (i := 1027) (by decide +kernel), List.mem_of_getElem? (i := 1306) (by decide +kernel), List.mem_of_getElem? (i := 1307) (by decide +kernel)⟩
theorem lw_p45 : lw_okq (⟨"StandingUpModel", "isWord", "(J)Z"⟩, 58) := ⟨⟨by decide +kernel, by decide +kernel⟩, List.mem_of_getElem? (i := 1027) (by decide +kernel), List.mem_of_getElem? (i := 1310) (by decide +kernel), List.mem_of_getElem? (i := 1311) (by decide +kernel)⟩
theorem lw_p46 : lw_okq (⟨"StandingUpModel", "fail", "()V"⟩, 58) := ⟨⟨by decide +kernel, by decide +kernel⟩, List.mem_of_getElem? (i := 1027) (by decide +kernel), List.mem_of_getElem? (i := 1314) (by decide +kernel), List.mem_of_getElem? (i := 1315) (by decide +kernel)⟩
theorem lw_p47 : lw_okq (⟨"StandingUpModel", "either", "()I"⟩, 58) := ⟨⟨by decide +kernel, by decide +kernel⟩, List.mem_of_getElem? (i := 1027) (by decide +kernel), List.mem_of_getElem? (i := 1318) (by decide +kernel), List.mem_of_getElem? (i := 1319) (by decide +kernel)⟩
def lw_privs_3 : List (MethodName × Nat) := [(⟨"StandingUp", "illOnes", "()I"⟩, 18), (⟨"StandingUp", "turnsInAll", "()I"⟩, 18), (⟨"StandingUpModel", "spell", "(IJ)V"⟩, 58), (⟨"StandingUpModel", "isCrossing", "(I)Z"⟩, 58), (⟨"StandingUpModel", "isRower", "(I)Z"⟩, 58), (⟨"StandingUpModel", "paceOf", "(I)I"⟩, 58), (⟨"StandingUpModel", "may", "(II)Z"⟩, 58), (⟨"StandingUpModel", "partsOf", "(I)I"⟩, 58), (⟨"StandingUpModel", "dueOf", "(II)I"⟩, 58), (⟨"StandingUpModel", "read", "(IIIIII)I"⟩, 58), (⟨"StandingUpModel", "next", "()V"⟩, 58), (⟨"StandingUpModel", "byteAt", "(I)I"⟩, 58), (⟨"StandingUpModel", "part", "(J)I"⟩, 58), (⟨"StandingUpModel", "isWord", "(J)Z"⟩, 58), (⟨"StandingUpModel", "fail", "()V"⟩, 58), (⟨"StandingUpModel", "either", "()I"⟩, 58)]
theorem lw_r3 : ∀ q ∈ lw_privs_3, lw_okq q := List.forall_mem_cons.mpr ⟨lw_p32, List.forall_mem_cons.mpr ⟨lw_p33, List.forall_mem_cons.mpr ⟨lw_p34, List.forall_mem_cons.mpr ⟨lw_p35, List.forall_mem_cons.mpr ⟨lw_p36, List.forall_mem_cons.mpr ⟨lw_p37, List.forall_mem_cons.mpr ⟨lw_p38, List.forall_mem_cons.mpr ⟨lw_p39, List.forall_mem_cons.mpr ⟨lw_p40, List.forall_mem_cons.mpr ⟨lw_p41, List.forall_mem_cons.mpr ⟨lw_p42, List.forall_mem_cons.mpr ⟨lw_p43, List.forall_mem_cons.mpr ⟨lw_p44, List.forall_mem_cons.mpr ⟨lw_p45, List.forall_mem_cons.mpr ⟨lw_p46, List.forall_mem_cons.mpr ⟨lw_p47, fun _ h => absurd h List.not_mem_nil⟩⟩⟩⟩⟩⟩⟩⟩⟩⟩⟩⟩⟩⟩⟩⟩
theorem lw_p48 : lw_okq (⟨"StandingUpModel", "both", "()I"⟩, 58) := ⟨⟨by decide +kernel, by decide +kernel⟩, List.mem_of_getElem? (i := 1027) (by decide +kernel), List.mem_of_getElem? (i := 1322) (by decide +kernel), List.mem_of_getElem? (i := 1323) (by decide +kernel)⟩
theorem lw_p49 : lw_okq (⟨"StandingUpModel", "not", "()I"⟩, 58) := ⟨⟨by decide +kernel, by decide +kernel⟩, List.mem_of_getElem? (i := 1027) (by decide +kernel), List.mem_of_getElem? (i := 1326) (by decide +kernel), List.mem_of_getElem? (i := 1327) (by decide +kernel)⟩
theorem lw_p50 : lw_okq (⟨"StandingUpModel", "opens", "()Z"⟩, 58) := ⟨⟨by decide +kernel, by decide +kernel⟩, List.mem_of_getElem? (i := 1027) (by decide +kernel), List.mem_of_getElem? (i := 1331) (by decide +kernel), List.mem_of_getElem? (i := 1332) (by decide +kernel)⟩
theorem lw_p51 : lw_okq (⟨"StandingUpModel", "added", "()I"⟩, 58) := ⟨⟨by decide +kernel, by decide +kernel⟩, List.mem_of_getElem? (i := 1027) (by decide +kernel), List.mem_of_getElem? (i := 1335) (by decide +kernel), List.mem_of_getElem? (i := 1336) (by decide +kernel)⟩
theorem lw_p52 : lw_okq (⟨"StandingUpModel", "term", "()I"⟩, 58) := ⟨⟨by decide +kernel, by decide +kernel⟩, List.mem_of_getElem? (i := 1027) (by decide +kernel), List.mem_of_getElem? (i := 1339) (by decide +kernel), List.mem_of_getElem? (i := 1340) (by decide +kernel)⟩
theorem lw_p53 : lw_okq (⟨"StandingUpModel", "one", "()I"⟩, 58) := ⟨⟨by decide +kernel, by decide +kernel⟩, List.mem_of_getElem? (i := 1027) (by decide +kernel), List.mem_of_getElem? (i := 1343) (by decide +kernel), List.mem_of_getElem? (i := 1344) (by decide +kernel)⟩
theorem lw_p54 : lw_okq (⟨"StandingUpModel", "isSign", "(I)Z"⟩, 58) := ⟨⟨by decide +kernel, by decide +kernel⟩, List.mem_of_getElem? (i := 1027) (by decide +kernel), List.mem_of_getElem? (i := 1347) (by decide +kernel), List.mem_of_getElem? (i := 1348) (by decide +kernel)⟩
theorem lw_p55 : lw_okq (⟨"StandingUpModel", "name", "()I"⟩, 58) := ⟨⟨by decide +kernel, by decide +kernel⟩, List.mem_of_getElem? (i := 1027) (by decide +kernel), List.mem_of_getElem? (i := 1351) (by decide +kernel), List.mem_of_getElem? (i := 1352) (by decide +kernel)⟩
theorem lw_p56 : lw_okq (⟨"StandingUpModel", "areTwo", "(I)Z"⟩, 58) := ⟨⟨by decide +kernel, by decide +kernel⟩, List.mem_of_getElem? (i := 1027) (by decide +kernel), List.mem_of_getElem? (i := 1383) (by decide +kernel), List.mem_of_getElem? (i := 1384) (by decide +kernel)⟩
theorem lw_p57 : lw_okq (⟨"StandingUpModel", "minute", "(IIIIIIZ)V"⟩, 58) := ⟨⟨by decide +kernel, by decide +kernel⟩, List.mem_of_getElem? (i := 1027) (by decide +kernel), List.mem_of_getElem? (i := 1408) (by decide +kernel), List.mem_of_getElem? (i := 1409) (by decide +kernel)⟩
theorem lw_p58 : lw_okq (⟨"StandingUpModel", "turnOf", "(II)I"⟩, 58) := ⟨⟨by decide +kernel, by decide +kernel⟩, List.mem_of_getElem? (i := 1027) (by decide +kernel), List.mem_of_getElem? (i := 1416) (by decide +kernel), List.mem_of_getElem? (i := 1417) (by decide +kernel)⟩
theorem lw_p59 : lw_okq (⟨"StandingUpModel", "foremost", "(III)I"⟩, 58) := ⟨⟨by decide +kernel, by decide +kernel⟩, List.mem_of_getElem? (i := 1027) (by decide +kernel), List.mem_of_getElem? (i := 1420) (by decide +kernel), List.mem_of_getElem? (i := 1421) (by decide +kernel)⟩
theorem lw_p60 : lw_okq (⟨"StandingUpModel", "isAhead", "(II)Z"⟩, 58) := ⟨⟨by decide +kernel, by decide +kernel⟩, List.mem_of_getElem? (i := 1027) (by decide +kernel), List.mem_of_getElem? (i := 1438) (by decide +kernel), List.mem_of_getElem? (i := 1439) (by decide +kernel)⟩
theorem lw_p61 : lw_okq (⟨"StandingUpModel", "walks", "()V"⟩, 58) := ⟨⟨by decide +kernel, by decide +kernel⟩, List.mem_of_getElem? (i := 1027) (by decide +kernel), List.mem_of_getElem? (i := 1456) (by decide +kernel), List.mem_of_getElem? (i := 1457) (by decide +kernel)⟩
theorem lw_p62 : lw_okq (⟨"StandingUpModel", "priceOf", "(II)I"⟩, 58) := ⟨⟨by decide +kernel, by decide +kernel⟩, List.mem_of_getElem? (i := 1027) (by decide +kernel), List.mem_of_getElem? (i := 1483) (by decide +kernel), List.mem_of_getElem? (i := 1484) (by decide +kernel)⟩
def lw_privs_4 : List (MethodName × Nat) := [(⟨"StandingUpModel", "both", "()I"⟩, 58), (⟨"StandingUpModel", "not", "()I"⟩, 58), (⟨"StandingUpModel", "opens", "()Z"⟩, 58), (⟨"StandingUpModel", "added", "()I"⟩, 58), (⟨"StandingUpModel", "term", "()I"⟩, 58), (⟨"StandingUpModel", "one", "()I"⟩, 58), (⟨"StandingUpModel", "isSign", "(I)Z"⟩, 58), (⟨"StandingUpModel", "name", "()I"⟩, 58), (⟨"StandingUpModel", "areTwo", "(I)Z"⟩, 58), (⟨"StandingUpModel", "minute", "(IIIIIIZ)V"⟩, 58), (⟨"StandingUpModel", "turnOf", "(II)I"⟩, 58), (⟨"StandingUpModel", "foremost", "(III)I"⟩, 58), (⟨"StandingUpModel", "isAhead", "(II)Z"⟩, 58), (⟨"StandingUpModel", "walks", "()V"⟩, 58), (⟨"StandingUpModel", "priceOf", "(II)I"⟩, 58)]
theorem lw_r4 : ∀ q ∈ lw_privs_4, lw_okq q := List.forall_mem_cons.mpr ⟨lw_p48, List.forall_mem_cons.mpr ⟨lw_p49, List.forall_mem_cons.mpr ⟨lw_p50, List.forall_mem_cons.mpr ⟨lw_p51, List.forall_mem_cons.mpr ⟨lw_p52, List.forall_mem_cons.mpr ⟨lw_p53, List.forall_mem_cons.mpr ⟨lw_p54, List.forall_mem_cons.mpr ⟨lw_p55, List.forall_mem_cons.mpr ⟨lw_p56, List.forall_mem_cons.mpr ⟨lw_p57, List.forall_mem_cons.mpr ⟨lw_p58, List.forall_mem_cons.mpr ⟨lw_p59, List.forall_mem_cons.mpr ⟨lw_p60, List.forall_mem_cons.mpr ⟨lw_p61, List.forall_mem_cons.mpr ⟨lw_p62, fun _ h => absurd h List.not_mem_nil⟩⟩⟩⟩⟩⟩⟩⟩⟩⟩⟩⟩⟩⟩⟩
def lw_privs : List (MethodName × Nat) := lw_privs_1 ++ (lw_privs_2 ++ (lw_privs_3 ++ (lw_privs_4)))
def lw_tbl : List Cond := k2_sels lw_privs ++ tables_1
theorem lw_privs_ok : ∀ q ∈ lw_privs, lw_okq q := by
  show ∀ q ∈ lw_privs_1 ++ (lw_privs_2 ++ (lw_privs_3 ++ (lw_privs_4))), lw_okq q
  exact List.forall_mem_append.mpr ⟨lw_r1, List.forall_mem_append.mpr ⟨lw_r2, List.forall_mem_append.mpr ⟨lw_r3, lw_r4⟩⟩⟩
-- names and field tables, as printed
def RX0 : String := "StandingUp$Boat"
def TX0 : u_T := fun k => match k with
  | 0 => ("StandingUp$Boat", "minutes", "I", false)
  | 1 => ("StandingUp$Boat", "most", "I", false)
  | 2 => ("StandingUp$Boat", "trip", "I", false)
  | 3 => ("StandingUp$Boat", "came", "[I", true)
  | 4 => ("StandingUp$Boat", "sums", "[I", true)
  | _ => ("StandingUp$Boat", "best", "[J", true)
def tyX0 : Nat → FieldType := fun k => match k with
  | 0 => .int
  | 1 => .int
  | 2 => .int
  | 3 => .array .int
  | 4 => .array .int
  | _ => .array .long
theorem nmX0 : ∀ a, a < 6 → ∀ b, b < 6 → a ≠ b → (TX0 a).2.1 ≠ (TX0 b).2.1 := by decide +kernel
theorem tyX0_ok : ∀ k, k < 6 → parseFieldDescriptor (TX0 k).2.2.1 = some (tyX0 k) := by decide +kernel
abbrev cX0_init : ByteArray := prog_2_method_1_code
def yX0_init : MethodName := ⟨RX0, "<init>", "()V"⟩
abbrev cX0_waitsOf : ByteArray := prog_2_method_2_code
def yX0_waitsOf : MethodName := ⟨RX0, "waitsOf", "(J)I"⟩
abbrev cX0_minutesOf : ByteArray := prog_2_method_3_code
def yX0_minutesOf : MethodName := ⟨RX0, "minutesOf", "(J)I"⟩
abbrev cX0_awaits : ByteArray := prog_2_method_4_code
def yX0_awaits : MethodName := ⟨RX0, "awaits", "(LStandingUp$Sheet;)Z"⟩
abbrev cX0_bestPlan : ByteArray := prog_2_method_5_code
def yX0_bestPlan : MethodName := ⟨RX0, "bestPlan", "(II)J"⟩
abbrev cX0_bestFrom : ByteArray := prog_2_method_6_code
def yX0_bestFrom : MethodName := ⟨RX0, "bestFrom", "(II)J"⟩
abbrev cX0_planPuttingOff : ByteArray := prog_2_method_7_code
def yX0_planPuttingOff : MethodName := ⟨RX0, "planPuttingOff", "(II)J"⟩
abbrev cX0_waitsAfterLast : ByteArray := prog_2_method_8_code
def yX0_waitsAfterLast : MethodName := ⟨RX0, "waitsAfterLast", "(I)J"⟩
def RX1 : String := "StandingUp$Crossing"
def TX1 : u_T := fun k => match k with
  | 0 => ("StandingUp$Crossing", "strokes", "I", true)
  | 1 => ("StandingUp$Crossing", "landings", "I", true)
  | 2 => ("StandingUp$Crossing", "isOpen", "I", false)
  | 3 => ("StandingUp$Crossing", "heads", "I", false)
  | 4 => ("StandingUp$Crossing", "keptOpen", "I", false)
  | _ => ("StandingUp$Crossing", "keptHeads", "I", false)
def tyX1 : Nat → FieldType := fun k => match k with
  | 0 => .int
  | 1 => .int
  | 2 => .int
  | 3 => .int
  | 4 => .int
  | _ => .int
theorem nmX1 : ∀ a, a < 6 → ∀ b, b < 6 → a ≠ b → (TX1 a).2.1 ≠ (TX1 b).2.1 := by decide +kernel
theorem tyX1_ok : ∀ k, k < 6 → parseFieldDescriptor (TX1 k).2.2.1 = some (tyX1 k) := by decide +kernel
abbrev cX1_init : ByteArray := prog_3_method_1_code
def yX1_init : MethodName := ⟨RX1, "<init>", "(II)V"⟩
abbrev cX1_become : ByteArray := prog_3_method_2_code
def yX1_become : MethodName := ⟨RX1, "become", "(I)I"⟩
abbrev cX1_takeHeads : ByteArray := prog_3_method_3_code
def yX1_takeHeads : MethodName := ⟨RX1, "takeHeads", "(I)I"⟩
abbrev cX1_crewNeeded : ByteArray := prog_3_method_4_code
def yX1_crewNeeded : MethodName := ⟨RX1, "crewNeeded", "()I"⟩
abbrev cX1_keep : ByteArray := prog_3_method_5_code
def yX1_keep : MethodName := ⟨RX1, "keep", "()V"⟩
abbrev cX1_comeBack : ByteArray := prog_3_method_6_code
def yX1_comeBack : MethodName := ⟨RX1, "comeBack", "()V"⟩
def RX2 : String := "StandingUp$Elder"
def TX2 : u_T := fun k => match k with
  | 0 => ("StandingUp$Rower", "kind", "I", true)
  | 1 => ("StandingUp$Rower", "age", "I", true)
  | 2 => ("StandingUp$Rower", "number", "I", true)
  | 3 => ("StandingUp$Rower", "crossing", "I", true)
  | 4 => ("StandingUp$Rower", "father", "I", true)
  | 5 => ("StandingUp$Rower", "illness", "I", false)
  | 6 => ("StandingUp$Rower", "turns", "I", false)
  | 7 => ("StandingUp$Rower", "keptIllness", "I", false)
  | _ => ("StandingUp$Rower", "keptTurns", "I", false)
def tyX2 : Nat → FieldType := fun k => match k with
  | 0 => .int
  | 1 => .int
  | 2 => .int
  | 3 => .int
  | 4 => .int
  | 5 => .int
  | 6 => .int
  | 7 => .int
  | _ => .int
theorem nmX2 : ∀ a, a < 9 → ∀ b, b < 9 → a ≠ b → (TX2 a).2.1 ≠ (TX2 b).2.1 := by decide +kernel
theorem tyX2_ok : ∀ k, k < 9 → parseFieldDescriptor (TX2 k).2.2.1 = some (tyX2 k) := by decide +kernel
abbrev cX2_init : ByteArray := prog_4_method_1_code
def yX2_init : MethodName := ⟨RX2, "<init>", "(III)V"⟩
abbrev cX2_pace : ByteArray := prog_4_method_2_code
def yX2_pace : MethodName := ⟨RX2, "pace", "()I"⟩
abbrev cX2_may : ByteArray := prog_4_method_3_code
def yX2_may : MethodName := ⟨RX2, "may", "(I)Z"⟩
abbrev cX2_parts : ByteArray := prog_4_method_4_code
def yX2_parts : MethodName := ⟨RX2, "parts", "()I"⟩
def RX3 : String := "StandingUp$Heir"
def TX3 : u_T := fun k => match k with
  | 0 => ("StandingUp$Rower", "kind", "I", true)
  | 1 => ("StandingUp$Rower", "age", "I", true)
  | 2 => ("StandingUp$Rower", "number", "I", true)
  | 3 => ("StandingUp$Rower", "crossing", "I", true)
  | 4 => ("StandingUp$Rower", "father", "I", true)
  | 5 => ("StandingUp$Rower", "illness", "I", false)
  | 6 => ("StandingUp$Rower", "turns", "I", false)
  | 7 => ("StandingUp$Rower", "keptIllness", "I", false)
  | _ => ("StandingUp$Rower", "keptTurns", "I", false)
def tyX3 : Nat → FieldType := fun k => match k with
  | 0 => .int
  | 1 => .int
  | 2 => .int
  | 3 => .int
  | 4 => .int
  | 5 => .int
  | 6 => .int
  | 7 => .int
  | _ => .int
theorem nmX3 : ∀ a, a < 9 → ∀ b, b < 9 → a ≠ b → (TX3 a).2.1 ≠ (TX3 b).2.1 := by decide +kernel
theorem tyX3_ok : ∀ k, k < 9 → parseFieldDescriptor (TX3 k).2.2.1 = some (tyX3 k) := by decide +kernel
abbrev cX3_init : ByteArray := prog_5_method_1_code
def yX3_init : MethodName := ⟨RX3, "<init>", "(III)V"⟩
abbrev cX3_pace : ByteArray := prog_5_method_2_code
def yX3_pace : MethodName := ⟨RX3, "pace", "()I"⟩
abbrev cX3_may : ByteArray := prog_5_method_3_code
def yX3_may : MethodName := ⟨RX3, "may", "(I)Z"⟩
abbrev cX3_parts : ByteArray := prog_5_method_4_code
def yX3_parts : MethodName := ⟨RX3, "parts", "()I"⟩
def RX4 : String := "StandingUp$Landings"
def TX4 : u_T := fun k => match k with
  | 0 => ("StandingUp$Landings", "paths", "[I", true)
  | 1 => ("StandingUp$Landings", "keptPaths", "[I", true)
  | 2 => ("StandingUp$Landings", "now", "[I", true)
  | _ => ("StandingUp$Landings", "then", "[I", true)
def tyX4 : Nat → FieldType := fun k => match k with
  | 0 => .array .int
  | 1 => .array .int
  | 2 => .array .int
  | _ => .array .int
theorem nmX4 : ∀ a, a < 4 → ∀ b, b < 4 → a ≠ b → (TX4 a).2.1 ≠ (TX4 b).2.1 := by decide +kernel
theorem tyX4_ok : ∀ k, k < 4 → parseFieldDescriptor (TX4 k).2.2.1 = some (tyX4 k) := by decide +kernel
abbrev cX4_init : ByteArray := prog_6_method_1_code
def yX4_init : MethodName := ⟨RX4, "<init>", "()V"⟩
abbrev cX4_areTwo : ByteArray := prog_6_method_2_code
def yX4_areTwo : MethodName := ⟨RX4, "areTwo", "(I)Z"⟩
abbrev cX4_turned : ByteArray := prog_6_method_3_code
def yX4_turned : MethodName := ⟨RX4, "turned", "(I)I"⟩
abbrev cX4_takePath : ByteArray := prog_6_method_4_code
def yX4_takePath : MethodName := ⟨RX4, "takePath", "(II)I"⟩
abbrev cX4_leastWay : ByteArray := prog_6_method_5_code
def yX4_leastWay : MethodName := ⟨RX4, "leastWay", "(I[LStandingUp$Crossing;I)I"⟩
abbrev cX4_measureNow : ByteArray := prog_6_method_6_code
def yX4_measureNow : MethodName := ⟨RX4, "measureNow", "([LStandingUp$Crossing;I)V"⟩
abbrev cX4_measureThen : ByteArray := prog_6_method_7_code
def yX4_measureThen : MethodName := ⟨RX4, "measureThen", "([LStandingUp$Crossing;I)V"⟩
abbrev cX4_measure : ByteArray := prog_6_method_8_code
def yX4_measure : MethodName := ⟨RX4, "measure", "([I[LStandingUp$Crossing;I)V"⟩
abbrev cX4_lostMinutes : ByteArray := prog_6_method_9_code
def yX4_lostMinutes : MethodName := ⟨RX4, "lostMinutes", "()I"⟩
abbrev cX4_keep : ByteArray := prog_6_method_10_code
def yX4_keep : MethodName := ⟨RX4, "keep", "()V"⟩
abbrev cX4_comeBack : ByteArray := prog_6_method_11_code
def yX4_comeBack : MethodName := ⟨RX4, "comeBack", "()V"⟩
def RX5 : String := "StandingUp$Master"
def TX5 : u_T := fun k => match k with
  | 0 => ("StandingUp$Rower", "kind", "I", true)
  | 1 => ("StandingUp$Rower", "age", "I", true)
  | 2 => ("StandingUp$Rower", "number", "I", true)
  | 3 => ("StandingUp$Rower", "crossing", "I", true)
  | 4 => ("StandingUp$Rower", "father", "I", true)
  | 5 => ("StandingUp$Rower", "illness", "I", false)
  | 6 => ("StandingUp$Rower", "turns", "I", false)
  | 7 => ("StandingUp$Rower", "keptIllness", "I", false)
  | _ => ("StandingUp$Rower", "keptTurns", "I", false)
def tyX5 : Nat → FieldType := fun k => match k with
  | 0 => .int
  | 1 => .int
  | 2 => .int
  | 3 => .int
  | 4 => .int
  | 5 => .int
  | 6 => .int
  | 7 => .int
  | _ => .int
theorem nmX5 : ∀ a, a < 9 → ∀ b, b < 9 → a ≠ b → (TX5 a).2.1 ≠ (TX5 b).2.1 := by decide +kernel
theorem tyX5_ok : ∀ k, k < 9 → parseFieldDescriptor (TX5 k).2.2.1 = some (tyX5 k) := by decide +kernel
abbrev cX5_init : ByteArray := prog_7_method_1_code
def yX5_init : MethodName := ⟨RX5, "<init>", "(III)V"⟩
abbrev cX5_pace : ByteArray := prog_7_method_2_code
def yX5_pace : MethodName := ⟨RX5, "pace", "()I"⟩
abbrev cX5_may : ByteArray := prog_7_method_3_code
def yX5_may : MethodName := ⟨RX5, "may", "(I)Z"⟩
abbrev cX5_parts : ByteArray := prog_7_method_4_code
def yX5_parts : MethodName := ⟨RX5, "parts", "()I"⟩
def RX6 : String := "StandingUp$Old"
def TX6 : u_T := fun k => match k with
  | 0 => ("StandingUp$Rower", "kind", "I", true)
  | 1 => ("StandingUp$Rower", "age", "I", true)
  | 2 => ("StandingUp$Rower", "number", "I", true)
  | 3 => ("StandingUp$Rower", "crossing", "I", true)
  | 4 => ("StandingUp$Rower", "father", "I", true)
  | 5 => ("StandingUp$Rower", "illness", "I", false)
  | 6 => ("StandingUp$Rower", "turns", "I", false)
  | 7 => ("StandingUp$Rower", "keptIllness", "I", false)
  | _ => ("StandingUp$Rower", "keptTurns", "I", false)
def tyX6 : Nat → FieldType := fun k => match k with
  | 0 => .int
  | 1 => .int
  | 2 => .int
  | 3 => .int
  | 4 => .int
  | 5 => .int
  | 6 => .int
  | 7 => .int
  | _ => .int
theorem nmX6 : ∀ a, a < 9 → ∀ b, b < 9 → a ≠ b → (TX6 a).2.1 ≠ (TX6 b).2.1 := by decide +kernel
theorem tyX6_ok : ∀ k, k < 9 → parseFieldDescriptor (TX6 k).2.2.1 = some (tyX6 k) := by decide +kernel
abbrev cX6_init : ByteArray := prog_8_method_1_code
def yX6_init : MethodName := ⟨RX6, "<init>", "(III)V"⟩
abbrev cX6_pace : ByteArray := prog_8_method_2_code
def yX6_pace : MethodName := ⟨RX6, "pace", "()I"⟩
abbrev cX6_may : ByteArray := prog_8_method_3_code
def yX6_may : MethodName := ⟨RX6, "may", "(I)Z"⟩
def RX7 : String := "StandingUp$Rower"
def TX7 : u_T := fun k => match k with
  | 0 => ("StandingUp$Rower", "kind", "I", true)
  | 1 => ("StandingUp$Rower", "age", "I", true)
  | 2 => ("StandingUp$Rower", "number", "I", true)
  | 3 => ("StandingUp$Rower", "crossing", "I", true)
  | 4 => ("StandingUp$Rower", "father", "I", true)
  | 5 => ("StandingUp$Rower", "illness", "I", false)
  | 6 => ("StandingUp$Rower", "turns", "I", false)
  | 7 => ("StandingUp$Rower", "keptIllness", "I", false)
  | _ => ("StandingUp$Rower", "keptTurns", "I", false)
def tyX7 : Nat → FieldType := fun k => match k with
  | 0 => .int
  | 1 => .int
  | 2 => .int
  | 3 => .int
  | 4 => .int
  | 5 => .int
  | 6 => .int
  | 7 => .int
  | _ => .int
theorem nmX7 : ∀ a, a < 9 → ∀ b, b < 9 → a ≠ b → (TX7 a).2.1 ≠ (TX7 b).2.1 := by decide +kernel
theorem tyX7_ok : ∀ k, k < 9 → parseFieldDescriptor (TX7 k).2.2.1 = some (tyX7 k) := by decide +kernel
abbrev cX7_init : ByteArray := prog_9_method_1_code
def yX7_init : MethodName := ⟨RX7, "<init>", "(III)V"⟩
abbrev cX7_pace : ByteArray := prog_9_method_2_code
def yX7_pace : MethodName := ⟨RX7, "pace", "()I"⟩
abbrev cX7_toldPace : ByteArray := prog_9_method_3_code
def yX7_toldPace : MethodName := ⟨RX7, "toldPace", "()I"⟩
abbrev cX7_may : ByteArray := prog_9_method_4_code
def yX7_may : MethodName := ⟨RX7, "may", "(I)Z"⟩
abbrev cX7_parts : ByteArray := prog_9_method_5_code
def yX7_parts : MethodName := ⟨RX7, "parts", "()I"⟩
abbrev cX7_rowsAt : ByteArray := prog_9_method_6_code
def yX7_rowsAt : MethodName := ⟨RX7, "rowsAt", "(I)Z"⟩
abbrev cX7_isIll : ByteArray := prog_9_method_7_code
def yX7_isIll : MethodName := ⟨RX7, "isIll", "()Z"⟩
abbrev cX7_keep : ByteArray := prog_9_method_8_code
def yX7_keep : MethodName := ⟨RX7, "keep", "()V"⟩
abbrev cX7_comeBack : ByteArray := prog_9_method_9_code
def yX7_comeBack : MethodName := ⟨RX7, "comeBack", "()V"⟩
def RX8 : String := "StandingUp$Sheet"
def TX8 : u_T := fun k => match k with
  | 0 => ("StandingUp$Sheet", "sort", "I", false)
  | 1 => ("StandingUp$Sheet", "size", "I", false)
  | _ => ("StandingUp$Sheet", "items", "[I", true)
def tyX8 : Nat → FieldType := fun k => match k with
  | 0 => .int
  | 1 => .int
  | _ => .array .int
theorem nmX8 : ∀ a, a < 3 → ∀ b, b < 3 → a ≠ b → (TX8 a).2.1 ≠ (TX8 b).2.1 := by decide +kernel
theorem tyX8_ok : ∀ k, k < 3 → parseFieldDescriptor (TX8 k).2.2.1 = some (tyX8 k) := by decide +kernel
abbrev cX8_init : ByteArray := prog_10_method_1_code
def yX8_init : MethodName := ⟨RX8, "<init>", "()V"⟩
abbrev cX8_isMissing : ByteArray := prog_10_method_2_code
def yX8_isMissing : MethodName := ⟨RX8, "isMissing", "()Z"⟩
abbrev cX8_become : ByteArray := prog_10_method_3_code
def yX8_become : MethodName := ⟨RX8, "become", "(II)V"⟩
abbrev cX8_holds : ByteArray := prog_10_method_4_code
def yX8_holds : MethodName := ⟨RX8, "holds", "(II)Z"⟩
abbrev cX8_item : ByteArray := prog_10_method_5_code
def yX8_item : MethodName := ⟨RX8, "item", "(I)I"⟩
abbrev cX8_put : ByteArray := prog_10_method_6_code
def yX8_put : MethodName := ⟨RX8, "put", "(II)Z"⟩
def RX9 : String := "StandingUp$StandIn"
def TX9 : u_T := fun k => match k with
  | 0 => ("StandingUp$Rower", "kind", "I", true)
  | 1 => ("StandingUp$Rower", "age", "I", true)
  | 2 => ("StandingUp$Rower", "number", "I", true)
  | 3 => ("StandingUp$Rower", "crossing", "I", true)
  | 4 => ("StandingUp$Rower", "father", "I", true)
  | 5 => ("StandingUp$Rower", "illness", "I", false)
  | 6 => ("StandingUp$Rower", "turns", "I", false)
  | 7 => ("StandingUp$Rower", "keptIllness", "I", false)
  | _ => ("StandingUp$Rower", "keptTurns", "I", false)
def tyX9 : Nat → FieldType := fun k => match k with
  | 0 => .int
  | 1 => .int
  | 2 => .int
  | 3 => .int
  | 4 => .int
  | 5 => .int
  | 6 => .int
  | 7 => .int
  | _ => .int
theorem nmX9 : ∀ a, a < 9 → ∀ b, b < 9 → a ≠ b → (TX9 a).2.1 ≠ (TX9 b).2.1 := by decide +kernel
theorem tyX9_ok : ∀ k, k < 9 → parseFieldDescriptor (TX9 k).2.2.1 = some (tyX9 k) := by decide +kernel
abbrev cX9_init : ByteArray := prog_11_method_1_code
def yX9_init : MethodName := ⟨RX9, "<init>", "(III)V"⟩
abbrev cX9_pace : ByteArray := prog_11_method_2_code
def yX9_pace : MethodName := ⟨RX9, "pace", "()I"⟩
abbrev cX9_may : ByteArray := prog_11_method_3_code
def yX9_may : MethodName := ⟨RX9, "may", "(I)Z"⟩
abbrev cX9_parts : ByteArray := prog_11_method_4_code
def yX9_parts : MethodName := ⟨RX9, "parts", "()I"⟩
abbrev cX9_rowsAt : ByteArray := prog_11_method_5_code
def yX9_rowsAt : MethodName := ⟨RX9, "rowsAt", "(I)Z"⟩
def RX10 : String := "StandingUp$Texts"
def TX10 : u_T := fun k => match k with
  | 0 => ("StandingUp$Texts", "tape", "[B", true)
  | 1 => ("StandingUp$Texts", "size", "I", false)
  | 2 => ("StandingUp$Texts", "steps", "[I", true)
  | 3 => ("StandingUp$Texts", "starts", "[I", true)
  | 4 => ("StandingUp$Texts", "count", "I", false)
  | 5 => ("StandingUp$Texts", "rule", "I", false)
  | 6 => ("StandingUp$Texts", "stack", "[I", true)
  | 7 => ("StandingUp$Texts", "length", "I", false)
  | 8 => ("StandingUp$Texts", "place", "I", false)
  | 9 => ("StandingUp$Texts", "first", "I", false)
  | 10 => ("StandingUp$Texts", "token", "I", false)
  | 11 => ("StandingUp$Texts", "number", "I", false)
  | _ => ("StandingUp$Texts", "fault", "I", false)
def tyX10 : Nat → FieldType := fun k => match k with
  | 0 => .array .byte
  | 1 => .int
  | 2 => .array .int
  | 3 => .array .int
  | 4 => .int
  | 5 => .int
  | 6 => .array .int
  | 7 => .int
  | 8 => .int
  | 9 => .int
  | 10 => .int
  | 11 => .int
  | _ => .int
theorem nmX10 : ∀ a, a < 13 → ∀ b, b < 13 → a ≠ b → (TX10 a).2.1 ≠ (TX10 b).2.1 := by decide +kernel
theorem tyX10_ok : ∀ k, k < 13 → parseFieldDescriptor (TX10 k).2.2.1 = some (tyX10 k) := by decide +kernel
abbrev cX10_init : ByteArray := prog_12_method_1_code
def yX10_init : MethodName := ⟨RX10, "<init>", "()V"⟩
abbrev cX10_addBytes : ByteArray := prog_12_method_2_code
def yX10_addBytes : MethodName := ⟨RX10, "addBytes", "(IJ)I"⟩
abbrev cX10_addSigns : ByteArray := prog_12_method_3_code
def yX10_addSigns : MethodName := ⟨RX10, "addSigns", "(Ljava/lang/String;)V"⟩
abbrev cX10_readTape : ByteArray := prog_12_method_4_code
def yX10_readTape : MethodName := ⟨RX10, "readTape", "()I"⟩
abbrev cX10_read : ByteArray := prog_12_method_5_code
def yX10_read : MethodName := ⟨RX10, "read", "(II)V"⟩
abbrev cX10_readOpening : ByteArray := prog_12_method_6_code
def yX10_readOpening : MethodName := ⟨RX10, "readOpening", "(I)V"⟩
abbrev cX10_readOne : ByteArray := prog_12_method_7_code
def yX10_readOne : MethodName := ⟨RX10, "readOne", "()V"⟩
abbrev cX10_readJoined : ByteArray := prog_12_method_8_code
def yX10_readJoined : MethodName := ⟨RX10, "readJoined", "(II)V"⟩
abbrev cX10_joins : ByteArray := prog_12_method_9_code
def yX10_joins : MethodName := ⟨RX10, "joins", "(I)Z"⟩
abbrev cX10_pass : ByteArray := prog_12_method_10_code
def yX10_pass : MethodName := ⟨RX10, "pass", "(I)V"⟩
abbrev cX10_refuse : ByteArray := prog_12_method_11_code
def yX10_refuse : MethodName := ⟨RX10, "refuse", "()V"⟩
abbrev cX10_write : ByteArray := prog_12_method_12_code
def yX10_write : MethodName := ⟨RX10, "write", "(I)V"⟩
abbrev cX10_nextToken : ByteArray := prog_12_method_13_code
def yX10_nextToken : MethodName := ⟨RX10, "nextToken", "()V"⟩
abbrev cX10_isLetter : ByteArray := prog_12_method_14_code
def yX10_isLetter : MethodName := ⟨RX10, "isLetter", "(I)Z"⟩
abbrev cX10_isDigit : ByteArray := prog_12_method_15_code
def yX10_isDigit : MethodName := ⟨RX10, "isDigit", "(I)Z"⟩
abbrev cX10_takeNumber : ByteArray := prog_12_method_16_code
def yX10_takeNumber : MethodName := ⟨RX10, "takeNumber", "()V"⟩
abbrev cX10_takeWord : ByteArray := prog_12_method_17_code
def yX10_takeWord : MethodName := ⟨RX10, "takeWord", "()V"⟩
abbrev cX10_isWord : ByteArray := prog_12_method_18_code
def yX10_isWord : MethodName := ⟨RX10, "isWord", "(I)Z"⟩
abbrev cX10_value : ByteArray := prog_12_method_19_code
def yX10_value : MethodName := ⟨RX10, "value", "(I[I)I"⟩
abbrev cX10_doStep : ByteArray := prog_12_method_20_code
def yX10_doStep : MethodName := ⟨RX10, "doStep", "(II[I)I"⟩
abbrev cX10_joined : ByteArray := prog_12_method_21_code
def yX10_joined : MethodName := ⟨RX10, "joined", "(III)I"⟩
def RX11 : String := "StandingUp"
def TX11 : u_T := fun k => match k with
  | 0 => ("StandingUp", "tide", "I", false)
  | 1 => ("StandingUp", "wash", "I", false)
  | 2 => ("StandingUp", "crossings", "[LStandingUp$Crossing;", true)
  | 3 => ("StandingUp", "crossingCount", "I", false)
  | 4 => ("StandingUp", "crew", "[LStandingUp$Rower;", true)
  | 5 => ("StandingUp", "crewCount", "I", false)
  | 6 => ("StandingUp", "texts", "LStandingUp$Texts;", true)
  | 7 => ("StandingUp", "names", "[I", true)
  | 8 => ("StandingUp", "boat", "LStandingUp$Boat;", true)
  | 9 => ("StandingUp", "landingsOfAll", "LStandingUp$Landings;", true)
  | 10 => ("StandingUp", "sheets", "[LStandingUp$Sheet;", true)
  | 11 => ("StandingUp", "turnsAhead", "[I", true)
  | 12 => ("StandingUp", "imageKept", "Z", false)
  | 13 => ("StandingUp", "keptTide", "I", false)
  | 14 => ("StandingUp", "keptWash", "I", false)
  | 15 => ("StandingUp", "keptRule", "I", false)
  | 16 => ("StandingUp", "keptCrossings", "I", false)
  | _ => ("StandingUp", "keptCrew", "I", false)
def tyX11 : Nat → FieldType := fun k => match k with
  | 0 => .int
  | 1 => .int
  | 2 => .array (.object "StandingUp$Crossing")
  | 3 => .int
  | 4 => .array (.object "StandingUp$Rower")
  | 5 => .int
  | 6 => .object "StandingUp$Texts"
  | 7 => .array .int
  | 8 => .object "StandingUp$Boat"
  | 9 => .object "StandingUp$Landings"
  | 10 => .array (.object "StandingUp$Sheet")
  | 11 => .array .int
  | 12 => .boolean
  | 13 => .int
  | 14 => .int
  | 15 => .int
  | 16 => .int
  | _ => .int
theorem nmX11 : ∀ a, a < 18 → ∀ b, b < 18 → a ≠ b → (TX11 a).2.1 ≠ (TX11 b).2.1 := by decide +kernel
theorem tyX11_ok : ∀ k, k < 18 → parseFieldDescriptor (TX11 k).2.2.1 = some (tyX11 k) := by decide +kernel
abbrev cX11_init : ByteArray := prog_1_method_1_code
def yX11_init : MethodName := ⟨RX11, "<init>", "()V"⟩
abbrev cX11_crossing : ByteArray := prog_1_method_2_code
def yX11_crossing : MethodName := ⟨RX11, "crossing", "(II)I"⟩
abbrev cX11_set : ByteArray := prog_1_method_3_code
def yX11_set : MethodName := ⟨RX11, "set", "(II)I"⟩
abbrev cX11_setWater : ByteArray := prog_1_method_4_code
def yX11_setWater : MethodName := ⟨RX11, "setWater", "(II)I"⟩
abbrev cX11_rower : ByteArray := prog_1_method_5_code
def yX11_rower : MethodName := ⟨RX11, "rower", "(III)I"⟩
abbrev cX11_newRower : ByteArray := prog_1_method_6_code
def yX11_newRower : MethodName := ⟨RX11, "newRower", "(III)LStandingUp$Rower;"⟩
abbrev cX11_ill : ByteArray := prog_1_method_7_code
def yX11_ill : MethodName := ⟨RX11, "ill", "(II)I"⟩
abbrev cX11_told : ByteArray := prog_1_method_8_code
def yX11_told : MethodName := ⟨RX11, "told", "(III)I"⟩
abbrev cX11_feed : ByteArray := prog_1_method_9_code
def yX11_feed : MethodName := ⟨RX11, "feed", "(IJ)I"⟩
abbrev cX11_text : ByteArray := prog_1_method_10_code
def yX11_text : MethodName := ⟨RX11, "text", "()I"⟩
abbrev cX11_force : ByteArray := prog_1_method_11_code
def yX11_force : MethodName := ⟨RX11, "force", "(I)I"⟩
abbrev cX11_load : ByteArray := prog_1_method_12_code
def yX11_load : MethodName := ⟨RX11, "load", "(III)I"⟩
abbrev cX11_takes : ByteArray := prog_1_method_13_code
def yX11_takes : MethodName := ⟨RX11, "takes", "(II)I"⟩
abbrev cX11_byRule : ByteArray := prog_1_method_14_code
def yX11_byRule : MethodName := ⟨RX11, "byRule", "(IIIII)I"⟩
abbrev cX11_priceOf : ByteArray := prog_1_method_15_code
def yX11_priceOf : MethodName := ⟨RX11, "priceOf", "(II)I"⟩
abbrev cX11_waits : ByteArray := prog_1_method_16_code
def yX11_waits : MethodName := ⟨RX11, "waits", "(IIII)I"⟩
abbrev cX11_turn : ByteArray := prog_1_method_17_code
def yX11_turn : MethodName := ⟨RX11, "turn", "(II)I"⟩
abbrev cX11_rowed : ByteArray := prog_1_method_18_code
def yX11_rowed : MethodName := ⟨RX11, "rowed", "(II)I"⟩
abbrev cX11_judge : ByteArray := prog_1_method_19_code
def yX11_judge : MethodName := ⟨RX11, "judge", "(II)I"⟩
abbrev cX11_firstOther : ByteArray := prog_1_method_20_code
def yX11_firstOther : MethodName := ⟨RX11, "firstOther", "(ILStandingUp$Sheet;)I"⟩
abbrev cX11_dueTwo : ByteArray := prog_1_method_21_code
def yX11_dueTwo : MethodName := ⟨RX11, "dueTwo", "(II)I"⟩
abbrev cX11_oneMore : ByteArray := prog_1_method_22_code
def yX11_oneMore : MethodName := ⟨RX11, "oneMore", "(I)V"⟩
abbrev cX11_heir : ByteArray := prog_1_method_23_code
def yX11_heir : MethodName := ⟨RX11, "heir", "(II)I"⟩
abbrev cX11_eldestSon : ByteArray := prog_1_method_24_code
def yX11_eldestSon : MethodName := ⟨RX11, "eldestSon", "(I)I"⟩
abbrev cX11_firstOfBlood : ByteArray := prog_1_method_25_code
def yX11_firstOfBlood : MethodName := ⟨RX11, "firstOfBlood", "(I)I"⟩
abbrev cX11_mostTurns : ByteArray := prog_1_method_26_code
def yX11_mostTurns : MethodName := ⟨RX11, "mostTurns", "(II)I"⟩
abbrev cX11_open : ByteArray := prog_1_method_27_code
def yX11_open : MethodName := ⟨RX11, "open", "(II)I"⟩
abbrev cX11_path : ByteArray := prog_1_method_28_code
def yX11_path : MethodName := ⟨RX11, "path", "(II)I"⟩
abbrev cX11_foot : ByteArray := prog_1_method_29_code
def yX11_foot : MethodName := ⟨RX11, "foot", "(I)I"⟩
abbrev cX11_lost : ByteArray := prog_1_method_30_code
def yX11_lost : MethodName := ⟨RX11, "lost", "(I)I"⟩
abbrev cX11_fog : ByteArray := prog_1_method_31_code
def yX11_fog : MethodName := ⟨RX11, "fog", "(IIII)I"⟩
abbrev cX11_isABoat : ByteArray := prog_1_method_32_code
def yX11_isABoat : MethodName := ⟨RX11, "isABoat", "(I)Z"⟩
abbrev cX11_turnedAbout : ByteArray := prog_1_method_33_code
def yX11_turnedAbout : MethodName := ⟨RX11, "turnedAbout", "(II)I"⟩
abbrev cX11_box : ByteArray := prog_1_method_34_code
def yX11_box : MethodName := ⟨RX11, "box", "(IIII)I"⟩
abbrev cX11_shares : ByteArray := prog_1_method_35_code
def yX11_shares : MethodName := ⟨RX11, "shares", "(III)I"⟩
abbrev cX11_shareOf : ByteArray := prog_1_method_36_code
def yX11_shareOf : MethodName := ⟨RX11, "shareOf", "(LStandingUp$Rower;II)I"⟩
abbrev cX11_bridge : ByteArray := prog_1_method_37_code
def yX11_bridge : MethodName := ⟨RX11, "bridge", "(II)I"⟩
abbrev cX11_image : ByteArray := prog_1_method_38_code
def yX11_image : MethodName := ⟨RX11, "image", "()I"⟩
abbrev cX11_back : ByteArray := prog_1_method_39_code
def yX11_back : MethodName := ⟨RX11, "back", "()I"⟩
abbrev cX11_count : ByteArray := prog_1_method_40_code
def yX11_count : MethodName := ⟨RX11, "count", "(I)I"⟩
abbrev cX11_openOnes : ByteArray := prog_1_method_41_code
def yX11_openOnes : MethodName := ⟨RX11, "openOnes", "()I"⟩
abbrev cX11_illOnes : ByteArray := prog_1_method_42_code
def yX11_illOnes : MethodName := ⟨RX11, "illOnes", "()I"⟩
abbrev cX11_turnsInAll : ByteArray := prog_1_method_43_code
def yX11_turnsInAll : MethodName := ⟨RX11, "turnsInAll", "()I"⟩
abbrev cX11_sheet : ByteArray := prog_1_method_44_code
def yX11_sheet : MethodName := ⟨RX11, "sheet", "(III)I"⟩
abbrev cX11_cell : ByteArray := prog_1_method_45_code
def yX11_cell : MethodName := ⟨RX11, "cell", "(III)I"⟩
abbrev cX11_copy : ByteArray := prog_1_method_46_code
def yX11_copy : MethodName := ⟨RX11, "copy", "(IIIII)I"⟩
abbrev cX11_rowers : ByteArray := prog_1_method_47_code
def yX11_rowers : MethodName := ⟨RX11, "rowers", "(IIII)I"⟩
abbrev cX11_taken : ByteArray := prog_1_method_48_code
def yX11_taken : MethodName := ⟨RX11, "taken", "(II)I"⟩
abbrev cX11_isUnder : ByteArray := prog_1_method_49_code
def yX11_isUnder : MethodName := ⟨RX11, "isUnder", "(LStandingUp$Rower;I)Z"⟩
abbrev cX11_within : ByteArray := prog_1_method_50_code
def yX11_within : MethodName := ⟨RX11, "within", "(III)Z"⟩
abbrev cX11_isHour : ByteArray := prog_1_method_51_code
def yX11_isHour : MethodName := ⟨RX11, "isHour", "(I)Z"⟩
abbrev cX11_crossingAt : ByteArray := prog_1_method_52_code
def yX11_crossingAt : MethodName := ⟨RX11, "crossingAt", "(J)LStandingUp$Crossing;"⟩
abbrev cX11_rowerAt : ByteArray := prog_1_method_53_code
def yX11_rowerAt : MethodName := ⟨RX11, "rowerAt", "(I)LStandingUp$Rower;"⟩
abbrev cX11_oneOf : ByteArray := prog_1_method_54_code
def yX11_oneOf : MethodName := ⟨RX11, "oneOf", "(I)LStandingUp$Rower;"⟩
abbrev cX11_otherOf : ByteArray := prog_1_method_55_code
def yX11_otherOf : MethodName := ⟨RX11, "otherOf", "(I)LStandingUp$Rower;"⟩
abbrev cX11_sheetAt : ByteArray := prog_1_method_56_code
def yX11_sheetAt : MethodName := ⟨RX11, "sheetAt", "(I)LStandingUp$Sheet;"⟩
def RX12 : String := "StandingUpModel"
def TX12 : u_T := fun k => match k with
  | 0 => ("StandingUpModel", "thrown", "I", false)
  | 1 => ("StandingUpModel", "texts", "[I", true)
  | 2 => ("StandingUpModel", "textSize", "[I", true)
  | 3 => ("StandingUpModel", "textCount", "I", false)
  | 4 => ("StandingUpModel", "rule", "I", false)
  | 5 => ("StandingUpModel", "tape", "[I", true)
  | 6 => ("StandingUpModel", "taped", "I", false)
  | 7 => ("StandingUpModel", "strokes", "[I", true)
  | 8 => ("StandingUpModel", "landings", "[I", true)
  | 9 => ("StandingUpModel", "isOpen", "[I", true)
  | 10 => ("StandingUpModel", "heads", "[I", true)
  | 11 => ("StandingUpModel", "crossings", "I", false)
  | 12 => ("StandingUpModel", "tide", "I", false)
  | 13 => ("StandingUpModel", "wash", "I", false)
  | 14 => ("StandingUpModel", "kind", "[I", true)
  | 15 => ("StandingUpModel", "age", "[I", true)
  | 16 => ("StandingUpModel", "number", "[I", true)
  | 17 => ("StandingUpModel", "crossingOf", "[I", true)
  | 18 => ("StandingUpModel", "father", "[I", true)
  | 19 => ("StandingUpModel", "isIll", "[I", true)
  | 20 => ("StandingUpModel", "turnsOf", "[I", true)
  | 21 => ("StandingUpModel", "rowerMany", "I", false)
  | 22 => ("StandingUpModel", "from", "I", false)
  | 23 => ("StandingUpModel", "size", "I", false)
  | 24 => ("StandingUpModel", "token", "I", false)
  | 25 => ("StandingUpModel", "tokenAt", "I", false)
  | 26 => ("StandingUpModel", "tokenWorth", "J", false)
  | 27 => ("StandingUpModel", "here", "I", false)
  | 28 => ("StandingUpModel", "open", "I", false)
  | 29 => ("StandingUpModel", "bad", "Z", false)
  | 30 => ("StandingUpModel", "fault", "I", false)
  | 31 => ("StandingUpModel", "aboutHeads", "I", false)
  | 32 => ("StandingUpModel", "aboutAge", "I", false)
  | 33 => ("StandingUpModel", "aboutHour", "I", false)
  | 34 => ("StandingUpModel", "aboutTurns", "I", false)
  | 35 => ("StandingUpModel", "sums", "[I", true)
  | 36 => ("StandingUpModel", "sumsNext", "[I", true)
  | 37 => ("StandingUpModel", "puts", "[I", true)
  | 38 => ("StandingUpModel", "putsNext", "[I", true)
  | 39 => ("StandingUpModel", "aside", "[I", true)
  | 40 => ("StandingUpModel", "paths", "[I", true)
  | 41 => ("StandingUpModel", "feet", "[I", true)
  | 42 => ("StandingUpModel", "feetNow", "[I", true)
  | 43 => ("StandingUpModel", "imageOpen", "[I", true)
  | 44 => ("StandingUpModel", "imageHeads", "[I", true)
  | 45 => ("StandingUpModel", "imageIll", "[I", true)
  | 46 => ("StandingUpModel", "imageTurns", "[I", true)
  | 47 => ("StandingUpModel", "imagePaths", "[I", true)
  | 48 => ("StandingUpModel", "hasImage", "Z", false)
  | 49 => ("StandingUpModel", "imageCrossings", "I", false)
  | 50 => ("StandingUpModel", "imageRowers", "I", false)
  | 51 => ("StandingUpModel", "imageTide", "I", false)
  | 52 => ("StandingUpModel", "imageWash", "I", false)
  | 53 => ("StandingUpModel", "imageRule", "I", false)
  | 54 => ("StandingUpModel", "isThere", "[Z", true)
  | 55 => ("StandingUpModel", "sorts", "[I", true)
  | 56 => ("StandingUpModel", "sheetSize", "[I", true)
  | _ => ("StandingUpModel", "items", "[I", true)
def tyX12 : Nat → FieldType := fun k => match k with
  | 0 => .int
  | 1 => .array .int
  | 2 => .array .int
  | 3 => .int
  | 4 => .int
  | 5 => .array .int
  | 6 => .int
  | 7 => .array .int
  | 8 => .array .int
  | 9 => .array .int
  | 10 => .array .int
  | 11 => .int
  | 12 => .int
  | 13 => .int
  | 14 => .array .int
  | 15 => .array .int
  | 16 => .array .int
  | 17 => .array .int
  | 18 => .array .int
  | 19 => .array .int
  | 20 => .array .int
  | 21 => .int
  | 22 => .int
  | 23 => .int
  | 24 => .int
  | 25 => .int
  | 26 => .long
  | 27 => .int
  | 28 => .int
  | 29 => .boolean
  | 30 => .int
  | 31 => .int
  | 32 => .int
  | 33 => .int
  | 34 => .int
  | 35 => .array .int
  | 36 => .array .int
  | 37 => .array .int
  | 38 => .array .int
  | 39 => .array .int
  | 40 => .array .int
  | 41 => .array .int
  | 42 => .array .int
  | 43 => .array .int
  | 44 => .array .int
  | 45 => .array .int
  | 46 => .array .int
  | 47 => .array .int
  | 48 => .boolean
  | 49 => .int
  | 50 => .int
  | 51 => .int
  | 52 => .int
  | 53 => .int
  | 54 => .array .boolean
  | 55 => .array .int
  | 56 => .array .int
  | _ => .array .int
theorem nmX12 : ∀ a, a < 58 → ∀ b, b < 58 → a ≠ b → (TX12 a).2.1 ≠ (TX12 b).2.1 := by decide +kernel
theorem tyX12_ok : ∀ k, k < 58 → parseFieldDescriptor (TX12 k).2.2.1 = some (tyX12 k) := by decide +kernel
abbrev cX12_in : ByteArray := prog_14_method_2_code
def yX12_in : MethodName := ⟨RX12, "in", "(JJJ)Z"⟩
abbrev cX12_init : ByteArray := prog_14_method_3_code
def yX12_init : MethodName := ⟨RX12, "<init>", "()V"⟩
abbrev cX12_spell : ByteArray := prog_14_method_4_code
def yX12_spell : MethodName := ⟨RX12, "spell", "(IJ)V"⟩
abbrev cX12_isCrossing : ByteArray := prog_14_method_5_code
def yX12_isCrossing : MethodName := ⟨RX12, "isCrossing", "(I)Z"⟩
abbrev cX12_isRower : ByteArray := prog_14_method_6_code
def yX12_isRower : MethodName := ⟨RX12, "isRower", "(I)Z"⟩
abbrev cX12_isHour : ByteArray := prog_14_method_7_code
def yX12_isHour : MethodName := ⟨RX12, "isHour", "(I)Z"⟩
abbrev cX12_areLandings : ByteArray := prog_14_method_8_code
def yX12_areLandings : MethodName := ⟨RX12, "areLandings", "(I)Z"⟩
abbrev cX12_crossing : ByteArray := prog_14_method_9_code
def yX12_crossing : MethodName := ⟨RX12, "crossing", "(II)I"⟩
abbrev cX12_set : ByteArray := prog_14_method_10_code
def yX12_set : MethodName := ⟨RX12, "set", "(II)I"⟩
abbrev cX12_rower : ByteArray := prog_14_method_11_code
def yX12_rower : MethodName := ⟨RX12, "rower", "(III)I"⟩
abbrev cX12_ill : ByteArray := prog_14_method_12_code
def yX12_ill : MethodName := ⟨RX12, "ill", "(II)I"⟩
abbrev cX12_paceOf : ByteArray := prog_14_method_13_code
def yX12_paceOf : MethodName := ⟨RX12, "paceOf", "(I)I"⟩
abbrev cX12_may : ByteArray := prog_14_method_14_code
def yX12_may : MethodName := ⟨RX12, "may", "(II)Z"⟩
abbrev cX12_partsOf : ByteArray := prog_14_method_15_code
def yX12_partsOf : MethodName := ⟨RX12, "partsOf", "(I)I"⟩
abbrev cX12_told : ByteArray := prog_14_method_16_code
def yX12_told : MethodName := ⟨RX12, "told", "(III)I"⟩
abbrev cX12_feed : ByteArray := prog_14_method_17_code
def yX12_feed : MethodName := ⟨RX12, "feed", "(IJ)I"⟩
abbrev cX12_byteAt : ByteArray := prog_14_method_18_code
def yX12_byteAt : MethodName := ⟨RX12, "byteAt", "(I)I"⟩
abbrev cX12_next : ByteArray := prog_14_method_19_code
def yX12_next : MethodName := ⟨RX12, "next", "()V"⟩
abbrev cX12_fail : ByteArray := prog_14_method_20_code
def yX12_fail : MethodName := ⟨RX12, "fail", "()V"⟩
abbrev cX12_isWord : ByteArray := prog_14_method_21_code
def yX12_isWord : MethodName := ⟨RX12, "isWord", "(J)Z"⟩
abbrev cX12_isSign : ByteArray := prog_14_method_22_code
def yX12_isSign : MethodName := ⟨RX12, "isSign", "(I)Z"⟩
abbrev cX12_opens : ByteArray := prog_14_method_23_code
def yX12_opens : MethodName := ⟨RX12, "opens", "()Z"⟩
abbrev cX12_name : ByteArray := prog_14_method_24_code
def yX12_name : MethodName := ⟨RX12, "name", "()I"⟩
abbrev cX12_one : ByteArray := prog_14_method_25_code
def yX12_one : MethodName := ⟨RX12, "one", "()I"⟩
abbrev cX12_term : ByteArray := prog_14_method_26_code
def yX12_term : MethodName := ⟨RX12, "term", "()I"⟩
abbrev cX12_added : ByteArray := prog_14_method_27_code
def yX12_added : MethodName := ⟨RX12, "added", "()I"⟩
abbrev cX12_not : ByteArray := prog_14_method_28_code
def yX12_not : MethodName := ⟨RX12, "not", "()I"⟩
abbrev cX12_both : ByteArray := prog_14_method_29_code
def yX12_both : MethodName := ⟨RX12, "both", "()I"⟩
abbrev cX12_either : ByteArray := prog_14_method_30_code
def yX12_either : MethodName := ⟨RX12, "either", "()I"⟩
abbrev cX12_part : ByteArray := prog_14_method_31_code
def yX12_part : MethodName := ⟨RX12, "part", "(J)I"⟩
abbrev cX12_read : ByteArray := prog_14_method_32_code
def yX12_read : MethodName := ⟨RX12, "read", "(IIIIII)I"⟩
abbrev cX12_within : ByteArray := prog_14_method_33_code
def yX12_within : MethodName := ⟨RX12, "within", "(III)I"⟩
abbrev cX12_dueOf : ByteArray := prog_14_method_34_code
def yX12_dueOf : MethodName := ⟨RX12, "dueOf", "(II)I"⟩
abbrev cX12_text : ByteArray := prog_14_method_35_code
def yX12_text : MethodName := ⟨RX12, "text", "()I"⟩
abbrev cX12_force : ByteArray := prog_14_method_36_code
def yX12_force : MethodName := ⟨RX12, "force", "(I)I"⟩
abbrev cX12_areTwo : ByteArray := prog_14_method_37_code
def yX12_areTwo : MethodName := ⟨RX12, "areTwo", "(I)Z"⟩
abbrev cX12_load : ByteArray := prog_14_method_38_code
def yX12_load : MethodName := ⟨RX12, "load", "(III)I"⟩
abbrev cX12_takes : ByteArray := prog_14_method_39_code
def yX12_takes : MethodName := ⟨RX12, "takes", "(II)I"⟩
abbrev cX12_tail : ByteArray := prog_14_method_40_code
def yX12_tail : MethodName := ⟨RX12, "tail", "(IIII)I"⟩
abbrev cX12_waits : ByteArray := prog_14_method_41_code
def yX12_waits : MethodName := ⟨RX12, "waits", "(IIII)I"⟩
abbrev cX12_minute : ByteArray := prog_14_method_42_code
def yX12_minute : MethodName := ⟨RX12, "minute", "(IIIIIIZ)V"⟩
abbrev cX12_foremost : ByteArray := prog_14_method_43_code
def yX12_foremost : MethodName := ⟨RX12, "foremost", "(III)I"⟩
abbrev cX12_turnOf : ByteArray := prog_14_method_44_code
def yX12_turnOf : MethodName := ⟨RX12, "turnOf", "(II)I"⟩
abbrev cX12_turn : ByteArray := prog_14_method_45_code
def yX12_turn : MethodName := ⟨RX12, "turn", "(II)I"⟩
abbrev cX12_rowed : ByteArray := prog_14_method_46_code
def yX12_rowed : MethodName := ⟨RX12, "rowed", "(II)I"⟩
abbrev cX12_judge : ByteArray := prog_14_method_47_code
def yX12_judge : MethodName := ⟨RX12, "judge", "(II)I"⟩
abbrev cX12_isAhead : ByteArray := prog_14_method_48_code
def yX12_isAhead : MethodName := ⟨RX12, "isAhead", "(II)Z"⟩
abbrev cX12_heir : ByteArray := prog_14_method_49_code
def yX12_heir : MethodName := ⟨RX12, "heir", "(II)I"⟩
abbrev cX12_open : ByteArray := prog_14_method_50_code
def yX12_open : MethodName := ⟨RX12, "open", "(II)I"⟩
abbrev cX12_path : ByteArray := prog_14_method_51_code
def yX12_path : MethodName := ⟨RX12, "path", "(II)I"⟩
abbrev cX12_walks : ByteArray := prog_14_method_52_code
def yX12_walks : MethodName := ⟨RX12, "walks", "()V"⟩
abbrev cX12_foot : ByteArray := prog_14_method_53_code
def yX12_foot : MethodName := ⟨RX12, "foot", "(I)I"⟩
abbrev cX12_lost : ByteArray := prog_14_method_54_code
def yX12_lost : MethodName := ⟨RX12, "lost", "(I)I"⟩
abbrev cX12_isBoat : ByteArray := prog_14_method_55_code
def yX12_isBoat : MethodName := ⟨RX12, "isBoat", "(I)Z"⟩
abbrev cX12_onward : ByteArray := prog_14_method_56_code
def yX12_onward : MethodName := ⟨RX12, "onward", "(II)I"⟩
abbrev cX12_fog : ByteArray := prog_14_method_57_code
def yX12_fog : MethodName := ⟨RX12, "fog", "(IIII)I"⟩
abbrev cX12_plain : ByteArray := prog_14_method_58_code
def yX12_plain : MethodName := ⟨RX12, "plain", "(I)I"⟩
abbrev cX12_priceOf : ByteArray := prog_14_method_59_code
def yX12_priceOf : MethodName := ⟨RX12, "priceOf", "(II)I"⟩
abbrev cX12_box : ByteArray := prog_14_method_60_code
def yX12_box : MethodName := ⟨RX12, "box", "(IIII)I"⟩
abbrev cX12_shares : ByteArray := prog_14_method_61_code
def yX12_shares : MethodName := ⟨RX12, "shares", "(III)I"⟩
abbrev cX12_bridge : ByteArray := prog_14_method_62_code
def yX12_bridge : MethodName := ⟨RX12, "bridge", "(II)I"⟩
abbrev cX12_image : ByteArray := prog_14_method_63_code
def yX12_image : MethodName := ⟨RX12, "image", "()I"⟩
abbrev cX12_back : ByteArray := prog_14_method_64_code
def yX12_back : MethodName := ⟨RX12, "back", "()I"⟩
abbrev cX12_count : ByteArray := prog_14_method_65_code
def yX12_count : MethodName := ⟨RX12, "count", "(I)I"⟩
abbrev cX12_isSheet : ByteArray := prog_14_method_66_code
def yX12_isSheet : MethodName := ⟨RX12, "isSheet", "(I)Z"⟩
abbrev cX12_sheet : ByteArray := prog_14_method_67_code
def yX12_sheet : MethodName := ⟨RX12, "sheet", "(III)I"⟩
abbrev cX12_cell : ByteArray := prog_14_method_68_code
def yX12_cell : MethodName := ⟨RX12, "cell", "(III)I"⟩
abbrev cX12_copy : ByteArray := prog_14_method_69_code
def yX12_copy : MethodName := ⟨RX12, "copy", "(IIIII)I"⟩
abbrev cX12_rowers : ByteArray := prog_14_method_70_code
def yX12_rowers : MethodName := ⟨RX12, "rowers", "(IIII)I"⟩
abbrev cX12_over : ByteArray := prog_14_method_71_code
def yX12_over : MethodName := ⟨RX12, "over", "(I)I"⟩
abbrev cX12_taken : ByteArray := prog_14_method_72_code
def yX12_taken : MethodName := ⟨RX12, "taken", "(II)I"⟩
def RJx145de : String := "java/io/Serializable"
def RJx9f9b0 : String := "java/lang/CharSequence"
def RJ11 : String := "java/lang/Character"
abbrev cJ11_isValidCodePoint_9a6ad : ByteArray := prog_15_method_11_code
def yJ11_isValidCodePoint_9a6ad : MethodName := ⟨RJ11, "isValidCodePoint", "(I)Z"⟩
abbrev cJ11_highSurrogate_5068e : ByteArray := prog_15_method_28_code
def yJ11_highSurrogate_5068e : MethodName := ⟨RJ11, "highSurrogate", "(I)C"⟩
abbrev cJ11_lowSurrogate_5068e : ByteArray := prog_15_method_29_code
def yJ11_lowSurrogate_5068e : MethodName := ⟨RJ11, "lowSurrogate", "(I)C"⟩
def RJxb160c : String := "java/lang/Comparable"
def RJ9 : String := "java/lang/Math"
abbrev cJ9_abs_0f7a4 : ByteArray := prog_16_method_59_code
def yJ9_abs_0f7a4 : MethodName := ⟨RJ9, "abs", "(I)I"⟩
abbrev cJ9_max_7cf53 : ByteArray := prog_16_method_65_code
def yJ9_max_7cf53 : MethodName := ⟨RJ9, "max", "(II)I"⟩
abbrev cJ9_min_7cf53 : ByteArray := prog_16_method_69_code
def yJ9_min_7cf53 : MethodName := ⟨RJ9, "min", "(II)I"⟩
abbrev cJ9_min_f86c9 : ByteArray := prog_16_method_70_code
def yJ9_min_f86c9 : MethodName := ⟨RJ9, "min", "(JJ)J"⟩
def RJ0 : String := "java/lang/String"
abbrev cJ0_length_8abf5 : ByteArray := prog_17_method_54_code
def yJ0_length_8abf5 : MethodName := ⟨RJ0, "length", "()I"⟩
abbrev cJ0_charAt_5068e : ByteArray := prog_17_method_56_code
def yJ0_charAt_5068e : MethodName := ⟨RJ0, "charAt", "(I)C"⟩
abbrev cJ0_indexOf_0f7a4 : ByteArray := prog_17_method_79_code
def yJ0_indexOf_0f7a4 : MethodName := ⟨RJ0, "indexOf", "(I)I"⟩
abbrev cJ0_indexOf_7cf53 : ByteArray := prog_17_method_80_code
def yJ0_indexOf_7cf53 : MethodName := ⟨RJ0, "indexOf", "(II)I"⟩
abbrev cJ0_coder_7d493 : ByteArray := prog_17_method_152_code
def yJ0_coder_7d493 : MethodName := ⟨RJ0, "coder", "()B"⟩
abbrev cJ0_isLatin1_aae02 : ByteArray := prog_17_method_154_code
def yJ0_isLatin1_aae02 : MethodName := ⟨RJ0, "isLatin1", "()Z"⟩
abbrev cJ0_checkIndex_df160 : ByteArray := prog_17_method_155_code
def yJ0_checkIndex_df160 : MethodName := ⟨RJ0, "checkIndex", "(II)V"⟩
abbrev cJ0_checkBoundsBeginEnd_23922 : ByteArray := prog_17_method_158_code
def yJ0_checkBoundsBeginEnd_23922 : MethodName := ⟨RJ0, "checkBoundsBeginEnd", "(III)V"⟩
def RJ1 : String := "java/lang/StringLatin1"
abbrev cJ1_charAt_3b067 : ByteArray := prog_18_method_2_code
def yJ1_charAt_3b067 : MethodName := ⟨RJ1, "charAt", "([BI)C"⟩
abbrev cJ1_canEncode_9a6ad : ByteArray := prog_18_method_4_code
def yJ1_canEncode_9a6ad : MethodName := ⟨RJ1, "canEncode", "(I)Z"⟩
abbrev cJ1_indexOf_4cfef : ByteArray := prog_18_method_22_code
def yJ1_indexOf_4cfef : MethodName := ⟨RJ1, "indexOf", "([BIII)I"⟩
abbrev cJ1_indexOfChar_4cfef : ByteArray := prog_18_method_23_code
def yJ1_indexOfChar_4cfef : MethodName := ⟨RJ1, "indexOfChar", "([BIII)I"⟩
def RJ2 : String := "java/lang/StringUTF16"
abbrev cJ2_getChar_3b067 : ByteArray := prog_19_method_5_code
def yJ2_getChar_3b067 : MethodName := ⟨RJ2, "getChar", "([BI)C"⟩
abbrev cJ2_length_9d52b : ByteArray := prog_19_method_6_code
def yJ2_length_9d52b : MethodName := ⟨RJ2, "length", "([B)I"⟩
abbrev cJ2_indexOf_4cfef : ByteArray := prog_19_method_40_code
def yJ2_indexOf_4cfef : MethodName := ⟨RJ2, "indexOf", "([BIII)I"⟩
abbrev cJ2_indexOfChar_4cfef : ByteArray := prog_19_method_47_code
def yJ2_indexOfChar_4cfef : MethodName := ⟨RJ2, "indexOfChar", "([BIII)I"⟩
abbrev cJ2_indexOfCharUnsafe_4cfef : ByteArray := prog_19_method_48_code
def yJ2_indexOfCharUnsafe_4cfef : MethodName := ⟨RJ2, "indexOfCharUnsafe", "([BIII)I"⟩
abbrev cJ2_indexOfSupplementary_4cfef : ByteArray := prog_19_method_49_code
def yJ2_indexOfSupplementary_4cfef : MethodName := ⟨RJ2, "indexOfSupplementary", "([BIII)I"⟩
abbrev cJ2_charAt_3b067 : ByteArray := prog_19_method_83_code
def yJ2_charAt_3b067 : MethodName := ⟨RJ2, "charAt", "([BI)C"⟩
abbrev cJ2_checkIndex_2214a : ByteArray := prog_19_method_91_code
def yJ2_checkIndex_2214a : MethodName := ⟨RJ2, "checkIndex", "(I[B)V"⟩
abbrev cJ2_checkBoundsBeginEnd_d044e : ByteArray := prog_19_method_93_code
def yJ2_checkBoundsBeginEnd_d044e : MethodName := ⟨RJ2, "checkBoundsBeginEnd", "(II[B)V"⟩
def RJ10 : String := "java/lang/System"
def RJxfd54e : String := "java/lang/constant/Constable"
def RJx3cf43 : String := "java/lang/constant/ConstantDesc"
def RJ7 : String := "java/util/Arrays"
abbrev cJ7_fill_53178 : ByteArray := prog_21_method_103_code
def yJ7_fill_53178 : MethodName := ⟨RJ7, "fill", "([II)V"⟩
def RJ3 : String := "jdk/internal/util/Preconditions"
abbrev cJ3_checkIndex_8e157 : ByteArray := prog_22_method_11_code
def yJ3_checkIndex_8e157 : MethodName := ⟨RJ3, "checkIndex", "(IILjava/util/function/BiFunction;)I"⟩
abbrev cJ3_checkFromToIndex_8c36e : ByteArray := prog_22_method_12_code
def yJ3_checkFromToIndex_8c36e : MethodName := ⟨RJ3, "checkFromToIndex", "(IIILjava/util/function/BiFunction;)I"⟩
def RL : String := "StandingUpLaw"
abbrev cL_law : ByteArray := code
def yL_law : MethodName := ⟨RL, "law", "([I)Z"⟩
end
section
theorem dX0_init_0 : decode cX0_init 0 = .ok (.aload_n 0, 1) := by decide +kernel
theorem dX0_init_1 : decode cX0_init 1 = .ok (.invokespecial 3, 3) := by decide +kernel
theorem dX0_init_4 : decode cX0_init 4 = .ok (.aload_n 0, 1) := by decide +kernel
theorem dX0_init_5 : decode cX0_init 5 = .ok (.bipush 42, 2) := by decide +kernel
theorem dX0_init_7 : decode cX0_init 7 = .ok (.newarray .int, 2) := by decide +kernel
theorem dX0_init_9 : decode cX0_init 9 = .ok (.putfield 9, 3) := by decide +kernel
theorem dX0_init_12 : decode cX0_init 12 = .ok (.aload_n 0, 1) := by decide +kernel
theorem dX0_init_13 : decode cX0_init 13 = .ok (.bipush 43, 2) := by decide +kernel
theorem dX0_init_15 : decode cX0_init 15 = .ok (.newarray .int, 2) := by decide +kernel
theorem dX0_init_17 : decode cX0_init 17 = .ok (.putfield 13, 3) := by decide +kernel
theorem dX0_init_20 : decode cX0_init 20 = .ok (.aload_n 0, 1) := by decide +kernel
theorem dX0_init_21 : decode cX0_init 21 = .ok (.sipush 3720, 3) := by decide +kernel
theorem dX0_init_24 : decode cX0_init 24 = .ok (.newarray .long, 2) := by decide +kernel
theorem dX0_init_26 : decode cX0_init 26 = .ok (.putfield 16, 3) := by decide +kernel
theorem dX0_init_29 : decode cX0_init 29 = .ok (.return_, 1) := by decide +kernel
theorem dX0_waitsOf_0 : decode cX0_waitsOf 0 = .ok (.lload_n 0, 1) := by decide +kernel
theorem dX0_waitsOf_1 : decode cX0_waitsOf 1 = .ok (.ldc2_w 20, 3) := by decide +kernel
theorem dX0_waitsOf_4 : decode cX0_waitsOf 4 = .ok (.ldiv, 1) := by decide +kernel
theorem dX0_waitsOf_5 : decode cX0_waitsOf 5 = .ok (.l2i, 1) := by decide +kernel
theorem dX0_waitsOf_6 : decode cX0_waitsOf 6 = .ok (.ireturn, 1) := by decide +kernel
theorem dX0_minutesOf_0 : decode cX0_minutesOf 0 = .ok (.lload_n 0, 1) := by decide +kernel
theorem dX0_minutesOf_1 : decode cX0_minutesOf 1 = .ok (.ldc2_w 20, 3) := by decide +kernel
theorem dX0_minutesOf_4 : decode cX0_minutesOf 4 = .ok (.lrem, 1) := by decide +kernel
theorem dX0_minutesOf_5 : decode cX0_minutesOf 5 = .ok (.l2i, 1) := by decide +kernel
theorem dX0_minutesOf_6 : decode cX0_minutesOf 6 = .ok (.ireturn, 1) := by decide +kernel
theorem dX0_awaits_0 : decode cX0_awaits 0 = .ok (.aload_n 1, 1) := by decide +kernel
theorem dX0_awaits_1 : decode cX0_awaits 1 = .ok (.getfield 22, 3) := by decide +kernel
theorem dX0_awaits_4 : decode cX0_awaits 4 = .ok (.iconst 1, 1) := by decide +kernel
theorem dX0_awaits_5 : decode cX0_awaits 5 = .ok (.if_icmp .lt 12, 3) := by decide +kernel
theorem dX0_awaits_8 : decode cX0_awaits 8 = .ok (.aload_n 1, 1) := by decide +kernel
theorem dX0_awaits_9 : decode cX0_awaits 9 = .ok (.getfield 22, 3) := by decide +kernel
theorem dX0_awaits_12 : decode cX0_awaits 12 = .ok (.bipush 24, 2) := by decide +kernel
theorem dX0_awaits_14 : decode cX0_awaits 14 = .ok (.if_icmp .le 5, 3) := by decide +kernel
theorem dX0_awaits_17 : decode cX0_awaits 17 = .ok (.iconst 0, 1) := by decide +kernel
theorem dX0_awaits_18 : decode cX0_awaits 18 = .ok (.ireturn, 1) := by decide +kernel
theorem dX0_awaits_19 : decode cX0_awaits 19 = .ok (.iconst 0, 1) := by decide +kernel
theorem dX0_awaits_20 : decode cX0_awaits 20 = .ok (.istore_n 2, 1) := by decide +kernel
theorem dX0_awaits_21 : decode cX0_awaits 21 = .ok (.iconst 0, 1) := by decide +kernel
theorem dX0_awaits_22 : decode cX0_awaits 22 = .ok (.istore_n 3, 1) := by decide +kernel
theorem dX0_awaits_23 : decode cX0_awaits 23 = .ok (.iload_n 3, 1) := by decide +kernel
theorem dX0_awaits_24 : decode cX0_awaits 24 = .ok (.aload_n 0, 1) := by decide +kernel
theorem dX0_awaits_25 : decode cX0_awaits 25 = .ok (.getfield 9, 3) := by decide +kernel
theorem dX0_awaits_28 : decode cX0_awaits 28 = .ok (.arraylength, 1) := by decide +kernel
theorem dX0_awaits_29 : decode cX0_awaits 29 = .ok (.if_icmp .ge 70, 3) := by decide +kernel
theorem dX0_awaits_32 : decode cX0_awaits 32 = .ok (.iload_n 3, 1) := by decide +kernel
theorem dX0_awaits_33 : decode cX0_awaits 33 = .ok (.aload_n 1, 1) := by decide +kernel
theorem dX0_awaits_34 : decode cX0_awaits 34 = .ok (.getfield 22, 3) := by decide +kernel
theorem dX0_awaits_37 : decode cX0_awaits 37 = .ok (.if_icmp .ge 11, 3) := by decide +kernel
theorem dX0_awaits_40 : decode cX0_awaits 40 = .ok (.aload_n 1, 1) := by decide +kernel
theorem dX0_awaits_41 : decode cX0_awaits 41 = .ok (.iload_n 3, 1) := by decide +kernel
theorem dX0_awaits_42 : decode cX0_awaits 42 = .ok (.invokevirtual 28, 3) := by decide +kernel
theorem dX0_awaits_45 : decode cX0_awaits 45 = .ok (.goto 4, 3) := by decide +kernel
theorem dX0_awaits_48 : decode cX0_awaits 48 = .ok (.iconst 0, 1) := by decide +kernel
theorem dX0_awaits_49 : decode cX0_awaits 49 = .ok (.istore 4, 2) := by decide +kernel
theorem dX0_awaits_51 : decode cX0_awaits 51 = .ok (.iload 4, 2) := by decide +kernel
theorem dX0_awaits_53 : decode cX0_awaits 53 = .ok (.ifCond .lt 10, 3) := by decide +kernel
theorem dX0_awaits_56 : decode cX0_awaits 56 = .ok (.iload 4, 2) := by decide +kernel
theorem dX0_awaits_58 : decode cX0_awaits 58 = .ok (.bipush 20, 2) := by decide +kernel
theorem dX0_awaits_60 : decode cX0_awaits 60 = .ok (.if_icmp .le 5, 3) := by decide +kernel
theorem dX0_awaits_63 : decode cX0_awaits 63 = .ok (.iconst 0, 1) := by decide +kernel
theorem dX0_awaits_64 : decode cX0_awaits 64 = .ok (.ireturn, 1) := by decide +kernel
theorem dX0_awaits_65 : decode cX0_awaits 65 = .ok (.iload_n 2, 1) := by decide +kernel
theorem dX0_awaits_66 : decode cX0_awaits 66 = .ok (.iload 4, 2) := by decide +kernel
theorem dX0_awaits_68 : decode cX0_awaits 68 = .ok (.iadd, 1) := by decide +kernel
theorem dX0_awaits_69 : decode cX0_awaits 69 = .ok (.istore_n 2, 1) := by decide +kernel
theorem dX0_awaits_70 : decode cX0_awaits 70 = .ok (.aload_n 0, 1) := by decide +kernel
theorem dX0_awaits_71 : decode cX0_awaits 71 = .ok (.getfield 9, 3) := by decide +kernel
theorem dX0_awaits_74 : decode cX0_awaits 74 = .ok (.iload_n 3, 1) := by decide +kernel
theorem dX0_awaits_75 : decode cX0_awaits 75 = .ok (.iload_n 2, 1) := by decide +kernel
theorem dX0_awaits_76 : decode cX0_awaits 76 = .ok (.iastore, 1) := by decide +kernel
theorem dX0_awaits_77 : decode cX0_awaits 77 = .ok (.aload_n 0, 1) := by decide +kernel
theorem dX0_awaits_78 : decode cX0_awaits 78 = .ok (.getfield 13, 3) := by decide +kernel
theorem dX0_awaits_81 : decode cX0_awaits 81 = .ok (.iload_n 3, 1) := by decide +kernel
theorem dX0_awaits_82 : decode cX0_awaits 82 = .ok (.iconst 1, 1) := by decide +kernel
theorem dX0_awaits_83 : decode cX0_awaits 83 = .ok (.iadd, 1) := by decide +kernel
theorem dX0_awaits_84 : decode cX0_awaits 84 = .ok (.aload_n 0, 1) := by decide +kernel
theorem dX0_awaits_85 : decode cX0_awaits 85 = .ok (.getfield 13, 3) := by decide +kernel
theorem dX0_awaits_88 : decode cX0_awaits 88 = .ok (.iload_n 3, 1) := by decide +kernel
theorem dX0_awaits_89 : decode cX0_awaits 89 = .ok (.iaload, 1) := by decide +kernel
theorem dX0_awaits_90 : decode cX0_awaits 90 = .ok (.iload_n 2, 1) := by decide +kernel
theorem dX0_awaits_91 : decode cX0_awaits 91 = .ok (.iadd, 1) := by decide +kernel
theorem dX0_awaits_92 : decode cX0_awaits 92 = .ok (.iastore, 1) := by decide +kernel
theorem dX0_awaits_93 : decode cX0_awaits 93 = .ok (.iinc 3 1, 3) := by decide +kernel
theorem dX0_awaits_96 : decode cX0_awaits 96 = .ok (.goto (-73), 3) := by decide +kernel
theorem dX0_awaits_99 : decode cX0_awaits 99 = .ok (.aload_n 0, 1) := by decide +kernel
theorem dX0_awaits_100 : decode cX0_awaits 100 = .ok (.aload_n 1, 1) := by decide +kernel
theorem dX0_awaits_101 : decode cX0_awaits 101 = .ok (.getfield 22, 3) := by decide +kernel
theorem dX0_awaits_104 : decode cX0_awaits 104 = .ok (.putfield 32, 3) := by decide +kernel
theorem dX0_awaits_107 : decode cX0_awaits 107 = .ok (.iconst 1, 1) := by decide +kernel
theorem dX0_awaits_108 : decode cX0_awaits 108 = .ok (.ireturn, 1) := by decide +kernel
theorem dX0_bestPlan_0 : decode cX0_bestPlan 0 = .ok (.aload_n 0, 1) := by decide +kernel
theorem dX0_bestPlan_1 : decode cX0_bestPlan 1 = .ok (.iconst 2, 1) := by decide +kernel
theorem dX0_bestPlan_2 : decode cX0_bestPlan 2 = .ok (.iload_n 1, 1) := by decide +kernel
theorem dX0_bestPlan_3 : decode cX0_bestPlan 3 = .ok (.imul, 1) := by decide +kernel
theorem dX0_bestPlan_4 : decode cX0_bestPlan 4 = .ok (.putfield 35, 3) := by decide +kernel
theorem dX0_bestPlan_7 : decode cX0_bestPlan 7 = .ok (.aload_n 0, 1) := by decide +kernel
theorem dX0_bestPlan_8 : decode cX0_bestPlan 8 = .ok (.iload_n 2, 1) := by decide +kernel
theorem dX0_bestPlan_9 : decode cX0_bestPlan 9 = .ok (.putfield 38, 3) := by decide +kernel
theorem dX0_bestPlan_12 : decode cX0_bestPlan 12 = .ok (.aload_n 0, 1) := by decide +kernel
theorem dX0_bestPlan_13 : decode cX0_bestPlan 13 = .ok (.getfield 35, 3) := by decide +kernel
theorem dX0_bestPlan_16 : decode cX0_bestPlan 16 = .ok (.iconst 1, 1) := by decide +kernel
theorem dX0_bestPlan_17 : decode cX0_bestPlan 17 = .ok (.if_icmp .lt 11, 3) := by decide +kernel
theorem dX0_bestPlan_20 : decode cX0_bestPlan 20 = .ok (.aload_n 0, 1) := by decide +kernel
theorem dX0_bestPlan_21 : decode cX0_bestPlan 21 = .ok (.getfield 38, 3) := by decide +kernel
theorem dX0_bestPlan_24 : decode cX0_bestPlan 24 = .ok (.iconst 1, 1) := by decide +kernel
theorem dX0_bestPlan_25 : decode cX0_bestPlan 25 = .ok (.if_icmp .ge 5, 3) := by decide +kernel
theorem dX0_bestPlan_28 : decode cX0_bestPlan 28 = .ok (.lconst 0, 1) := by decide +kernel
theorem dX0_bestPlan_29 : decode cX0_bestPlan 29 = .ok (.lreturn, 1) := by decide +kernel
theorem dX0_bestPlan_30 : decode cX0_bestPlan 30 = .ok (.aload_n 0, 1) := by decide +kernel
theorem dX0_bestPlan_31 : decode cX0_bestPlan 31 = .ok (.getfield 32, 3) := by decide +kernel
theorem dX0_bestPlan_34 : decode cX0_bestPlan 34 = .ok (.iconst 1, 1) := by decide +kernel
theorem dX0_bestPlan_35 : decode cX0_bestPlan 35 = .ok (.isub, 1) := by decide +kernel
theorem dX0_bestPlan_36 : decode cX0_bestPlan 36 = .ok (.istore_n 3, 1) := by decide +kernel
theorem dX0_bestPlan_37 : decode cX0_bestPlan 37 = .ok (.iload_n 3, 1) := by decide +kernel
theorem dX0_bestPlan_38 : decode cX0_bestPlan 38 = .ok (.ifCond .lt 67, 3) := by decide +kernel
theorem dX0_bestPlan_41 : decode cX0_bestPlan 41 = .ok (.aload_n 0, 1) := by decide +kernel
theorem dX0_bestPlan_42 : decode cX0_bestPlan 42 = .ok (.getfield 9, 3) := by decide +kernel
theorem dX0_bestPlan_45 : decode cX0_bestPlan 45 = .ok (.iload_n 3, 1) := by decide +kernel
theorem dX0_bestPlan_46 : decode cX0_bestPlan 46 = .ok (.iaload, 1) := by decide +kernel
theorem dX0_bestPlan_47 : decode cX0_bestPlan 47 = .ok (.aload_n 0, 1) := by decide +kernel
theorem dX0_bestPlan_48 : decode cX0_bestPlan 48 = .ok (.getfield 38, 3) := by decide +kernel
theorem dX0_bestPlan_51 : decode cX0_bestPlan 51 = .ok (.iload_n 3, 1) := by decide +kernel
theorem dX0_bestPlan_52 : decode cX0_bestPlan 52 = .ok (.aload_n 0, 1) := by decide +kernel
theorem dX0_bestPlan_53 : decode cX0_bestPlan 53 = .ok (.getfield 35, 3) := by decide +kernel
theorem dX0_bestPlan_56 : decode cX0_bestPlan 56 = .ok (.idiv, 1) := by decide +kernel
theorem dX0_bestPlan_57 : decode cX0_bestPlan 57 = .ok (.imul, 1) := by decide +kernel
theorem dX0_bestPlan_58 : decode cX0_bestPlan 58 = .ok (.invokestatic 41, 3) := by decide +kernel
theorem dX0_bestPlan_61 : decode cX0_bestPlan 61 = .ok (.istore 4, 2) := by decide +kernel
theorem dX0_bestPlan_63 : decode cX0_bestPlan 63 = .ok (.iconst 0, 1) := by decide +kernel
theorem dX0_bestPlan_64 : decode cX0_bestPlan 64 = .ok (.istore 5, 2) := by decide +kernel
theorem dX0_bestPlan_66 : decode cX0_bestPlan 66 = .ok (.iload 5, 2) := by decide +kernel
theorem dX0_bestPlan_68 : decode cX0_bestPlan 68 = .ok (.iload 4, 2) := by decide +kernel
theorem dX0_bestPlan_70 : decode cX0_bestPlan 70 = .ok (.if_icmp .gt 29, 3) := by decide +kernel
theorem dX0_bestPlan_73 : decode cX0_bestPlan 73 = .ok (.aload_n 0, 1) := by decide +kernel
theorem dX0_bestPlan_74 : decode cX0_bestPlan 74 = .ok (.getfield 16, 3) := by decide +kernel
theorem dX0_bestPlan_77 : decode cX0_bestPlan 77 = .ok (.iload_n 3, 1) := by decide +kernel
theorem dX0_bestPlan_78 : decode cX0_bestPlan 78 = .ok (.sipush 155, 3) := by decide +kernel
theorem dX0_bestPlan_81 : decode cX0_bestPlan 81 = .ok (.imul, 1) := by decide +kernel
theorem dX0_bestPlan_82 : decode cX0_bestPlan 82 = .ok (.iload 5, 2) := by decide +kernel
theorem dX0_bestPlan_84 : decode cX0_bestPlan 84 = .ok (.iadd, 1) := by decide +kernel
theorem dX0_bestPlan_85 : decode cX0_bestPlan 85 = .ok (.aload_n 0, 1) := by decide +kernel
theorem dX0_bestPlan_86 : decode cX0_bestPlan 86 = .ok (.iload_n 3, 1) := by decide +kernel
theorem dX0_bestPlan_87 : decode cX0_bestPlan 87 = .ok (.iload 5, 2) := by decide +kernel
theorem dX0_bestPlan_89 : decode cX0_bestPlan 89 = .ok (.invokevirtual 47, 3) := by decide +kernel
theorem dX0_bestPlan_92 : decode cX0_bestPlan 92 = .ok (.lastore, 1) := by decide +kernel
theorem dX0_bestPlan_93 : decode cX0_bestPlan 93 = .ok (.iinc 5 1, 3) := by decide +kernel
theorem dX0_bestPlan_96 : decode cX0_bestPlan 96 = .ok (.goto (-30), 3) := by decide +kernel
theorem dX0_bestPlan_99 : decode cX0_bestPlan 99 = .ok (.iinc 3 (-1), 3) := by decide +kernel
theorem dX0_bestPlan_102 : decode cX0_bestPlan 102 = .ok (.goto (-65), 3) := by decide +kernel
theorem dX0_bestPlan_105 : decode cX0_bestPlan 105 = .ok (.aload_n 0, 1) := by decide +kernel
theorem dX0_bestPlan_106 : decode cX0_bestPlan 106 = .ok (.getfield 16, 3) := by decide +kernel
theorem dX0_bestPlan_109 : decode cX0_bestPlan 109 = .ok (.iconst 0, 1) := by decide +kernel
theorem dX0_bestPlan_110 : decode cX0_bestPlan 110 = .ok (.laload, 1) := by decide +kernel
theorem dX0_bestPlan_111 : decode cX0_bestPlan 111 = .ok (.lreturn, 1) := by decide +kernel
theorem dX0_bestFrom_0 : decode cX0_bestFrom 0 = .ok (.aload_n 0, 1) := by decide +kernel
theorem dX0_bestFrom_1 : decode cX0_bestFrom 1 = .ok (.getfield 9, 3) := by decide +kernel
theorem dX0_bestFrom_4 : decode cX0_bestFrom 4 = .ok (.iload_n 1, 1) := by decide +kernel
theorem dX0_bestFrom_5 : decode cX0_bestFrom 5 = .ok (.iaload, 1) := by decide +kernel
theorem dX0_bestFrom_6 : decode cX0_bestFrom 6 = .ok (.iload_n 2, 1) := by decide +kernel
theorem dX0_bestFrom_7 : decode cX0_bestFrom 7 = .ok (.isub, 1) := by decide +kernel
theorem dX0_bestFrom_8 : decode cX0_bestFrom 8 = .ok (.istore_n 3, 1) := by decide +kernel
theorem dX0_bestFrom_9 : decode cX0_bestFrom 9 = .ok (.iload_n 1, 1) := by decide +kernel
theorem dX0_bestFrom_10 : decode cX0_bestFrom 10 = .ok (.aload_n 0, 1) := by decide +kernel
theorem dX0_bestFrom_11 : decode cX0_bestFrom 11 = .ok (.getfield 32, 3) := by decide +kernel
theorem dX0_bestFrom_14 : decode cX0_bestFrom 14 = .ok (.iconst 1, 1) := by decide +kernel
theorem dX0_bestFrom_15 : decode cX0_bestFrom 15 = .ok (.isub, 1) := by decide +kernel
theorem dX0_bestFrom_16 : decode cX0_bestFrom 16 = .ok (.if_icmp .ne 7, 3) := by decide +kernel
theorem dX0_bestFrom_19 : decode cX0_bestFrom 19 = .ok (.iconst 1, 1) := by decide +kernel
theorem dX0_bestFrom_20 : decode cX0_bestFrom 20 = .ok (.goto 4, 3) := by decide +kernel
theorem dX0_bestFrom_23 : decode cX0_bestFrom 23 = .ok (.iconst 0, 1) := by decide +kernel
theorem dX0_bestFrom_24 : decode cX0_bestFrom 24 = .ok (.istore 4, 2) := by decide +kernel
theorem dX0_bestFrom_26 : decode cX0_bestFrom 26 = .ok (.iload_n 3, 1) := by decide +kernel
theorem dX0_bestFrom_27 : decode cX0_bestFrom 27 = .ok (.ifCond .gt 10, 3) := by decide +kernel
theorem dX0_bestFrom_30 : decode cX0_bestFrom 30 = .ok (.iload 4, 2) := by decide +kernel
theorem dX0_bestFrom_32 : decode cX0_bestFrom 32 = .ok (.ifCond .eq 5, 3) := by decide +kernel
theorem dX0_bestFrom_35 : decode cX0_bestFrom 35 = .ok (.lconst 0, 1) := by decide +kernel
theorem dX0_bestFrom_36 : decode cX0_bestFrom 36 = .ok (.lreturn, 1) := by decide +kernel
theorem dX0_bestFrom_37 : decode cX0_bestFrom 37 = .ok (.iload 4, 2) := by decide +kernel
theorem dX0_bestFrom_39 : decode cX0_bestFrom 39 = .ok (.ifCond .eq 10, 3) := by decide +kernel
theorem dX0_bestFrom_42 : decode cX0_bestFrom 42 = .ok (.aload_n 0, 1) := by decide +kernel
theorem dX0_bestFrom_43 : decode cX0_bestFrom 43 = .ok (.iload_n 1, 1) := by decide +kernel
theorem dX0_bestFrom_44 : decode cX0_bestFrom 44 = .ok (.iload_n 2, 1) := by decide +kernel
theorem dX0_bestFrom_45 : decode cX0_bestFrom 45 = .ok (.invokevirtual 51, 3) := by decide +kernel
theorem dX0_bestFrom_48 : decode cX0_bestFrom 48 = .ok (.lreturn, 1) := by decide +kernel
theorem dX0_bestFrom_49 : decode cX0_bestFrom 49 = .ok (.iload_n 3, 1) := by decide +kernel
theorem dX0_bestFrom_50 : decode cX0_bestFrom 50 = .ok (.i2l, 1) := by decide +kernel
theorem dX0_bestFrom_51 : decode cX0_bestFrom 51 = .ok (.ldc2_w 20, 3) := by decide +kernel
theorem dX0_bestFrom_54 : decode cX0_bestFrom 54 = .ok (.lmul, 1) := by decide +kernel
theorem dX0_bestFrom_55 : decode cX0_bestFrom 55 = .ok (.aload_n 0, 1) := by decide +kernel
theorem dX0_bestFrom_56 : decode cX0_bestFrom 56 = .ok (.getfield 16, 3) := by decide +kernel
theorem dX0_bestFrom_59 : decode cX0_bestFrom 59 = .ok (.iload_n 1, 1) := by decide +kernel
theorem dX0_bestFrom_60 : decode cX0_bestFrom 60 = .ok (.iconst 1, 1) := by decide +kernel
theorem dX0_bestFrom_61 : decode cX0_bestFrom 61 = .ok (.iadd, 1) := by decide +kernel
theorem dX0_bestFrom_62 : decode cX0_bestFrom 62 = .ok (.sipush 155, 3) := by decide +kernel
theorem dX0_bestFrom_65 : decode cX0_bestFrom 65 = .ok (.imul, 1) := by decide +kernel
theorem dX0_bestFrom_66 : decode cX0_bestFrom 66 = .ok (.iload_n 2, 1) := by decide +kernel
theorem dX0_bestFrom_67 : decode cX0_bestFrom 67 = .ok (.iadd, 1) := by decide +kernel
theorem dX0_bestFrom_68 : decode cX0_bestFrom 68 = .ok (.laload, 1) := by decide +kernel
theorem dX0_bestFrom_69 : decode cX0_bestFrom 69 = .ok (.ladd, 1) := by decide +kernel
theorem dX0_bestFrom_70 : decode cX0_bestFrom 70 = .ok (.lstore 5, 2) := by decide +kernel
theorem dX0_bestFrom_72 : decode cX0_bestFrom 72 = .ok (.iload_n 3, 1) := by decide +kernel
theorem dX0_bestFrom_73 : decode cX0_bestFrom 73 = .ok (.ifCond .gt 8, 3) := by decide +kernel
theorem dX0_bestFrom_76 : decode cX0_bestFrom 76 = .ok (.lload 5, 2) := by decide +kernel
theorem dX0_bestFrom_78 : decode cX0_bestFrom 78 = .ok (.goto 14, 3) := by decide +kernel
theorem dX0_bestFrom_81 : decode cX0_bestFrom 81 = .ok (.lload 5, 2) := by decide +kernel
theorem dX0_bestFrom_83 : decode cX0_bestFrom 83 = .ok (.aload_n 0, 1) := by decide +kernel
theorem dX0_bestFrom_84 : decode cX0_bestFrom 84 = .ok (.iload_n 1, 1) := by decide +kernel
theorem dX0_bestFrom_85 : decode cX0_bestFrom 85 = .ok (.iload_n 2, 1) := by decide +kernel
theorem dX0_bestFrom_86 : decode cX0_bestFrom 86 = .ok (.invokevirtual 51, 3) := by decide +kernel
theorem dX0_bestFrom_89 : decode cX0_bestFrom 89 = .ok (.invokestatic 54, 3) := by decide +kernel
theorem dX0_bestFrom_92 : decode cX0_bestFrom 92 = .ok (.lreturn, 1) := by decide +kernel
theorem dX0_planPuttingOff_0 : decode cX0_planPuttingOff 0 = .ok (.iload_n 2, 1) := by decide +kernel
theorem dX0_planPuttingOff_1 : decode cX0_planPuttingOff 1 = .ok (.aload_n 0, 1) := by decide +kernel
theorem dX0_planPuttingOff_2 : decode cX0_planPuttingOff 2 = .ok (.getfield 9, 3) := by decide +kernel
theorem dX0_planPuttingOff_5 : decode cX0_planPuttingOff 5 = .ok (.iload_n 1, 1) := by decide +kernel
theorem dX0_planPuttingOff_6 : decode cX0_planPuttingOff 6 = .ok (.iaload, 1) := by decide +kernel
theorem dX0_planPuttingOff_7 : decode cX0_planPuttingOff 7 = .ok (.iload_n 2, 1) := by decide +kernel
theorem dX0_planPuttingOff_8 : decode cX0_planPuttingOff 8 = .ok (.isub, 1) := by decide +kernel
theorem dX0_planPuttingOff_9 : decode cX0_planPuttingOff 9 = .ok (.aload_n 0, 1) := by decide +kernel
theorem dX0_planPuttingOff_10 : decode cX0_planPuttingOff 10 = .ok (.getfield 38, 3) := by decide +kernel
theorem dX0_planPuttingOff_13 : decode cX0_planPuttingOff 13 = .ok (.invokestatic 41, 3) := by decide +kernel
theorem dX0_planPuttingOff_16 : decode cX0_planPuttingOff 16 = .ok (.iadd, 1) := by decide +kernel
theorem dX0_planPuttingOff_17 : decode cX0_planPuttingOff 17 = .ok (.istore_n 3, 1) := by decide +kernel
theorem dX0_planPuttingOff_18 : decode cX0_planPuttingOff 18 = .ok (.iload_n 1, 1) := by decide +kernel
theorem dX0_planPuttingOff_19 : decode cX0_planPuttingOff 19 = .ok (.aload_n 0, 1) := by decide +kernel
theorem dX0_planPuttingOff_20 : decode cX0_planPuttingOff 20 = .ok (.getfield 35, 3) := by decide +kernel
theorem dX0_planPuttingOff_23 : decode cX0_planPuttingOff 23 = .ok (.iadd, 1) := by decide +kernel
theorem dX0_planPuttingOff_24 : decode cX0_planPuttingOff 24 = .ok (.istore 4, 2) := by decide +kernel
theorem dX0_planPuttingOff_26 : decode cX0_planPuttingOff 26 = .ok (.aload_n 0, 1) := by decide +kernel
theorem dX0_planPuttingOff_27 : decode cX0_planPuttingOff 27 = .ok (.getfield 13, 3) := by decide +kernel
theorem dX0_planPuttingOff_30 : decode cX0_planPuttingOff 30 = .ok (.iload 4, 2) := by decide +kernel
theorem dX0_planPuttingOff_32 : decode cX0_planPuttingOff 32 = .ok (.iaload, 1) := by decide +kernel
theorem dX0_planPuttingOff_33 : decode cX0_planPuttingOff 33 = .ok (.aload_n 0, 1) := by decide +kernel
theorem dX0_planPuttingOff_34 : decode cX0_planPuttingOff 34 = .ok (.getfield 13, 3) := by decide +kernel
theorem dX0_planPuttingOff_37 : decode cX0_planPuttingOff 37 = .ok (.iload_n 1, 1) := by decide +kernel
theorem dX0_planPuttingOff_38 : decode cX0_planPuttingOff 38 = .ok (.iaload, 1) := by decide +kernel
theorem dX0_planPuttingOff_39 : decode cX0_planPuttingOff 39 = .ok (.isub, 1) := by decide +kernel
theorem dX0_planPuttingOff_40 : decode cX0_planPuttingOff 40 = .ok (.aload_n 0, 1) := by decide +kernel
theorem dX0_planPuttingOff_41 : decode cX0_planPuttingOff 41 = .ok (.getfield 35, 3) := by decide +kernel
theorem dX0_planPuttingOff_44 : decode cX0_planPuttingOff 44 = .ok (.iload_n 3, 1) := by decide +kernel
theorem dX0_planPuttingOff_45 : decode cX0_planPuttingOff 45 = .ok (.imul, 1) := by decide +kernel
theorem dX0_planPuttingOff_46 : decode cX0_planPuttingOff 46 = .ok (.isub, 1) := by decide +kernel
theorem dX0_planPuttingOff_47 : decode cX0_planPuttingOff 47 = .ok (.i2l, 1) := by decide +kernel
theorem dX0_planPuttingOff_48 : decode cX0_planPuttingOff 48 = .ok (.lstore 5, 2) := by decide +kernel
theorem dX0_planPuttingOff_50 : decode cX0_planPuttingOff 50 = .ok (.iload 4, 2) := by decide +kernel
theorem dX0_planPuttingOff_52 : decode cX0_planPuttingOff 52 = .ok (.aload_n 0, 1) := by decide +kernel
theorem dX0_planPuttingOff_53 : decode cX0_planPuttingOff 53 = .ok (.getfield 32, 3) := by decide +kernel
theorem dX0_planPuttingOff_56 : decode cX0_planPuttingOff 56 = .ok (.if_icmp .ge 19, 3) := by decide +kernel
theorem dX0_planPuttingOff_59 : decode cX0_planPuttingOff 59 = .ok (.aload_n 0, 1) := by decide +kernel
theorem dX0_planPuttingOff_60 : decode cX0_planPuttingOff 60 = .ok (.getfield 16, 3) := by decide +kernel
theorem dX0_planPuttingOff_63 : decode cX0_planPuttingOff 63 = .ok (.iload 4, 2) := by decide +kernel
theorem dX0_planPuttingOff_65 : decode cX0_planPuttingOff 65 = .ok (.sipush 155, 3) := by decide +kernel
theorem dX0_planPuttingOff_68 : decode cX0_planPuttingOff 68 = .ok (.imul, 1) := by decide +kernel
theorem dX0_planPuttingOff_69 : decode cX0_planPuttingOff 69 = .ok (.iload_n 3, 1) := by decide +kernel
theorem dX0_planPuttingOff_70 : decode cX0_planPuttingOff 70 = .ok (.iadd, 1) := by decide +kernel
theorem dX0_planPuttingOff_71 : decode cX0_planPuttingOff 71 = .ok (.laload, 1) := by decide +kernel
theorem dX0_planPuttingOff_72 : decode cX0_planPuttingOff 72 = .ok (.goto 20, 3) := by decide +kernel
theorem dX0_planPuttingOff_75 : decode cX0_planPuttingOff 75 = .ok (.aload_n 0, 1) := by decide +kernel
theorem dX0_planPuttingOff_76 : decode cX0_planPuttingOff 76 = .ok (.aload_n 0, 1) := by decide +kernel
theorem dX0_planPuttingOff_77 : decode cX0_planPuttingOff 77 = .ok (.getfield 9, 3) := by decide +kernel
theorem dX0_planPuttingOff_80 : decode cX0_planPuttingOff 80 = .ok (.iload 4, 2) := by decide +kernel
theorem dX0_planPuttingOff_82 : decode cX0_planPuttingOff 82 = .ok (.iaload, 1) := by decide +kernel
theorem dX0_planPuttingOff_83 : decode cX0_planPuttingOff 83 = .ok (.iload_n 3, 1) := by decide +kernel
theorem dX0_planPuttingOff_84 : decode cX0_planPuttingOff 84 = .ok (.isub, 1) := by decide +kernel
theorem dX0_planPuttingOff_85 : decode cX0_planPuttingOff 85 = .ok (.invokevirtual 57, 3) := by decide +kernel
theorem dX0_planPuttingOff_88 : decode cX0_planPuttingOff 88 = .ok (.ldc2_w 20, 3) := by decide +kernel
theorem dX0_planPuttingOff_91 : decode cX0_planPuttingOff 91 = .ok (.lmul, 1) := by decide +kernel
theorem dX0_planPuttingOff_92 : decode cX0_planPuttingOff 92 = .ok (.lstore 7, 2) := by decide +kernel
theorem dX0_planPuttingOff_94 : decode cX0_planPuttingOff 94 = .ok (.lconst 1, 1) := by decide +kernel
theorem dX0_planPuttingOff_95 : decode cX0_planPuttingOff 95 = .ok (.iload_n 1, 1) := by decide +kernel
theorem dX0_planPuttingOff_96 : decode cX0_planPuttingOff 96 = .ok (.lshl, 1) := by decide +kernel
theorem dX0_planPuttingOff_97 : decode cX0_planPuttingOff 97 = .ok (.lload 5, 2) := by decide +kernel
theorem dX0_planPuttingOff_99 : decode cX0_planPuttingOff 99 = .ok (.ldc2_w 20, 3) := by decide +kernel
theorem dX0_planPuttingOff_102 : decode cX0_planPuttingOff 102 = .ok (.lmul, 1) := by decide +kernel
theorem dX0_planPuttingOff_103 : decode cX0_planPuttingOff 103 = .ok (.ladd, 1) := by decide +kernel
theorem dX0_planPuttingOff_104 : decode cX0_planPuttingOff 104 = .ok (.lload 7, 2) := by decide +kernel
theorem dX0_planPuttingOff_106 : decode cX0_planPuttingOff 106 = .ok (.ladd, 1) := by decide +kernel
theorem dX0_planPuttingOff_107 : decode cX0_planPuttingOff 107 = .ok (.lreturn, 1) := by decide +kernel
theorem dX0_waitsAfterLast_0 : decode cX0_waitsAfterLast 0 = .ok (.iload_n 1, 1) := by decide +kernel
theorem dX0_waitsAfterLast_1 : decode cX0_waitsAfterLast 1 = .ok (.ifCond .le 15, 3) := by decide +kernel
theorem dX0_waitsAfterLast_4 : decode cX0_waitsAfterLast 4 = .ok (.iload_n 1, 1) := by decide +kernel
theorem dX0_waitsAfterLast_5 : decode cX0_waitsAfterLast 5 = .ok (.iconst 1, 1) := by decide +kernel
theorem dX0_waitsAfterLast_6 : decode cX0_waitsAfterLast 6 = .ok (.isub, 1) := by decide +kernel
theorem dX0_waitsAfterLast_7 : decode cX0_waitsAfterLast 7 = .ok (.aload_n 0, 1) := by decide +kernel
theorem dX0_waitsAfterLast_8 : decode cX0_waitsAfterLast 8 = .ok (.getfield 38, 3) := by decide +kernel
theorem dX0_waitsAfterLast_11 : decode cX0_waitsAfterLast 11 = .ok (.idiv, 1) := by decide +kernel
theorem dX0_waitsAfterLast_12 : decode cX0_waitsAfterLast 12 = .ok (.i2l, 1) := by decide +kernel
theorem dX0_waitsAfterLast_13 : decode cX0_waitsAfterLast 13 = .ok (.goto 4, 3) := by decide +kernel
theorem dX0_waitsAfterLast_16 : decode cX0_waitsAfterLast 16 = .ok (.lconst 0, 1) := by decide +kernel
theorem dX0_waitsAfterLast_17 : decode cX0_waitsAfterLast 17 = .ok (.lstore_n 2, 1) := by decide +kernel
theorem dX0_waitsAfterLast_18 : decode cX0_waitsAfterLast 18 = .ok (.aload_n 0, 1) := by decide +kernel
theorem dX0_waitsAfterLast_19 : decode cX0_waitsAfterLast 19 = .ok (.getfield 35, 3) := by decide +kernel
theorem dX0_waitsAfterLast_22 : decode cX0_waitsAfterLast 22 = .ok (.i2l, 1) := by decide +kernel
theorem dX0_waitsAfterLast_23 : decode cX0_waitsAfterLast 23 = .ok (.lload_n 2, 1) := by decide +kernel
theorem dX0_waitsAfterLast_24 : decode cX0_waitsAfterLast 24 = .ok (.iload_n 1, 1) := by decide +kernel
theorem dX0_waitsAfterLast_25 : decode cX0_waitsAfterLast 25 = .ok (.i2l, 1) := by decide +kernel
theorem dX0_waitsAfterLast_26 : decode cX0_waitsAfterLast 26 = .ok (.lmul, 1) := by decide +kernel
theorem dX0_waitsAfterLast_27 : decode cX0_waitsAfterLast 27 = .ok (.aload_n 0, 1) := by decide +kernel
theorem dX0_waitsAfterLast_28 : decode cX0_waitsAfterLast 28 = .ok (.getfield 38, 3) := by decide +kernel
theorem dX0_waitsAfterLast_31 : decode cX0_waitsAfterLast 31 = .ok (.i2l, 1) := by decide +kernel
theorem dX0_waitsAfterLast_32 : decode cX0_waitsAfterLast 32 = .ok (.lload_n 2, 1) := by decide +kernel
theorem dX0_waitsAfterLast_33 : decode cX0_waitsAfterLast 33 = .ok (.lload_n 2, 1) := by decide +kernel
theorem dX0_waitsAfterLast_34 : decode cX0_waitsAfterLast 34 = .ok (.lconst 1, 1) := by decide +kernel
theorem dX0_waitsAfterLast_35 : decode cX0_waitsAfterLast 35 = .ok (.ladd, 1) := by decide +kernel
theorem dX0_waitsAfterLast_36 : decode cX0_waitsAfterLast 36 = .ok (.lmul, 1) := by decide +kernel
theorem dX0_waitsAfterLast_37 : decode cX0_waitsAfterLast 37 = .ok (.ldc2_w 61, 3) := by decide +kernel
theorem dX0_waitsAfterLast_40 : decode cX0_waitsAfterLast 40 = .ok (.ldiv, 1) := by decide +kernel
theorem dX0_waitsAfterLast_41 : decode cX0_waitsAfterLast 41 = .ok (.lmul, 1) := by decide +kernel
theorem dX0_waitsAfterLast_42 : decode cX0_waitsAfterLast 42 = .ok (.lsub, 1) := by decide +kernel
theorem dX0_waitsAfterLast_43 : decode cX0_waitsAfterLast 43 = .ok (.lmul, 1) := by decide +kernel
theorem dX0_waitsAfterLast_44 : decode cX0_waitsAfterLast 44 = .ok (.lreturn, 1) := by decide +kernel
theorem dX1_init_0 : decode cX1_init 0 = .ok (.aload_n 0, 1) := by decide +kernel
theorem dX1_init_1 : decode cX1_init 1 = .ok (.invokespecial 1, 3) := by decide +kernel
theorem dX1_init_4 : decode cX1_init 4 = .ok (.aload_n 0, 1) := by decide +kernel
theorem dX1_init_5 : decode cX1_init 5 = .ok (.iconst 1, 1) := by decide +kernel
theorem dX1_init_6 : decode cX1_init 6 = .ok (.putfield 7, 3) := by decide +kernel
theorem dX1_init_9 : decode cX1_init 9 = .ok (.aload_n 0, 1) := by decide +kernel
theorem dX1_init_10 : decode cX1_init 10 = .ok (.iload_n 1, 1) := by decide +kernel
theorem dX1_init_11 : decode cX1_init 11 = .ok (.putfield 13, 3) := by decide +kernel
theorem dX1_init_14 : decode cX1_init 14 = .ok (.aload_n 0, 1) := by decide +kernel
theorem dX1_init_15 : decode cX1_init 15 = .ok (.iload_n 2, 1) := by decide +kernel
theorem dX1_init_16 : decode cX1_init 16 = .ok (.putfield 16, 3) := by decide +kernel
theorem dX1_init_19 : decode cX1_init 19 = .ok (.return_, 1) := by decide +kernel
theorem dX1_become_0 : decode cX1_become 0 = .ok (.aload_n 0, 1) := by decide +kernel
theorem dX1_become_1 : decode cX1_become 1 = .ok (.getfield 7, 3) := by decide +kernel
theorem dX1_become_4 : decode cX1_become 4 = .ok (.istore_n 2, 1) := by decide +kernel
theorem dX1_become_5 : decode cX1_become 5 = .ok (.aload_n 0, 1) := by decide +kernel
theorem dX1_become_6 : decode cX1_become 6 = .ok (.iload_n 1, 1) := by decide +kernel
theorem dX1_become_7 : decode cX1_become 7 = .ok (.putfield 7, 3) := by decide +kernel
theorem dX1_become_10 : decode cX1_become 10 = .ok (.iload_n 2, 1) := by decide +kernel
theorem dX1_become_11 : decode cX1_become 11 = .ok (.ireturn, 1) := by decide +kernel
theorem dX1_takeHeads_0 : decode cX1_takeHeads 0 = .ok (.aload_n 0, 1) := by decide +kernel
theorem dX1_takeHeads_1 : decode cX1_takeHeads 1 = .ok (.getfield 19, 3) := by decide +kernel
theorem dX1_takeHeads_4 : decode cX1_takeHeads 4 = .ok (.istore_n 2, 1) := by decide +kernel
theorem dX1_takeHeads_5 : decode cX1_takeHeads 5 = .ok (.aload_n 0, 1) := by decide +kernel
theorem dX1_takeHeads_6 : decode cX1_takeHeads 6 = .ok (.iload_n 1, 1) := by decide +kernel
theorem dX1_takeHeads_7 : decode cX1_takeHeads 7 = .ok (.putfield 19, 3) := by decide +kernel
theorem dX1_takeHeads_10 : decode cX1_takeHeads 10 = .ok (.iload_n 2, 1) := by decide +kernel
theorem dX1_takeHeads_11 : decode cX1_takeHeads 11 = .ok (.ireturn, 1) := by decide +kernel
theorem dX1_crewNeeded_0 : decode cX1_crewNeeded 0 = .ok (.aload_n 0, 1) := by decide +kernel
theorem dX1_crewNeeded_1 : decode cX1_crewNeeded 1 = .ok (.getfield 13, 3) := by decide +kernel
theorem dX1_crewNeeded_4 : decode cX1_crewNeeded 4 = .ok (.bipush 30, 2) := by decide +kernel
theorem dX1_crewNeeded_6 : decode cX1_crewNeeded 6 = .ok (.if_icmp .le 7, 3) := by decide +kernel
theorem dX1_crewNeeded_9 : decode cX1_crewNeeded 9 = .ok (.iconst 3, 1) := by decide +kernel
theorem dX1_crewNeeded_10 : decode cX1_crewNeeded 10 = .ok (.goto 4, 3) := by decide +kernel
theorem dX1_crewNeeded_13 : decode cX1_crewNeeded 13 = .ok (.iconst 2, 1) := by decide +kernel
theorem dX1_crewNeeded_14 : decode cX1_crewNeeded 14 = .ok (.ireturn, 1) := by decide +kernel
theorem dX1_keep_0 : decode cX1_keep 0 = .ok (.aload_n 0, 1) := by decide +kernel
theorem dX1_keep_1 : decode cX1_keep 1 = .ok (.aload_n 0, 1) := by decide +kernel
theorem dX1_keep_2 : decode cX1_keep 2 = .ok (.getfield 7, 3) := by decide +kernel
theorem dX1_keep_5 : decode cX1_keep 5 = .ok (.putfield 22, 3) := by decide +kernel
theorem dX1_keep_8 : decode cX1_keep 8 = .ok (.aload_n 0, 1) := by decide +kernel
theorem dX1_keep_9 : decode cX1_keep 9 = .ok (.aload_n 0, 1) := by decide +kernel
theorem dX1_keep_10 : decode cX1_keep 10 = .ok (.getfield 19, 3) := by decide +kernel
theorem dX1_keep_13 : decode cX1_keep 13 = .ok (.putfield 25, 3) := by decide +kernel
theorem dX1_keep_16 : decode cX1_keep 16 = .ok (.return_, 1) := by decide +kernel
theorem dX1_comeBack_0 : decode cX1_comeBack 0 = .ok (.aload_n 0, 1) := by decide +kernel
theorem dX1_comeBack_1 : decode cX1_comeBack 1 = .ok (.aload_n 0, 1) := by decide +kernel
theorem dX1_comeBack_2 : decode cX1_comeBack 2 = .ok (.getfield 22, 3) := by decide +kernel
theorem dX1_comeBack_5 : decode cX1_comeBack 5 = .ok (.putfield 7, 3) := by decide +kernel
theorem dX1_comeBack_8 : decode cX1_comeBack 8 = .ok (.aload_n 0, 1) := by decide +kernel
theorem dX1_comeBack_9 : decode cX1_comeBack 9 = .ok (.aload_n 0, 1) := by decide +kernel
theorem dX1_comeBack_10 : decode cX1_comeBack 10 = .ok (.getfield 25, 3) := by decide +kernel
theorem dX1_comeBack_13 : decode cX1_comeBack 13 = .ok (.putfield 19, 3) := by decide +kernel
theorem dX1_comeBack_16 : decode cX1_comeBack 16 = .ok (.return_, 1) := by decide +kernel
theorem dX2_init_0 : decode cX2_init 0 = .ok (.aload_n 0, 1) := by decide +kernel
theorem dX2_init_1 : decode cX2_init 1 = .ok (.iload_n 1, 1) := by decide +kernel
theorem dX2_init_2 : decode cX2_init 2 = .ok (.iload_n 2, 1) := by decide +kernel
theorem dX2_init_3 : decode cX2_init 3 = .ok (.iload_n 3, 1) := by decide +kernel
theorem dX2_init_4 : decode cX2_init 4 = .ok (.invokespecial 1, 3) := by decide +kernel
theorem dX2_init_7 : decode cX2_init 7 = .ok (.return_, 1) := by decide +kernel
theorem dX2_pace_0 : decode cX2_pace 0 = .ok (.aload_n 0, 1) := by decide +kernel
theorem dX2_pace_1 : decode cX2_pace 1 = .ok (.invokespecial 7, 3) := by decide +kernel
theorem dX2_pace_4 : decode cX2_pace 4 = .ok (.iconst 2, 1) := by decide +kernel
theorem dX2_pace_5 : decode cX2_pace 5 = .ok (.idiv, 1) := by decide +kernel
theorem dX2_pace_6 : decode cX2_pace 6 = .ok (.iconst 2, 1) := by decide +kernel
theorem dX2_pace_7 : decode cX2_pace 7 = .ok (.iadd, 1) := by decide +kernel
theorem dX2_pace_8 : decode cX2_pace 8 = .ok (.ireturn, 1) := by decide +kernel
theorem dX2_may_0 : decode cX2_may 0 = .ok (.aload_n 0, 1) := by decide +kernel
theorem dX2_may_1 : decode cX2_may 1 = .ok (.iload_n 1, 1) := by decide +kernel
theorem dX2_may_2 : decode cX2_may 2 = .ok (.invokespecial 11, 3) := by decide +kernel
theorem dX2_may_5 : decode cX2_may 5 = .ok (.ifCond .eq 13, 3) := by decide +kernel
theorem dX2_may_8 : decode cX2_may 8 = .ok (.iload_n 1, 1) := by decide +kernel
theorem dX2_may_9 : decode cX2_may 9 = .ok (.bipush 14, 2) := by decide +kernel
theorem dX2_may_11 : decode cX2_may 11 = .ok (.if_icmp .ge 7, 3) := by decide +kernel
theorem dX2_may_14 : decode cX2_may 14 = .ok (.iconst 1, 1) := by decide +kernel
theorem dX2_may_15 : decode cX2_may 15 = .ok (.goto 4, 3) := by decide +kernel
theorem dX2_may_18 : decode cX2_may 18 = .ok (.iconst 0, 1) := by decide +kernel
theorem dX2_may_19 : decode cX2_may 19 = .ok (.ireturn, 1) := by decide +kernel
theorem dX2_parts_0 : decode cX2_parts 0 = .ok (.aload_n 0, 1) := by decide +kernel
theorem dX2_parts_1 : decode cX2_parts 1 = .ok (.invokespecial 15, 3) := by decide +kernel
theorem dX2_parts_4 : decode cX2_parts 4 = .ok (.iconst 1, 1) := by decide +kernel
theorem dX2_parts_5 : decode cX2_parts 5 = .ok (.iadd, 1) := by decide +kernel
theorem dX2_parts_6 : decode cX2_parts 6 = .ok (.ireturn, 1) := by decide +kernel
theorem dX3_init_0 : decode cX3_init 0 = .ok (.aload_n 0, 1) := by decide +kernel
theorem dX3_init_1 : decode cX3_init 1 = .ok (.iload_n 1, 1) := by decide +kernel
theorem dX3_init_2 : decode cX3_init 2 = .ok (.iload_n 2, 1) := by decide +kernel
theorem dX3_init_3 : decode cX3_init 3 = .ok (.iload_n 3, 1) := by decide +kernel
theorem dX3_init_4 : decode cX3_init 4 = .ok (.invokespecial 1, 3) := by decide +kernel
theorem dX3_init_7 : decode cX3_init 7 = .ok (.return_, 1) := by decide +kernel
theorem dX3_pace_0 : decode cX3_pace 0 = .ok (.aload_n 0, 1) := by decide +kernel
theorem dX3_pace_1 : decode cX3_pace 1 = .ok (.invokespecial 7, 3) := by decide +kernel
theorem dX3_pace_4 : decode cX3_pace 4 = .ok (.iconst 2, 1) := by decide +kernel
theorem dX3_pace_5 : decode cX3_pace 5 = .ok (.iadd, 1) := by decide +kernel
theorem dX3_pace_6 : decode cX3_pace 6 = .ok (.ireturn, 1) := by decide +kernel
theorem dX3_may_0 : decode cX3_may 0 = .ok (.aload_n 0, 1) := by decide +kernel
theorem dX3_may_1 : decode cX3_may 1 = .ok (.iload_n 1, 1) := by decide +kernel
theorem dX3_may_2 : decode cX3_may 2 = .ok (.invokespecial 11, 3) := by decide +kernel
theorem dX3_may_5 : decode cX3_may 5 = .ok (.ifCond .eq 16, 3) := by decide +kernel
theorem dX3_may_8 : decode cX3_may 8 = .ok (.aload_n 0, 1) := by decide +kernel
theorem dX3_may_9 : decode cX3_may 9 = .ok (.getfield 15, 3) := by decide +kernel
theorem dX3_may_12 : decode cX3_may 12 = .ok (.bipush 15, 2) := by decide +kernel
theorem dX3_may_14 : decode cX3_may 14 = .ok (.if_icmp .le 7, 3) := by decide +kernel
theorem dX3_may_17 : decode cX3_may 17 = .ok (.iconst 1, 1) := by decide +kernel
theorem dX3_may_18 : decode cX3_may 18 = .ok (.goto 4, 3) := by decide +kernel
theorem dX3_may_21 : decode cX3_may 21 = .ok (.iconst 0, 1) := by decide +kernel
theorem dX3_may_22 : decode cX3_may 22 = .ok (.ireturn, 1) := by decide +kernel
theorem dX3_parts_0 : decode cX3_parts 0 = .ok (.aload_n 0, 1) := by decide +kernel
theorem dX3_parts_1 : decode cX3_parts 1 = .ok (.invokespecial 21, 3) := by decide +kernel
theorem dX3_parts_4 : decode cX3_parts 4 = .ok (.iconst 1, 1) := by decide +kernel
theorem dX3_parts_5 : decode cX3_parts 5 = .ok (.isub, 1) := by decide +kernel
theorem dX3_parts_6 : decode cX3_parts 6 = .ok (.ireturn, 1) := by decide +kernel
theorem dX4_init_0 : decode cX4_init 0 = .ok (.aload_n 0, 1) := by decide +kernel
theorem dX4_init_1 : decode cX4_init 1 = .ok (.invokespecial 1, 3) := by decide +kernel
theorem dX4_init_4 : decode cX4_init 4 = .ok (.aload_n 0, 1) := by decide +kernel
theorem dX4_init_5 : decode cX4_init 5 = .ok (.bipush 100, 2) := by decide +kernel
theorem dX4_init_7 : decode cX4_init 7 = .ok (.newarray .int, 2) := by decide +kernel
theorem dX4_init_9 : decode cX4_init 9 = .ok (.putfield 9, 3) := by decide +kernel
theorem dX4_init_12 : decode cX4_init 12 = .ok (.aload_n 0, 1) := by decide +kernel
theorem dX4_init_13 : decode cX4_init 13 = .ok (.bipush 100, 2) := by decide +kernel
theorem dX4_init_15 : decode cX4_init 15 = .ok (.newarray .int, 2) := by decide +kernel
theorem dX4_init_17 : decode cX4_init 17 = .ok (.putfield 13, 3) := by decide +kernel
theorem dX4_init_20 : decode cX4_init 20 = .ok (.aload_n 0, 1) := by decide +kernel
theorem dX4_init_21 : decode cX4_init 21 = .ok (.bipush 100, 2) := by decide +kernel
theorem dX4_init_23 : decode cX4_init 23 = .ok (.newarray .int, 2) := by decide +kernel
theorem dX4_init_25 : decode cX4_init 25 = .ok (.putfield 16, 3) := by decide +kernel
theorem dX4_init_28 : decode cX4_init 28 = .ok (.aload_n 0, 1) := by decide +kernel
theorem dX4_init_29 : decode cX4_init 29 = .ok (.bipush 100, 2) := by decide +kernel
theorem dX4_init_31 : decode cX4_init 31 = .ok (.newarray .int, 2) := by decide +kernel
theorem dX4_init_33 : decode cX4_init 33 = .ok (.putfield 19, 3) := by decide +kernel
theorem dX4_init_36 : decode cX4_init 36 = .ok (.return_, 1) := by decide +kernel
theorem dX4_areTwo_0 : decode cX4_areTwo 0 = .ok (.iload_n 0, 1) := by decide +kernel
theorem dX4_areTwo_1 : decode cX4_areTwo 1 = .ok (.ifCond .lt 24, 3) := by decide +kernel
theorem dX4_areTwo_4 : decode cX4_areTwo 4 = .ok (.iload_n 0, 1) := by decide +kernel
theorem dX4_areTwo_5 : decode cX4_areTwo 5 = .ok (.bipush 100, 2) := by decide +kernel
theorem dX4_areTwo_7 : decode cX4_areTwo 7 = .ok (.if_icmp .ge 18, 3) := by decide +kernel
theorem dX4_areTwo_10 : decode cX4_areTwo 10 = .ok (.iload_n 0, 1) := by decide +kernel
theorem dX4_areTwo_11 : decode cX4_areTwo 11 = .ok (.bipush 10, 2) := by decide +kernel
theorem dX4_areTwo_13 : decode cX4_areTwo 13 = .ok (.idiv, 1) := by decide +kernel
theorem dX4_areTwo_14 : decode cX4_areTwo 14 = .ok (.iload_n 0, 1) := by decide +kernel
theorem dX4_areTwo_15 : decode cX4_areTwo 15 = .ok (.bipush 10, 2) := by decide +kernel
theorem dX4_areTwo_17 : decode cX4_areTwo 17 = .ok (.irem, 1) := by decide +kernel
theorem dX4_areTwo_18 : decode cX4_areTwo 18 = .ok (.if_icmp .eq 7, 3) := by decide +kernel
theorem dX4_areTwo_21 : decode cX4_areTwo 21 = .ok (.iconst 1, 1) := by decide +kernel
theorem dX4_areTwo_22 : decode cX4_areTwo 22 = .ok (.goto 4, 3) := by decide +kernel
theorem dX4_areTwo_25 : decode cX4_areTwo 25 = .ok (.iconst 0, 1) := by decide +kernel
theorem dX4_areTwo_26 : decode cX4_areTwo 26 = .ok (.ireturn, 1) := by decide +kernel
theorem dX4_turned_0 : decode cX4_turned 0 = .ok (.iload_n 0, 1) := by decide +kernel
theorem dX4_turned_1 : decode cX4_turned 1 = .ok (.bipush 10, 2) := by decide +kernel
theorem dX4_turned_3 : decode cX4_turned 3 = .ok (.irem, 1) := by decide +kernel
theorem dX4_turned_4 : decode cX4_turned 4 = .ok (.bipush 10, 2) := by decide +kernel
theorem dX4_turned_6 : decode cX4_turned 6 = .ok (.imul, 1) := by decide +kernel
theorem dX4_turned_7 : decode cX4_turned 7 = .ok (.iload_n 0, 1) := by decide +kernel
theorem dX4_turned_8 : decode cX4_turned 8 = .ok (.bipush 10, 2) := by decide +kernel
theorem dX4_turned_10 : decode cX4_turned 10 = .ok (.idiv, 1) := by decide +kernel
theorem dX4_turned_11 : decode cX4_turned 11 = .ok (.iadd, 1) := by decide +kernel
theorem dX4_turned_12 : decode cX4_turned 12 = .ok (.ireturn, 1) := by decide +kernel
theorem dX4_takePath_0 : decode cX4_takePath 0 = .ok (.aload_n 0, 1) := by decide +kernel
theorem dX4_takePath_1 : decode cX4_takePath 1 = .ok (.getfield 9, 3) := by decide +kernel
theorem dX4_takePath_4 : decode cX4_takePath 4 = .ok (.iload_n 1, 1) := by decide +kernel
theorem dX4_takePath_5 : decode cX4_takePath 5 = .ok (.iaload, 1) := by decide +kernel
theorem dX4_takePath_6 : decode cX4_takePath 6 = .ok (.istore_n 3, 1) := by decide +kernel
theorem dX4_takePath_7 : decode cX4_takePath 7 = .ok (.aload_n 0, 1) := by decide +kernel
theorem dX4_takePath_8 : decode cX4_takePath 8 = .ok (.getfield 9, 3) := by decide +kernel
theorem dX4_takePath_11 : decode cX4_takePath 11 = .ok (.iload_n 1, 1) := by decide +kernel
theorem dX4_takePath_12 : decode cX4_takePath 12 = .ok (.iload_n 2, 1) := by decide +kernel
theorem dX4_takePath_13 : decode cX4_takePath 13 = .ok (.iastore, 1) := by decide +kernel
theorem dX4_takePath_14 : decode cX4_takePath 14 = .ok (.aload_n 0, 1) := by decide +kernel
theorem dX4_takePath_15 : decode cX4_takePath 15 = .ok (.getfield 9, 3) := by decide +kernel
theorem dX4_takePath_18 : decode cX4_takePath 18 = .ok (.iload_n 1, 1) := by decide +kernel
theorem dX4_takePath_19 : decode cX4_takePath 19 = .ok (.invokestatic 22, 3) := by decide +kernel
theorem dX4_takePath_22 : decode cX4_takePath 22 = .ok (.iload_n 2, 1) := by decide +kernel
theorem dX4_takePath_23 : decode cX4_takePath 23 = .ok (.iastore, 1) := by decide +kernel
theorem dX4_takePath_24 : decode cX4_takePath 24 = .ok (.iload_n 3, 1) := by decide +kernel
theorem dX4_takePath_25 : decode cX4_takePath 25 = .ok (.ireturn, 1) := by decide +kernel
theorem dX4_leastWay_0 : decode cX4_leastWay 0 = .ok (.aload_n 0, 1) := by decide +kernel
theorem dX4_leastWay_1 : decode cX4_leastWay 1 = .ok (.aload_n 0, 1) := by decide +kernel
theorem dX4_leastWay_2 : decode cX4_leastWay 2 = .ok (.getfield 16, 3) := by decide +kernel
theorem dX4_leastWay_5 : decode cX4_leastWay 5 = .ok (.aload_n 2, 1) := by decide +kernel
theorem dX4_leastWay_6 : decode cX4_leastWay 6 = .ok (.iload_n 3, 1) := by decide +kernel
theorem dX4_leastWay_7 : decode cX4_leastWay 7 = .ok (.invokevirtual 26, 3) := by decide +kernel
theorem dX4_leastWay_10 : decode cX4_leastWay 10 = .ok (.aload_n 0, 1) := by decide +kernel
theorem dX4_leastWay_11 : decode cX4_leastWay 11 = .ok (.getfield 16, 3) := by decide +kernel
theorem dX4_leastWay_14 : decode cX4_leastWay 14 = .ok (.iload_n 1, 1) := by decide +kernel
theorem dX4_leastWay_15 : decode cX4_leastWay 15 = .ok (.iaload, 1) := by decide +kernel
theorem dX4_leastWay_16 : decode cX4_leastWay 16 = .ok (.ireturn, 1) := by decide +kernel
theorem dX4_measureNow_0 : decode cX4_measureNow 0 = .ok (.aload_n 0, 1) := by decide +kernel
theorem dX4_measureNow_1 : decode cX4_measureNow 1 = .ok (.aload_n 0, 1) := by decide +kernel
theorem dX4_measureNow_2 : decode cX4_measureNow 2 = .ok (.getfield 16, 3) := by decide +kernel
theorem dX4_measureNow_5 : decode cX4_measureNow 5 = .ok (.aload_n 1, 1) := by decide +kernel
theorem dX4_measureNow_6 : decode cX4_measureNow 6 = .ok (.iload_n 2, 1) := by decide +kernel
theorem dX4_measureNow_7 : decode cX4_measureNow 7 = .ok (.invokevirtual 26, 3) := by decide +kernel
theorem dX4_measureNow_10 : decode cX4_measureNow 10 = .ok (.return_, 1) := by decide +kernel
theorem dX4_measureThen_0 : decode cX4_measureThen 0 = .ok (.aload_n 0, 1) := by decide +kernel
theorem dX4_measureThen_1 : decode cX4_measureThen 1 = .ok (.aload_n 0, 1) := by decide +kernel
theorem dX4_measureThen_2 : decode cX4_measureThen 2 = .ok (.getfield 19, 3) := by decide +kernel
theorem dX4_measureThen_5 : decode cX4_measureThen 5 = .ok (.aload_n 1, 1) := by decide +kernel
theorem dX4_measureThen_6 : decode cX4_measureThen 6 = .ok (.iload_n 2, 1) := by decide +kernel
theorem dX4_measureThen_7 : decode cX4_measureThen 7 = .ok (.invokevirtual 26, 3) := by decide +kernel
theorem dX4_measureThen_10 : decode cX4_measureThen 10 = .ok (.return_, 1) := by decide +kernel
theorem dX4_measure_0 : decode cX4_measure 0 = .ok (.iconst 0, 1) := by decide +kernel
theorem dX4_measure_1 : decode cX4_measure 1 = .ok (.istore 4, 2) := by decide +kernel
theorem dX4_measure_3 : decode cX4_measure 3 = .ok (.iload 4, 2) := by decide +kernel
theorem dX4_measure_5 : decode cX4_measure 5 = .ok (.bipush 100, 2) := by decide +kernel
theorem dX4_measure_7 : decode cX4_measure 7 = .ok (.if_icmp .ge 52, 3) := by decide +kernel
theorem dX4_measure_10 : decode cX4_measure 10 = .ok (.aload_n 1, 1) := by decide +kernel
theorem dX4_measure_11 : decode cX4_measure 11 = .ok (.iload 4, 2) := by decide +kernel
theorem dX4_measure_13 : decode cX4_measure 13 = .ok (.iload 4, 2) := by decide +kernel
theorem dX4_measure_15 : decode cX4_measure 15 = .ok (.bipush 10, 2) := by decide +kernel
theorem dX4_measure_17 : decode cX4_measure 17 = .ok (.idiv, 1) := by decide +kernel
theorem dX4_measure_18 : decode cX4_measure 18 = .ok (.iload 4, 2) := by decide +kernel
theorem dX4_measure_20 : decode cX4_measure 20 = .ok (.bipush 10, 2) := by decide +kernel
theorem dX4_measure_22 : decode cX4_measure 22 = .ok (.irem, 1) := by decide +kernel
theorem dX4_measure_23 : decode cX4_measure 23 = .ok (.if_icmp .ne 7, 3) := by decide +kernel
theorem dX4_measure_26 : decode cX4_measure 26 = .ok (.iconst 0, 1) := by decide +kernel
theorem dX4_measure_27 : decode cX4_measure 27 = .ok (.goto 25, 3) := by decide +kernel
theorem dX4_measure_30 : decode cX4_measure 30 = .ok (.aload_n 0, 1) := by decide +kernel
theorem dX4_measure_31 : decode cX4_measure 31 = .ok (.getfield 9, 3) := by decide +kernel
theorem dX4_measure_34 : decode cX4_measure 34 = .ok (.iload 4, 2) := by decide +kernel
theorem dX4_measure_36 : decode cX4_measure 36 = .ok (.iaload, 1) := by decide +kernel
theorem dX4_measure_37 : decode cX4_measure 37 = .ok (.ifCond .le 13, 3) := by decide +kernel
theorem dX4_measure_40 : decode cX4_measure 40 = .ok (.aload_n 0, 1) := by decide +kernel
theorem dX4_measure_41 : decode cX4_measure 41 = .ok (.getfield 9, 3) := by decide +kernel
theorem dX4_measure_44 : decode cX4_measure 44 = .ok (.iload 4, 2) := by decide +kernel
theorem dX4_measure_46 : decode cX4_measure 46 = .ok (.iaload, 1) := by decide +kernel
theorem dX4_measure_47 : decode cX4_measure 47 = .ok (.goto 5, 3) := by decide +kernel
theorem dX4_measure_50 : decode cX4_measure 50 = .ok (.ldc 30, 2) := by decide +kernel
theorem dX4_measure_52 : decode cX4_measure 52 = .ok (.iastore, 1) := by decide +kernel
theorem dX4_measure_53 : decode cX4_measure 53 = .ok (.iinc 4 1, 3) := by decide +kernel
theorem dX4_measure_56 : decode cX4_measure 56 = .ok (.goto (-53), 3) := by decide +kernel
theorem dX4_measure_59 : decode cX4_measure 59 = .ok (.iconst 0, 1) := by decide +kernel
theorem dX4_measure_60 : decode cX4_measure 60 = .ok (.istore 4, 2) := by decide +kernel
theorem dX4_measure_62 : decode cX4_measure 62 = .ok (.iload 4, 2) := by decide +kernel
theorem dX4_measure_64 : decode cX4_measure 64 = .ok (.iload_n 3, 1) := by decide +kernel
theorem dX4_measure_65 : decode cX4_measure 65 = .ok (.if_icmp .ge 58, 3) := by decide +kernel
theorem dX4_measure_68 : decode cX4_measure 68 = .ok (.aload_n 2, 1) := by decide +kernel
theorem dX4_measure_69 : decode cX4_measure 69 = .ok (.iload 4, 2) := by decide +kernel
theorem dX4_measure_71 : decode cX4_measure 71 = .ok (.aaload, 1) := by decide +kernel
theorem dX4_measure_72 : decode cX4_measure 72 = .ok (.astore 5, 2) := by decide +kernel
theorem dX4_measure_74 : decode cX4_measure 74 = .ok (.aload 5, 2) := by decide +kernel
theorem dX4_measure_76 : decode cX4_measure 76 = .ok (.getfield 31, 3) := by decide +kernel
theorem dX4_measure_79 : decode cX4_measure 79 = .ok (.ifCond .eq 38, 3) := by decide +kernel
theorem dX4_measure_82 : decode cX4_measure 82 = .ok (.aload_n 1, 1) := by decide +kernel
theorem dX4_measure_83 : decode cX4_measure 83 = .ok (.aload 5, 2) := by decide +kernel
theorem dX4_measure_85 : decode cX4_measure 85 = .ok (.getfield 37, 3) := by decide +kernel
theorem dX4_measure_88 : decode cX4_measure 88 = .ok (.aload_n 1, 1) := by decide +kernel
theorem dX4_measure_89 : decode cX4_measure 89 = .ok (.aload 5, 2) := by decide +kernel
theorem dX4_measure_91 : decode cX4_measure 91 = .ok (.getfield 37, 3) := by decide +kernel
theorem dX4_measure_94 : decode cX4_measure 94 = .ok (.iaload, 1) := by decide +kernel
theorem dX4_measure_95 : decode cX4_measure 95 = .ok (.iconst 5, 1) := by decide +kernel
theorem dX4_measure_96 : decode cX4_measure 96 = .ok (.invokestatic 40, 3) := by decide +kernel
theorem dX4_measure_99 : decode cX4_measure 99 = .ok (.iastore, 1) := by decide +kernel
theorem dX4_measure_100 : decode cX4_measure 100 = .ok (.aload_n 1, 1) := by decide +kernel
theorem dX4_measure_101 : decode cX4_measure 101 = .ok (.aload 5, 2) := by decide +kernel
theorem dX4_measure_103 : decode cX4_measure 103 = .ok (.getfield 37, 3) := by decide +kernel
theorem dX4_measure_106 : decode cX4_measure 106 = .ok (.invokestatic 22, 3) := by decide +kernel
theorem dX4_measure_109 : decode cX4_measure 109 = .ok (.aload_n 1, 1) := by decide +kernel
theorem dX4_measure_110 : decode cX4_measure 110 = .ok (.aload 5, 2) := by decide +kernel
theorem dX4_measure_112 : decode cX4_measure 112 = .ok (.getfield 37, 3) := by decide +kernel
theorem dX4_measure_115 : decode cX4_measure 115 = .ok (.iaload, 1) := by decide +kernel
theorem dX4_measure_116 : decode cX4_measure 116 = .ok (.iastore, 1) := by decide +kernel
theorem dX4_measure_117 : decode cX4_measure 117 = .ok (.iinc 4 1, 3) := by decide +kernel
theorem dX4_measure_120 : decode cX4_measure 120 = .ok (.goto (-58), 3) := by decide +kernel
theorem dX4_measure_123 : decode cX4_measure 123 = .ok (.iconst 0, 1) := by decide +kernel
theorem dX4_measure_124 : decode cX4_measure 124 = .ok (.istore 4, 2) := by decide +kernel
theorem dX4_measure_126 : decode cX4_measure 126 = .ok (.iload 4, 2) := by decide +kernel
theorem dX4_measure_128 : decode cX4_measure 128 = .ok (.bipush 10, 2) := by decide +kernel
theorem dX4_measure_130 : decode cX4_measure 130 = .ok (.if_icmp .ge 67, 3) := by decide +kernel
theorem dX4_measure_133 : decode cX4_measure 133 = .ok (.iconst 0, 1) := by decide +kernel
theorem dX4_measure_134 : decode cX4_measure 134 = .ok (.istore 5, 2) := by decide +kernel
theorem dX4_measure_136 : decode cX4_measure 136 = .ok (.iload 5, 2) := by decide +kernel
theorem dX4_measure_138 : decode cX4_measure 138 = .ok (.bipush 100, 2) := by decide +kernel
theorem dX4_measure_140 : decode cX4_measure 140 = .ok (.if_icmp .ge 51, 3) := by decide +kernel
theorem dX4_measure_143 : decode cX4_measure 143 = .ok (.aload_n 1, 1) := by decide +kernel
theorem dX4_measure_144 : decode cX4_measure 144 = .ok (.iload 5, 2) := by decide +kernel
theorem dX4_measure_146 : decode cX4_measure 146 = .ok (.bipush 10, 2) := by decide +kernel
theorem dX4_measure_148 : decode cX4_measure 148 = .ok (.idiv, 1) := by decide +kernel
theorem dX4_measure_149 : decode cX4_measure 149 = .ok (.bipush 10, 2) := by decide +kernel
theorem dX4_measure_151 : decode cX4_measure 151 = .ok (.imul, 1) := by decide +kernel
theorem dX4_measure_152 : decode cX4_measure 152 = .ok (.iload 4, 2) := by decide +kernel
theorem dX4_measure_154 : decode cX4_measure 154 = .ok (.iadd, 1) := by decide +kernel
theorem dX4_measure_155 : decode cX4_measure 155 = .ok (.iaload, 1) := by decide +kernel
theorem dX4_measure_156 : decode cX4_measure 156 = .ok (.aload_n 1, 1) := by decide +kernel
theorem dX4_measure_157 : decode cX4_measure 157 = .ok (.iload 4, 2) := by decide +kernel
theorem dX4_measure_159 : decode cX4_measure 159 = .ok (.bipush 10, 2) := by decide +kernel
theorem dX4_measure_161 : decode cX4_measure 161 = .ok (.imul, 1) := by decide +kernel
theorem dX4_measure_162 : decode cX4_measure 162 = .ok (.iload 5, 2) := by decide +kernel
theorem dX4_measure_164 : decode cX4_measure 164 = .ok (.bipush 10, 2) := by decide +kernel
theorem dX4_measure_166 : decode cX4_measure 166 = .ok (.irem, 1) := by decide +kernel
theorem dX4_measure_167 : decode cX4_measure 167 = .ok (.iadd, 1) := by decide +kernel
theorem dX4_measure_168 : decode cX4_measure 168 = .ok (.iaload, 1) := by decide +kernel
theorem dX4_measure_169 : decode cX4_measure 169 = .ok (.iadd, 1) := by decide +kernel
theorem dX4_measure_170 : decode cX4_measure 170 = .ok (.istore 6, 2) := by decide +kernel
theorem dX4_measure_172 : decode cX4_measure 172 = .ok (.aload_n 1, 1) := by decide +kernel
theorem dX4_measure_173 : decode cX4_measure 173 = .ok (.iload 5, 2) := by decide +kernel
theorem dX4_measure_175 : decode cX4_measure 175 = .ok (.aload_n 1, 1) := by decide +kernel
theorem dX4_measure_176 : decode cX4_measure 176 = .ok (.iload 5, 2) := by decide +kernel
theorem dX4_measure_178 : decode cX4_measure 178 = .ok (.iaload, 1) := by decide +kernel
theorem dX4_measure_179 : decode cX4_measure 179 = .ok (.iload 6, 2) := by decide +kernel
theorem dX4_measure_181 : decode cX4_measure 181 = .ok (.invokestatic 40, 3) := by decide +kernel
theorem dX4_measure_184 : decode cX4_measure 184 = .ok (.iastore, 1) := by decide +kernel
theorem dX4_measure_185 : decode cX4_measure 185 = .ok (.iinc 5 1, 3) := by decide +kernel
theorem dX4_measure_188 : decode cX4_measure 188 = .ok (.goto (-52), 3) := by decide +kernel
theorem dX4_measure_191 : decode cX4_measure 191 = .ok (.iinc 4 1, 3) := by decide +kernel
theorem dX4_measure_194 : decode cX4_measure 194 = .ok (.goto (-68), 3) := by decide +kernel
theorem dX4_measure_197 : decode cX4_measure 197 = .ok (.return_, 1) := by decide +kernel
theorem dX4_lostMinutes_0 : decode cX4_lostMinutes 0 = .ok (.iconst 0, 1) := by decide +kernel
theorem dX4_lostMinutes_1 : decode cX4_lostMinutes 1 = .ok (.istore_n 1, 1) := by decide +kernel
theorem dX4_lostMinutes_2 : decode cX4_lostMinutes 2 = .ok (.iconst 0, 1) := by decide +kernel
theorem dX4_lostMinutes_3 : decode cX4_lostMinutes 3 = .ok (.istore_n 2, 1) := by decide +kernel
theorem dX4_lostMinutes_4 : decode cX4_lostMinutes 4 = .ok (.iload_n 2, 1) := by decide +kernel
theorem dX4_lostMinutes_5 : decode cX4_lostMinutes 5 = .ok (.bipush 100, 2) := by decide +kernel
theorem dX4_lostMinutes_7 : decode cX4_lostMinutes 7 = .ok (.if_icmp .ge 63, 3) := by decide +kernel
theorem dX4_lostMinutes_10 : decode cX4_lostMinutes 10 = .ok (.iload_n 2, 1) := by decide +kernel
theorem dX4_lostMinutes_11 : decode cX4_lostMinutes 11 = .ok (.bipush 10, 2) := by decide +kernel
theorem dX4_lostMinutes_13 : decode cX4_lostMinutes 13 = .ok (.idiv, 1) := by decide +kernel
theorem dX4_lostMinutes_14 : decode cX4_lostMinutes 14 = .ok (.iload_n 2, 1) := by decide +kernel
theorem dX4_lostMinutes_15 : decode cX4_lostMinutes 15 = .ok (.bipush 10, 2) := by decide +kernel
theorem dX4_lostMinutes_17 : decode cX4_lostMinutes 17 = .ok (.irem, 1) := by decide +kernel
theorem dX4_lostMinutes_18 : decode cX4_lostMinutes 18 = .ok (.if_icmp .ge 46, 3) := by decide +kernel
theorem dX4_lostMinutes_21 : decode cX4_lostMinutes 21 = .ok (.aload_n 0, 1) := by decide +kernel
theorem dX4_lostMinutes_22 : decode cX4_lostMinutes 22 = .ok (.getfield 16, 3) := by decide +kernel
theorem dX4_lostMinutes_25 : decode cX4_lostMinutes 25 = .ok (.iload_n 2, 1) := by decide +kernel
theorem dX4_lostMinutes_26 : decode cX4_lostMinutes 26 = .ok (.iaload, 1) := by decide +kernel
theorem dX4_lostMinutes_27 : decode cX4_lostMinutes 27 = .ok (.ldc 30, 2) := by decide +kernel
theorem dX4_lostMinutes_29 : decode cX4_lostMinutes 29 = .ok (.if_icmp .ge 35, 3) := by decide +kernel
theorem dX4_lostMinutes_32 : decode cX4_lostMinutes 32 = .ok (.iload_n 1, 1) := by decide +kernel
theorem dX4_lostMinutes_33 : decode cX4_lostMinutes 33 = .ok (.aload_n 0, 1) := by decide +kernel
theorem dX4_lostMinutes_34 : decode cX4_lostMinutes 34 = .ok (.getfield 19, 3) := by decide +kernel
theorem dX4_lostMinutes_37 : decode cX4_lostMinutes 37 = .ok (.iload_n 2, 1) := by decide +kernel
theorem dX4_lostMinutes_38 : decode cX4_lostMinutes 38 = .ok (.iaload, 1) := by decide +kernel
theorem dX4_lostMinutes_39 : decode cX4_lostMinutes 39 = .ok (.ldc 30, 2) := by decide +kernel
theorem dX4_lostMinutes_41 : decode cX4_lostMinutes 41 = .ok (.if_icmp .ge 19, 3) := by decide +kernel
theorem dX4_lostMinutes_44 : decode cX4_lostMinutes 44 = .ok (.aload_n 0, 1) := by decide +kernel
theorem dX4_lostMinutes_45 : decode cX4_lostMinutes 45 = .ok (.getfield 19, 3) := by decide +kernel
theorem dX4_lostMinutes_48 : decode cX4_lostMinutes 48 = .ok (.iload_n 2, 1) := by decide +kernel
theorem dX4_lostMinutes_49 : decode cX4_lostMinutes 49 = .ok (.iaload, 1) := by decide +kernel
theorem dX4_lostMinutes_50 : decode cX4_lostMinutes 50 = .ok (.aload_n 0, 1) := by decide +kernel
theorem dX4_lostMinutes_51 : decode cX4_lostMinutes 51 = .ok (.getfield 16, 3) := by decide +kernel
theorem dX4_lostMinutes_54 : decode cX4_lostMinutes 54 = .ok (.iload_n 2, 1) := by decide +kernel
theorem dX4_lostMinutes_55 : decode cX4_lostMinutes 55 = .ok (.iaload, 1) := by decide +kernel
theorem dX4_lostMinutes_56 : decode cX4_lostMinutes 56 = .ok (.isub, 1) := by decide +kernel
theorem dX4_lostMinutes_57 : decode cX4_lostMinutes 57 = .ok (.goto 5, 3) := by decide +kernel
theorem dX4_lostMinutes_60 : decode cX4_lostMinutes 60 = .ok (.bipush 100, 2) := by decide +kernel
theorem dX4_lostMinutes_62 : decode cX4_lostMinutes 62 = .ok (.iadd, 1) := by decide +kernel
theorem dX4_lostMinutes_63 : decode cX4_lostMinutes 63 = .ok (.istore_n 1, 1) := by decide +kernel
theorem dX4_lostMinutes_64 : decode cX4_lostMinutes 64 = .ok (.iinc 2 1, 3) := by decide +kernel
theorem dX4_lostMinutes_67 : decode cX4_lostMinutes 67 = .ok (.goto (-63), 3) := by decide +kernel
theorem dX4_lostMinutes_70 : decode cX4_lostMinutes 70 = .ok (.iload_n 1, 1) := by decide +kernel
theorem dX4_lostMinutes_71 : decode cX4_lostMinutes 71 = .ok (.ireturn, 1) := by decide +kernel
theorem dX4_keep_0 : decode cX4_keep 0 = .ok (.aload_n 0, 1) := by decide +kernel
theorem dX4_keep_1 : decode cX4_keep 1 = .ok (.getfield 9, 3) := by decide +kernel
theorem dX4_keep_4 : decode cX4_keep 4 = .ok (.iconst 0, 1) := by decide +kernel
theorem dX4_keep_5 : decode cX4_keep 5 = .ok (.aload_n 0, 1) := by decide +kernel
theorem dX4_keep_6 : decode cX4_keep 6 = .ok (.getfield 13, 3) := by decide +kernel
theorem dX4_keep_9 : decode cX4_keep 9 = .ok (.iconst 0, 1) := by decide +kernel
theorem dX4_keep_10 : decode cX4_keep 10 = .ok (.bipush 100, 2) := by decide +kernel
theorem dX4_keep_12 : decode cX4_keep 12 = .ok (.invokestatic 46, 3) := by decide +kernel
theorem dX4_keep_15 : decode cX4_keep 15 = .ok (.return_, 1) := by decide +kernel
theorem dX4_comeBack_0 : decode cX4_comeBack 0 = .ok (.aload_n 0, 1) := by decide +kernel
theorem dX4_comeBack_1 : decode cX4_comeBack 1 = .ok (.getfield 13, 3) := by decide +kernel
theorem dX4_comeBack_4 : decode cX4_comeBack 4 = .ok (.iconst 0, 1) := by decide +kernel
theorem dX4_comeBack_5 : decode cX4_comeBack 5 = .ok (.aload_n 0, 1) := by decide +kernel
theorem dX4_comeBack_6 : decode cX4_comeBack 6 = .ok (.getfield 9, 3) := by decide +kernel
theorem dX4_comeBack_9 : decode cX4_comeBack 9 = .ok (.iconst 0, 1) := by decide +kernel
theorem dX4_comeBack_10 : decode cX4_comeBack 10 = .ok (.bipush 100, 2) := by decide +kernel
theorem dX4_comeBack_12 : decode cX4_comeBack 12 = .ok (.invokestatic 46, 3) := by decide +kernel
theorem dX4_comeBack_15 : decode cX4_comeBack 15 = .ok (.return_, 1) := by decide +kernel
theorem dX5_init_0 : decode cX5_init 0 = .ok (.aload_n 0, 1) := by decide +kernel
theorem dX5_init_1 : decode cX5_init 1 = .ok (.iload_n 1, 1) := by decide +kernel
theorem dX5_init_2 : decode cX5_init 2 = .ok (.iload_n 2, 1) := by decide +kernel
theorem dX5_init_3 : decode cX5_init 3 = .ok (.iload_n 3, 1) := by decide +kernel
theorem dX5_init_4 : decode cX5_init 4 = .ok (.invokespecial 1, 3) := by decide +kernel
theorem dX5_init_7 : decode cX5_init 7 = .ok (.return_, 1) := by decide +kernel
theorem dX5_pace_0 : decode cX5_pace 0 = .ok (.aload_n 0, 1) := by decide +kernel
theorem dX5_pace_1 : decode cX5_pace 1 = .ok (.invokespecial 7, 3) := by decide +kernel
theorem dX5_pace_4 : decode cX5_pace 4 = .ok (.aload_n 0, 1) := by decide +kernel
theorem dX5_pace_5 : decode cX5_pace 5 = .ok (.getfield 11, 3) := by decide +kernel
theorem dX5_pace_8 : decode cX5_pace 8 = .ok (.iadd, 1) := by decide +kernel
theorem dX5_pace_9 : decode cX5_pace 9 = .ok (.ireturn, 1) := by decide +kernel
theorem dX5_may_0 : decode cX5_may 0 = .ok (.aload_n 0, 1) := by decide +kernel
theorem dX5_may_1 : decode cX5_may 1 = .ok (.iload_n 1, 1) := by decide +kernel
theorem dX5_may_2 : decode cX5_may 2 = .ok (.invokespecial 17, 3) := by decide +kernel
theorem dX5_may_5 : decode cX5_may 5 = .ok (.ifCond .ne 18, 3) := by decide +kernel
theorem dX5_may_8 : decode cX5_may 8 = .ok (.iload_n 1, 1) := by decide +kernel
theorem dX5_may_9 : decode cX5_may 9 = .ok (.aload_n 0, 1) := by decide +kernel
theorem dX5_may_10 : decode cX5_may 10 = .ok (.getfield 11, 3) := by decide +kernel
theorem dX5_may_13 : decode cX5_may 13 = .ok (.if_icmp .ne 14, 3) := by decide +kernel
theorem dX5_may_16 : decode cX5_may 16 = .ok (.aload_n 0, 1) := by decide +kernel
theorem dX5_may_17 : decode cX5_may 17 = .ok (.invokevirtual 21, 3) := by decide +kernel
theorem dX5_may_20 : decode cX5_may 20 = .ok (.ifCond .ne 7, 3) := by decide +kernel
theorem dX5_may_23 : decode cX5_may 23 = .ok (.iconst 1, 1) := by decide +kernel
theorem dX5_may_24 : decode cX5_may 24 = .ok (.goto 4, 3) := by decide +kernel
theorem dX5_may_27 : decode cX5_may 27 = .ok (.iconst 0, 1) := by decide +kernel
theorem dX5_may_28 : decode cX5_may 28 = .ok (.ireturn, 1) := by decide +kernel
theorem dX5_parts_0 : decode cX5_parts 0 = .ok (.iconst 2, 1) := by decide +kernel
theorem dX5_parts_1 : decode cX5_parts 1 = .ok (.aload_n 0, 1) := by decide +kernel
theorem dX5_parts_2 : decode cX5_parts 2 = .ok (.invokespecial 25, 3) := by decide +kernel
theorem dX5_parts_5 : decode cX5_parts 5 = .ok (.imul, 1) := by decide +kernel
theorem dX5_parts_6 : decode cX5_parts 6 = .ok (.ireturn, 1) := by decide +kernel
theorem dX6_init_0 : decode cX6_init 0 = .ok (.aload_n 0, 1) := by decide +kernel
theorem dX6_init_1 : decode cX6_init 1 = .ok (.iload_n 1, 1) := by decide +kernel
theorem dX6_init_2 : decode cX6_init 2 = .ok (.iload_n 2, 1) := by decide +kernel
theorem dX6_init_3 : decode cX6_init 3 = .ok (.iload_n 3, 1) := by decide +kernel
theorem dX6_init_4 : decode cX6_init 4 = .ok (.invokespecial 1, 3) := by decide +kernel
theorem dX6_init_7 : decode cX6_init 7 = .ok (.return_, 1) := by decide +kernel
theorem dX6_pace_0 : decode cX6_pace 0 = .ok (.aload_n 0, 1) := by decide +kernel
theorem dX6_pace_1 : decode cX6_pace 1 = .ok (.invokespecial 7, 3) := by decide +kernel
theorem dX6_pace_4 : decode cX6_pace 4 = .ok (.aload_n 0, 1) := by decide +kernel
theorem dX6_pace_5 : decode cX6_pace 5 = .ok (.getfield 11, 3) := by decide +kernel
theorem dX6_pace_8 : decode cX6_pace 8 = .ok (.bipush 20, 2) := by decide +kernel
theorem dX6_pace_10 : decode cX6_pace 10 = .ok (.idiv, 1) := by decide +kernel
theorem dX6_pace_11 : decode cX6_pace 11 = .ok (.isub, 1) := by decide +kernel
theorem dX6_pace_12 : decode cX6_pace 12 = .ok (.ireturn, 1) := by decide +kernel
theorem dX6_may_0 : decode cX6_may 0 = .ok (.aload_n 0, 1) := by decide +kernel
theorem dX6_may_1 : decode cX6_may 1 = .ok (.iload_n 1, 1) := by decide +kernel
theorem dX6_may_2 : decode cX6_may 2 = .ok (.invokespecial 17, 3) := by decide +kernel
theorem dX6_may_5 : decode cX6_may 5 = .ok (.ifCond .eq 21, 3) := by decide +kernel
theorem dX6_may_8 : decode cX6_may 8 = .ok (.iload_n 1, 1) := by decide +kernel
theorem dX6_may_9 : decode cX6_may 9 = .ok (.iconst 2, 1) := by decide +kernel
theorem dX6_may_10 : decode cX6_may 10 = .ok (.irem, 1) := by decide +kernel
theorem dX6_may_11 : decode cX6_may 11 = .ok (.ifCond .eq 11, 3) := by decide +kernel
theorem dX6_may_14 : decode cX6_may 14 = .ok (.aload_n 0, 1) := by decide +kernel
theorem dX6_may_15 : decode cX6_may 15 = .ok (.getfield 21, 3) := by decide +kernel
theorem dX6_may_18 : decode cX6_may 18 = .ok (.iconst 4, 1) := by decide +kernel
theorem dX6_may_19 : decode cX6_may 19 = .ok (.if_icmp .le 7, 3) := by decide +kernel
theorem dX6_may_22 : decode cX6_may 22 = .ok (.iconst 1, 1) := by decide +kernel
theorem dX6_may_23 : decode cX6_may 23 = .ok (.goto 4, 3) := by decide +kernel
theorem dX6_may_26 : decode cX6_may 26 = .ok (.iconst 0, 1) := by decide +kernel
theorem dX6_may_27 : decode cX6_may 27 = .ok (.ireturn, 1) := by decide +kernel
theorem dX7_init_0 : decode cX7_init 0 = .ok (.aload_n 0, 1) := by decide +kernel
theorem dX7_init_1 : decode cX7_init 1 = .ok (.invokespecial 1, 3) := by decide +kernel
theorem dX7_init_4 : decode cX7_init 4 = .ok (.aload_n 0, 1) := by decide +kernel
theorem dX7_init_5 : decode cX7_init 5 = .ok (.iload_n 1, 1) := by decide +kernel
theorem dX7_init_6 : decode cX7_init 6 = .ok (.putfield 7, 3) := by decide +kernel
theorem dX7_init_9 : decode cX7_init 9 = .ok (.aload_n 0, 1) := by decide +kernel
theorem dX7_init_10 : decode cX7_init 10 = .ok (.iload_n 2, 1) := by decide +kernel
theorem dX7_init_11 : decode cX7_init 11 = .ok (.bipush 100, 2) := by decide +kernel
theorem dX7_init_13 : decode cX7_init 13 = .ok (.idiv, 1) := by decide +kernel
theorem dX7_init_14 : decode cX7_init 14 = .ok (.putfield 13, 3) := by decide +kernel
theorem dX7_init_17 : decode cX7_init 17 = .ok (.aload_n 0, 1) := by decide +kernel
theorem dX7_init_18 : decode cX7_init 18 = .ok (.iload_n 2, 1) := by decide +kernel
theorem dX7_init_19 : decode cX7_init 19 = .ok (.bipush 10, 2) := by decide +kernel
theorem dX7_init_21 : decode cX7_init 21 = .ok (.idiv, 1) := by decide +kernel
theorem dX7_init_22 : decode cX7_init 22 = .ok (.bipush 10, 2) := by decide +kernel
theorem dX7_init_24 : decode cX7_init 24 = .ok (.irem, 1) := by decide +kernel
theorem dX7_init_25 : decode cX7_init 25 = .ok (.putfield 16, 3) := by decide +kernel
theorem dX7_init_28 : decode cX7_init 28 = .ok (.aload_n 0, 1) := by decide +kernel
theorem dX7_init_29 : decode cX7_init 29 = .ok (.iload_n 2, 1) := by decide +kernel
theorem dX7_init_30 : decode cX7_init 30 = .ok (.bipush 10, 2) := by decide +kernel
theorem dX7_init_32 : decode cX7_init 32 = .ok (.irem, 1) := by decide +kernel
theorem dX7_init_33 : decode cX7_init 33 = .ok (.putfield 19, 3) := by decide +kernel
theorem dX7_init_36 : decode cX7_init 36 = .ok (.aload_n 0, 1) := by decide +kernel
theorem dX7_init_37 : decode cX7_init 37 = .ok (.iload_n 3, 1) := by decide +kernel
theorem dX7_init_38 : decode cX7_init 38 = .ok (.putfield 22, 3) := by decide +kernel
theorem dX7_init_41 : decode cX7_init 41 = .ok (.return_, 1) := by decide +kernel
theorem dX7_pace_0 : decode cX7_pace 0 = .ok (.bipush 10, 2) := by decide +kernel
theorem dX7_pace_2 : decode cX7_pace 2 = .ok (.ireturn, 1) := by decide +kernel
theorem dX7_toldPace_0 : decode cX7_toldPace 0 = .ok (.iconst 1, 1) := by decide +kernel
theorem dX7_toldPace_1 : decode cX7_toldPace 1 = .ok (.aload_n 0, 1) := by decide +kernel
theorem dX7_toldPace_2 : decode cX7_toldPace 2 = .ok (.invokevirtual 25, 3) := by decide +kernel
theorem dX7_toldPace_5 : decode cX7_toldPace 5 = .ok (.invokestatic 29, 3) := by decide +kernel
theorem dX7_toldPace_8 : decode cX7_toldPace 8 = .ok (.ireturn, 1) := by decide +kernel
theorem dX7_may_0 : decode cX7_may 0 = .ok (.iload_n 1, 1) := by decide +kernel
theorem dX7_may_1 : decode cX7_may 1 = .ok (.bipush 6, 2) := by decide +kernel
theorem dX7_may_3 : decode cX7_may 3 = .ok (.if_icmp .lt 20, 3) := by decide +kernel
theorem dX7_may_6 : decode cX7_may 6 = .ok (.iload_n 1, 1) := by decide +kernel
theorem dX7_may_7 : decode cX7_may 7 = .ok (.bipush 22, 2) := by decide +kernel
theorem dX7_may_9 : decode cX7_may 9 = .ok (.if_icmp .ge 14, 3) := by decide +kernel
theorem dX7_may_12 : decode cX7_may 12 = .ok (.aload_n 0, 1) := by decide +kernel
theorem dX7_may_13 : decode cX7_may 13 = .ok (.invokevirtual 35, 3) := by decide +kernel
theorem dX7_may_16 : decode cX7_may 16 = .ok (.ifCond .ne 7, 3) := by decide +kernel
theorem dX7_may_19 : decode cX7_may 19 = .ok (.iconst 1, 1) := by decide +kernel
theorem dX7_may_20 : decode cX7_may 20 = .ok (.goto 4, 3) := by decide +kernel
theorem dX7_may_23 : decode cX7_may 23 = .ok (.iconst 0, 1) := by decide +kernel
theorem dX7_may_24 : decode cX7_may 24 = .ok (.ireturn, 1) := by decide +kernel
theorem dX7_parts_0 : decode cX7_parts 0 = .ok (.iconst 4, 1) := by decide +kernel
theorem dX7_parts_1 : decode cX7_parts 1 = .ok (.ireturn, 1) := by decide +kernel
theorem dX7_rowsAt_0 : decode cX7_rowsAt 0 = .ok (.aload_n 0, 1) := by decide +kernel
theorem dX7_rowsAt_1 : decode cX7_rowsAt 1 = .ok (.getfield 19, 3) := by decide +kernel
theorem dX7_rowsAt_4 : decode cX7_rowsAt 4 = .ok (.iload_n 1, 1) := by decide +kernel
theorem dX7_rowsAt_5 : decode cX7_rowsAt 5 = .ok (.if_icmp .ne 7, 3) := by decide +kernel
theorem dX7_rowsAt_8 : decode cX7_rowsAt 8 = .ok (.iconst 1, 1) := by decide +kernel
theorem dX7_rowsAt_9 : decode cX7_rowsAt 9 = .ok (.goto 4, 3) := by decide +kernel
theorem dX7_rowsAt_12 : decode cX7_rowsAt 12 = .ok (.iconst 0, 1) := by decide +kernel
theorem dX7_rowsAt_13 : decode cX7_rowsAt 13 = .ok (.ireturn, 1) := by decide +kernel
theorem dX7_isIll_0 : decode cX7_isIll 0 = .ok (.aload_n 0, 1) := by decide +kernel
theorem dX7_isIll_1 : decode cX7_isIll 1 = .ok (.getfield 39, 3) := by decide +kernel
theorem dX7_isIll_4 : decode cX7_isIll 4 = .ok (.ifCond .eq 7, 3) := by decide +kernel
theorem dX7_isIll_7 : decode cX7_isIll 7 = .ok (.iconst 1, 1) := by decide +kernel
theorem dX7_isIll_8 : decode cX7_isIll 8 = .ok (.goto 4, 3) := by decide +kernel
theorem dX7_isIll_11 : decode cX7_isIll 11 = .ok (.iconst 0, 1) := by decide +kernel
theorem dX7_isIll_12 : decode cX7_isIll 12 = .ok (.ireturn, 1) := by decide +kernel
theorem dX7_keep_0 : decode cX7_keep 0 = .ok (.aload_n 0, 1) := by decide +kernel
theorem dX7_keep_1 : decode cX7_keep 1 = .ok (.aload_n 0, 1) := by decide +kernel
theorem dX7_keep_2 : decode cX7_keep 2 = .ok (.getfield 39, 3) := by decide +kernel
theorem dX7_keep_5 : decode cX7_keep 5 = .ok (.putfield 42, 3) := by decide +kernel
theorem dX7_keep_8 : decode cX7_keep 8 = .ok (.aload_n 0, 1) := by decide +kernel
theorem dX7_keep_9 : decode cX7_keep 9 = .ok (.aload_n 0, 1) := by decide +kernel
theorem dX7_keep_10 : decode cX7_keep 10 = .ok (.getfield 45, 3) := by decide +kernel
theorem dX7_keep_13 : decode cX7_keep 13 = .ok (.putfield 48, 3) := by decide +kernel
theorem dX7_keep_16 : decode cX7_keep 16 = .ok (.return_, 1) := by decide +kernel
theorem dX7_comeBack_0 : decode cX7_comeBack 0 = .ok (.aload_n 0, 1) := by decide +kernel
theorem dX7_comeBack_1 : decode cX7_comeBack 1 = .ok (.aload_n 0, 1) := by decide +kernel
theorem dX7_comeBack_2 : decode cX7_comeBack 2 = .ok (.getfield 42, 3) := by decide +kernel
theorem dX7_comeBack_5 : decode cX7_comeBack 5 = .ok (.putfield 39, 3) := by decide +kernel
theorem dX7_comeBack_8 : decode cX7_comeBack 8 = .ok (.aload_n 0, 1) := by decide +kernel
theorem dX7_comeBack_9 : decode cX7_comeBack 9 = .ok (.aload_n 0, 1) := by decide +kernel
theorem dX7_comeBack_10 : decode cX7_comeBack 10 = .ok (.getfield 48, 3) := by decide +kernel
theorem dX7_comeBack_13 : decode cX7_comeBack 13 = .ok (.putfield 45, 3) := by decide +kernel
theorem dX7_comeBack_16 : decode cX7_comeBack 16 = .ok (.return_, 1) := by decide +kernel
theorem dX8_init_0 : decode cX8_init 0 = .ok (.aload_n 0, 1) := by decide +kernel
theorem dX8_init_1 : decode cX8_init 1 = .ok (.invokespecial 1, 3) := by decide +kernel
theorem dX8_init_4 : decode cX8_init 4 = .ok (.aload_n 0, 1) := by decide +kernel
theorem dX8_init_5 : decode cX8_init 5 = .ok (.iconst (-1), 1) := by decide +kernel
theorem dX8_init_6 : decode cX8_init 6 = .ok (.putfield 9, 3) := by decide +kernel
theorem dX8_init_9 : decode cX8_init 9 = .ok (.aload_n 0, 1) := by decide +kernel
theorem dX8_init_10 : decode cX8_init 10 = .ok (.bipush 40, 2) := by decide +kernel
theorem dX8_init_12 : decode cX8_init 12 = .ok (.newarray .int, 2) := by decide +kernel
theorem dX8_init_14 : decode cX8_init 14 = .ok (.putfield 13, 3) := by decide +kernel
theorem dX8_init_17 : decode cX8_init 17 = .ok (.return_, 1) := by decide +kernel
theorem dX8_isMissing_0 : decode cX8_isMissing 0 = .ok (.aload_n 0, 1) := by decide +kernel
theorem dX8_isMissing_1 : decode cX8_isMissing 1 = .ok (.getfield 9, 3) := by decide +kernel
theorem dX8_isMissing_4 : decode cX8_isMissing 4 = .ok (.iconst (-1), 1) := by decide +kernel
theorem dX8_isMissing_5 : decode cX8_isMissing 5 = .ok (.if_icmp .ne 7, 3) := by decide +kernel
theorem dX8_isMissing_8 : decode cX8_isMissing 8 = .ok (.iconst 1, 1) := by decide +kernel
theorem dX8_isMissing_9 : decode cX8_isMissing 9 = .ok (.goto 4, 3) := by decide +kernel
theorem dX8_isMissing_12 : decode cX8_isMissing 12 = .ok (.iconst 0, 1) := by decide +kernel
theorem dX8_isMissing_13 : decode cX8_isMissing 13 = .ok (.ireturn, 1) := by decide +kernel
theorem dX8_become_0 : decode cX8_become 0 = .ok (.aload_n 0, 1) := by decide +kernel
theorem dX8_become_1 : decode cX8_become 1 = .ok (.iload_n 1, 1) := by decide +kernel
theorem dX8_become_2 : decode cX8_become 2 = .ok (.putfield 9, 3) := by decide +kernel
theorem dX8_become_5 : decode cX8_become 5 = .ok (.aload_n 0, 1) := by decide +kernel
theorem dX8_become_6 : decode cX8_become 6 = .ok (.iload_n 1, 1) := by decide +kernel
theorem dX8_become_7 : decode cX8_become 7 = .ok (.iconst (-1), 1) := by decide +kernel
theorem dX8_become_8 : decode cX8_become 8 = .ok (.if_icmp .ne 7, 3) := by decide +kernel
theorem dX8_become_11 : decode cX8_become 11 = .ok (.iconst 0, 1) := by decide +kernel
theorem dX8_become_12 : decode cX8_become 12 = .ok (.goto 13, 3) := by decide +kernel
theorem dX8_become_15 : decode cX8_become 15 = .ok (.iconst 0, 1) := by decide +kernel
theorem dX8_become_16 : decode cX8_become 16 = .ok (.bipush 40, 2) := by decide +kernel
theorem dX8_become_18 : decode cX8_become 18 = .ok (.iload_n 2, 1) := by decide +kernel
theorem dX8_become_19 : decode cX8_become 19 = .ok (.invokestatic 17, 3) := by decide +kernel
theorem dX8_become_22 : decode cX8_become 22 = .ok (.invokestatic 23, 3) := by decide +kernel
theorem dX8_become_25 : decode cX8_become 25 = .ok (.putfield 26, 3) := by decide +kernel
theorem dX8_become_28 : decode cX8_become 28 = .ok (.aload_n 0, 1) := by decide +kernel
theorem dX8_become_29 : decode cX8_become 29 = .ok (.getfield 13, 3) := by decide +kernel
theorem dX8_become_32 : decode cX8_become 32 = .ok (.iconst 0, 1) := by decide +kernel
theorem dX8_become_33 : decode cX8_become 33 = .ok (.invokestatic 29, 3) := by decide +kernel
theorem dX8_become_36 : decode cX8_become 36 = .ok (.return_, 1) := by decide +kernel
theorem dX8_holds_0 : decode cX8_holds 0 = .ok (.iload_n 1, 1) := by decide +kernel
theorem dX8_holds_1 : decode cX8_holds 1 = .ok (.ifCond .lt 29, 3) := by decide +kernel
theorem dX8_holds_4 : decode cX8_holds 4 = .ok (.iload_n 2, 1) := by decide +kernel
theorem dX8_holds_5 : decode cX8_holds 5 = .ok (.ifCond .lt 25, 3) := by decide +kernel
theorem dX8_holds_8 : decode cX8_holds 8 = .ok (.iload_n 1, 1) := by decide +kernel
theorem dX8_holds_9 : decode cX8_holds 9 = .ok (.aload_n 0, 1) := by decide +kernel
theorem dX8_holds_10 : decode cX8_holds 10 = .ok (.getfield 26, 3) := by decide +kernel
theorem dX8_holds_13 : decode cX8_holds 13 = .ok (.if_icmp .gt 17, 3) := by decide +kernel
theorem dX8_holds_16 : decode cX8_holds 16 = .ok (.iload_n 2, 1) := by decide +kernel
theorem dX8_holds_17 : decode cX8_holds 17 = .ok (.aload_n 0, 1) := by decide +kernel
theorem dX8_holds_18 : decode cX8_holds 18 = .ok (.getfield 26, 3) := by decide +kernel
theorem dX8_holds_21 : decode cX8_holds 21 = .ok (.iload_n 1, 1) := by decide +kernel
theorem dX8_holds_22 : decode cX8_holds 22 = .ok (.isub, 1) := by decide +kernel
theorem dX8_holds_23 : decode cX8_holds 23 = .ok (.if_icmp .gt 7, 3) := by decide +kernel
theorem dX8_holds_26 : decode cX8_holds 26 = .ok (.iconst 1, 1) := by decide +kernel
theorem dX8_holds_27 : decode cX8_holds 27 = .ok (.goto 4, 3) := by decide +kernel
theorem dX8_holds_30 : decode cX8_holds 30 = .ok (.iconst 0, 1) := by decide +kernel
theorem dX8_holds_31 : decode cX8_holds 31 = .ok (.ireturn, 1) := by decide +kernel
theorem dX8_item_0 : decode cX8_item 0 = .ok (.aload_n 0, 1) := by decide +kernel
theorem dX8_item_1 : decode cX8_item 1 = .ok (.iload_n 1, 1) := by decide +kernel
theorem dX8_item_2 : decode cX8_item 2 = .ok (.iconst 1, 1) := by decide +kernel
theorem dX8_item_3 : decode cX8_item 3 = .ok (.invokevirtual 35, 3) := by decide +kernel
theorem dX8_item_6 : decode cX8_item 6 = .ok (.ifCond .eq 12, 3) := by decide +kernel
theorem dX8_item_9 : decode cX8_item 9 = .ok (.aload_n 0, 1) := by decide +kernel
theorem dX8_item_10 : decode cX8_item 10 = .ok (.getfield 13, 3) := by decide +kernel
theorem dX8_item_13 : decode cX8_item 13 = .ok (.iload_n 1, 1) := by decide +kernel
theorem dX8_item_14 : decode cX8_item 14 = .ok (.iaload, 1) := by decide +kernel
theorem dX8_item_15 : decode cX8_item 15 = .ok (.goto 4, 3) := by decide +kernel
theorem dX8_item_18 : decode cX8_item 18 = .ok (.iconst 0, 1) := by decide +kernel
theorem dX8_item_19 : decode cX8_item 19 = .ok (.ireturn, 1) := by decide +kernel
theorem dX8_put_0 : decode cX8_put 0 = .ok (.aload_n 0, 1) := by decide +kernel
theorem dX8_put_1 : decode cX8_put 1 = .ok (.iload_n 1, 1) := by decide +kernel
theorem dX8_put_2 : decode cX8_put 2 = .ok (.iconst 1, 1) := by decide +kernel
theorem dX8_put_3 : decode cX8_put 3 = .ok (.invokevirtual 35, 3) := by decide +kernel
theorem dX8_put_6 : decode cX8_put 6 = .ok (.ifCond .ne 5, 3) := by decide +kernel
theorem dX8_put_9 : decode cX8_put 9 = .ok (.iconst 0, 1) := by decide +kernel
theorem dX8_put_10 : decode cX8_put 10 = .ok (.ireturn, 1) := by decide +kernel
theorem dX8_put_11 : decode cX8_put 11 = .ok (.aload_n 0, 1) := by decide +kernel
theorem dX8_put_12 : decode cX8_put 12 = .ok (.getfield 13, 3) := by decide +kernel
theorem dX8_put_15 : decode cX8_put 15 = .ok (.iload_n 1, 1) := by decide +kernel
theorem dX8_put_16 : decode cX8_put 16 = .ok (.aload_n 0, 1) := by decide +kernel
theorem dX8_put_17 : decode cX8_put 17 = .ok (.getfield 9, 3) := by decide +kernel
theorem dX8_put_20 : decode cX8_put 20 = .ok (.ifCond .ne 8, 3) := by decide +kernel
theorem dX8_put_23 : decode cX8_put 23 = .ok (.iload_n 2, 1) := by decide +kernel
theorem dX8_put_24 : decode cX8_put 24 = .ok (.i2b, 1) := by decide +kernel
theorem dX8_put_25 : decode cX8_put 25 = .ok (.goto 17, 3) := by decide +kernel
theorem dX8_put_28 : decode cX8_put 28 = .ok (.aload_n 0, 1) := by decide +kernel
theorem dX8_put_29 : decode cX8_put 29 = .ok (.getfield 9, 3) := by decide +kernel
theorem dX8_put_32 : decode cX8_put 32 = .ok (.iconst 1, 1) := by decide +kernel
theorem dX8_put_33 : decode cX8_put 33 = .ok (.if_icmp .ne 8, 3) := by decide +kernel
theorem dX8_put_36 : decode cX8_put 36 = .ok (.iload_n 2, 1) := by decide +kernel
theorem dX8_put_37 : decode cX8_put 37 = .ok (.i2s, 1) := by decide +kernel
theorem dX8_put_38 : decode cX8_put 38 = .ok (.goto 4, 3) := by decide +kernel
theorem dX8_put_41 : decode cX8_put 41 = .ok (.iload_n 2, 1) := by decide +kernel
theorem dX8_put_42 : decode cX8_put 42 = .ok (.iastore, 1) := by decide +kernel
theorem dX8_put_43 : decode cX8_put 43 = .ok (.iconst 1, 1) := by decide +kernel
theorem dX8_put_44 : decode cX8_put 44 = .ok (.ireturn, 1) := by decide +kernel
theorem dX9_init_0 : decode cX9_init 0 = .ok (.aload_n 0, 1) := by decide +kernel
theorem dX9_init_1 : decode cX9_init 1 = .ok (.iload_n 1, 1) := by decide +kernel
theorem dX9_init_2 : decode cX9_init 2 = .ok (.iload_n 2, 1) := by decide +kernel
theorem dX9_init_3 : decode cX9_init 3 = .ok (.iload_n 3, 1) := by decide +kernel
theorem dX9_init_4 : decode cX9_init 4 = .ok (.invokespecial 1, 3) := by decide +kernel
theorem dX9_init_7 : decode cX9_init 7 = .ok (.return_, 1) := by decide +kernel
theorem dX9_pace_0 : decode cX9_pace 0 = .ok (.aload_n 0, 1) := by decide +kernel
theorem dX9_pace_1 : decode cX9_pace 1 = .ok (.invokespecial 7, 3) := by decide +kernel
theorem dX9_pace_4 : decode cX9_pace 4 = .ok (.iconst 3, 1) := by decide +kernel
theorem dX9_pace_5 : decode cX9_pace 5 = .ok (.isub, 1) := by decide +kernel
theorem dX9_pace_6 : decode cX9_pace 6 = .ok (.ireturn, 1) := by decide +kernel
theorem dX9_may_0 : decode cX9_may 0 = .ok (.aload_n 0, 1) := by decide +kernel
theorem dX9_may_1 : decode cX9_may 1 = .ok (.iload_n 1, 1) := by decide +kernel
theorem dX9_may_2 : decode cX9_may 2 = .ok (.invokespecial 11, 3) := by decide +kernel
theorem dX9_may_5 : decode cX9_may 5 = .ok (.ifCond .ne 16, 3) := by decide +kernel
theorem dX9_may_8 : decode cX9_may 8 = .ok (.aload_n 0, 1) := by decide +kernel
theorem dX9_may_9 : decode cX9_may 9 = .ok (.invokevirtual 15, 3) := by decide +kernel
theorem dX9_may_12 : decode cX9_may 12 = .ok (.ifCond .ne 13, 3) := by decide +kernel
theorem dX9_may_15 : decode cX9_may 15 = .ok (.iload_n 1, 1) := by decide +kernel
theorem dX9_may_16 : decode cX9_may 16 = .ok (.bipush 22, 2) := by decide +kernel
theorem dX9_may_18 : decode cX9_may 18 = .ok (.if_icmp .lt 7, 3) := by decide +kernel
theorem dX9_may_21 : decode cX9_may 21 = .ok (.iconst 1, 1) := by decide +kernel
theorem dX9_may_22 : decode cX9_may 22 = .ok (.goto 4, 3) := by decide +kernel
theorem dX9_may_25 : decode cX9_may 25 = .ok (.iconst 0, 1) := by decide +kernel
theorem dX9_may_26 : decode cX9_may 26 = .ok (.ireturn, 1) := by decide +kernel
theorem dX9_parts_0 : decode cX9_parts 0 = .ok (.aload_n 0, 1) := by decide +kernel
theorem dX9_parts_1 : decode cX9_parts 1 = .ok (.invokespecial 21, 3) := by decide +kernel
theorem dX9_parts_4 : decode cX9_parts 4 = .ok (.iconst 2, 1) := by decide +kernel
theorem dX9_parts_5 : decode cX9_parts 5 = .ok (.idiv, 1) := by decide +kernel
theorem dX9_parts_6 : decode cX9_parts 6 = .ok (.ireturn, 1) := by decide +kernel
theorem dX9_rowsAt_0 : decode cX9_rowsAt 0 = .ok (.iconst 1, 1) := by decide +kernel
theorem dX9_rowsAt_1 : decode cX9_rowsAt 1 = .ok (.ireturn, 1) := by decide +kernel
theorem dX10_init_0 : decode cX10_init 0 = .ok (.aload_n 0, 1) := by decide +kernel
theorem dX10_init_1 : decode cX10_init 1 = .ok (.invokespecial 3, 3) := by decide +kernel
theorem dX10_init_4 : decode cX10_init 4 = .ok (.aload_n 0, 1) := by decide +kernel
theorem dX10_init_5 : decode cX10_init 5 = .ok (.sipush 160, 3) := by decide +kernel
theorem dX10_init_8 : decode cX10_init 8 = .ok (.newarray .byte, 2) := by decide +kernel
theorem dX10_init_10 : decode cX10_init 10 = .ok (.putfield 11, 3) := by decide +kernel
theorem dX10_init_13 : decode cX10_init 13 = .ok (.aload_n 0, 1) := by decide +kernel
theorem dX10_init_14 : decode cX10_init 14 = .ok (.sipush 960, 3) := by decide +kernel
theorem dX10_init_17 : decode cX10_init 17 = .ok (.newarray .int, 2) := by decide +kernel
theorem dX10_init_19 : decode cX10_init 19 = .ok (.putfield 15, 3) := by decide +kernel
theorem dX10_init_22 : decode cX10_init 22 = .ok (.aload_n 0, 1) := by decide +kernel
theorem dX10_init_23 : decode cX10_init 23 = .ok (.bipush 18, 2) := by decide +kernel
theorem dX10_init_25 : decode cX10_init 25 = .ok (.newarray .int, 2) := by decide +kernel
theorem dX10_init_27 : decode cX10_init 27 = .ok (.putfield 19, 3) := by decide +kernel
theorem dX10_init_30 : decode cX10_init 30 = .ok (.aload_n 0, 1) := by decide +kernel
theorem dX10_init_31 : decode cX10_init 31 = .ok (.bipush 64, 2) := by decide +kernel
theorem dX10_init_33 : decode cX10_init 33 = .ok (.newarray .int, 2) := by decide +kernel
theorem dX10_init_35 : decode cX10_init 35 = .ok (.putfield 22, 3) := by decide +kernel
theorem dX10_init_38 : decode cX10_init 38 = .ok (.return_, 1) := by decide +kernel
theorem dX10_addBytes_0 : decode cX10_addBytes 0 = .ok (.iload_n 1, 1) := by decide +kernel
theorem dX10_addBytes_1 : decode cX10_addBytes 1 = .ok (.sipush 160, 3) := by decide +kernel
theorem dX10_addBytes_4 : decode cX10_addBytes 4 = .ok (.aload_n 0, 1) := by decide +kernel
theorem dX10_addBytes_5 : decode cX10_addBytes 5 = .ok (.getfield 25, 3) := by decide +kernel
theorem dX10_addBytes_8 : decode cX10_addBytes 8 = .ok (.isub, 1) := by decide +kernel
theorem dX10_addBytes_9 : decode cX10_addBytes 9 = .ok (.if_icmp .le 6, 3) := by decide +kernel
theorem dX10_addBytes_12 : decode cX10_addBytes 12 = .ok (.bipush (-4), 2) := by decide +kernel
theorem dX10_addBytes_14 : decode cX10_addBytes 14 = .ok (.ireturn, 1) := by decide +kernel
theorem dX10_addBytes_15 : decode cX10_addBytes 15 = .ok (.iconst 0, 1) := by decide +kernel
theorem dX10_addBytes_16 : decode cX10_addBytes 16 = .ok (.istore 4, 2) := by decide +kernel
theorem dX10_addBytes_18 : decode cX10_addBytes 18 = .ok (.iload 4, 2) := by decide +kernel
theorem dX10_addBytes_20 : decode cX10_addBytes 20 = .ok (.iload_n 1, 1) := by decide +kernel
theorem dX10_addBytes_21 : decode cX10_addBytes 21 = .ok (.if_icmp .ge 37, 3) := by decide +kernel
theorem dX10_addBytes_24 : decode cX10_addBytes 24 = .ok (.aload_n 0, 1) := by decide +kernel
theorem dX10_addBytes_25 : decode cX10_addBytes 25 = .ok (.getfield 11, 3) := by decide +kernel
theorem dX10_addBytes_28 : decode cX10_addBytes 28 = .ok (.aload_n 0, 1) := by decide +kernel
theorem dX10_addBytes_29 : decode cX10_addBytes 29 = .ok (.getfield 25, 3) := by decide +kernel
theorem dX10_addBytes_32 : decode cX10_addBytes 32 = .ok (.lload_n 2, 1) := by decide +kernel
theorem dX10_addBytes_33 : decode cX10_addBytes 33 = .ok (.bipush 8, 2) := by decide +kernel
theorem dX10_addBytes_35 : decode cX10_addBytes 35 = .ok (.iload 4, 2) := by decide +kernel
theorem dX10_addBytes_37 : decode cX10_addBytes 37 = .ok (.imul, 1) := by decide +kernel
theorem dX10_addBytes_38 : decode cX10_addBytes 38 = .ok (.lshr, 1) := by decide +kernel
theorem dX10_addBytes_39 : decode cX10_addBytes 39 = .ok (.l2i, 1) := by decide +kernel
theorem dX10_addBytes_40 : decode cX10_addBytes 40 = .ok (.i2b, 1) := by decide +kernel
theorem dX10_addBytes_41 : decode cX10_addBytes 41 = .ok (.bastore, 1) := by decide +kernel
theorem dX10_addBytes_42 : decode cX10_addBytes 42 = .ok (.aload_n 0, 1) := by decide +kernel
theorem dX10_addBytes_43 : decode cX10_addBytes 43 = .ok (.dup, 1) := by decide +kernel
theorem dX10_addBytes_44 : decode cX10_addBytes 44 = .ok (.getfield 25, 3) := by decide +kernel
theorem dX10_addBytes_47 : decode cX10_addBytes 47 = .ok (.iconst 1, 1) := by decide +kernel
theorem dX10_addBytes_48 : decode cX10_addBytes 48 = .ok (.iadd, 1) := by decide +kernel
theorem dX10_addBytes_49 : decode cX10_addBytes 49 = .ok (.putfield 25, 3) := by decide +kernel
theorem dX10_addBytes_52 : decode cX10_addBytes 52 = .ok (.iinc 4 1, 3) := by decide +kernel
theorem dX10_addBytes_55 : decode cX10_addBytes 55 = .ok (.goto (-37), 3) := by decide +kernel
theorem dX10_addBytes_58 : decode cX10_addBytes 58 = .ok (.aload_n 0, 1) := by decide +kernel
theorem dX10_addBytes_59 : decode cX10_addBytes 59 = .ok (.getfield 25, 3) := by decide +kernel
theorem dX10_addBytes_62 : decode cX10_addBytes 62 = .ok (.ireturn, 1) := by decide +kernel
theorem dX10_addSigns_0 : decode cX10_addSigns 0 = .ok (.iconst 0, 1) := by decide +kernel
theorem dX10_addSigns_1 : decode cX10_addSigns 1 = .ok (.istore_n 2, 1) := by decide +kernel
theorem dX10_addSigns_2 : decode cX10_addSigns 2 = .ok (.iload_n 2, 1) := by decide +kernel
theorem dX10_addSigns_3 : decode cX10_addSigns 3 = .ok (.aload_n 1, 1) := by decide +kernel
theorem dX10_addSigns_4 : decode cX10_addSigns 4 = .ok (.invokevirtual 29, 3) := by decide +kernel
theorem dX10_addSigns_7 : decode cX10_addSigns 7 = .ok (.if_icmp .ge 21, 3) := by decide +kernel
theorem dX10_addSigns_10 : decode cX10_addSigns 10 = .ok (.aload_n 0, 1) := by decide +kernel
theorem dX10_addSigns_11 : decode cX10_addSigns 11 = .ok (.iconst 1, 1) := by decide +kernel
theorem dX10_addSigns_12 : decode cX10_addSigns 12 = .ok (.aload_n 1, 1) := by decide +kernel
theorem dX10_addSigns_13 : decode cX10_addSigns 13 = .ok (.iload_n 2, 1) := by decide +kernel
theorem dX10_addSigns_14 : decode cX10_addSigns 14 = .ok (.invokevirtual 35, 3) := by decide +kernel
theorem dX10_addSigns_17 : decode cX10_addSigns 17 = .ok (.i2l, 1) := by decide +kernel
theorem dX10_addSigns_18 : decode cX10_addSigns 18 = .ok (.invokevirtual 39, 3) := by decide +kernel
theorem dX10_addSigns_21 : decode cX10_addSigns 21 = .ok (.pop, 1) := by decide +kernel
theorem dX10_addSigns_22 : decode cX10_addSigns 22 = .ok (.iinc 2 1, 3) := by decide +kernel
theorem dX10_addSigns_25 : decode cX10_addSigns 25 = .ok (.goto (-23), 3) := by decide +kernel
theorem dX10_addSigns_28 : decode cX10_addSigns 28 = .ok (.return_, 1) := by decide +kernel
theorem dX10_readTape_0 : decode cX10_readTape 0 = .ok (.aload_n 0, 1) := by decide +kernel
theorem dX10_readTape_1 : decode cX10_readTape 1 = .ok (.getfield 43, 3) := by decide +kernel
theorem dX10_readTape_4 : decode cX10_readTape 4 = .ok (.bipush 6, 2) := by decide +kernel
theorem dX10_readTape_6 : decode cX10_readTape 6 = .ok (.if_icmp .lt 6, 3) := by decide +kernel
theorem dX10_readTape_9 : decode cX10_readTape 9 = .ok (.bipush (-4), 2) := by decide +kernel
theorem dX10_readTape_11 : decode cX10_readTape 11 = .ok (.ireturn, 1) := by decide +kernel
theorem dX10_readTape_12 : decode cX10_readTape 12 = .ok (.aload_n 0, 1) := by decide +kernel
theorem dX10_readTape_13 : decode cX10_readTape 13 = .ok (.iconst 0, 1) := by decide +kernel
theorem dX10_readTape_14 : decode cX10_readTape 14 = .ok (.putfield 46, 3) := by decide +kernel
theorem dX10_readTape_17 : decode cX10_readTape 17 = .ok (.aload_n 0, 1) := by decide +kernel
theorem dX10_readTape_18 : decode cX10_readTape 18 = .ok (.iconst 0, 1) := by decide +kernel
theorem dX10_readTape_19 : decode cX10_readTape 19 = .ok (.putfield 48, 3) := by decide +kernel
theorem dX10_readTape_22 : decode cX10_readTape 22 = .ok (.aload_n 0, 1) := by decide +kernel
theorem dX10_readTape_23 : decode cX10_readTape 23 = .ok (.iconst (-1), 1) := by decide +kernel
theorem dX10_readTape_24 : decode cX10_readTape 24 = .ok (.putfield 51, 3) := by decide +kernel
theorem dX10_readTape_27 : decode cX10_readTape 27 = .ok (.aload_n 0, 1) := by decide +kernel
theorem dX10_readTape_28 : decode cX10_readTape 28 = .ok (.invokevirtual 54, 3) := by decide +kernel
theorem dX10_readTape_31 : decode cX10_readTape 31 = .ok (.iconst 0, 1) := by decide +kernel
theorem dX10_readTape_32 : decode cX10_readTape 32 = .ok (.istore_n 1, 1) := by decide +kernel
theorem dX10_readTape_33 : decode cX10_readTape 33 = .ok (.iload_n 1, 1) := by decide +kernel
theorem dX10_readTape_34 : decode cX10_readTape 34 = .ok (.iconst 3, 1) := by decide +kernel
theorem dX10_readTape_35 : decode cX10_readTape 35 = .ok (.if_icmp .ge 53, 3) := by decide +kernel
theorem dX10_readTape_38 : decode cX10_readTape 38 = .ok (.aload_n 0, 1) := by decide +kernel
theorem dX10_readTape_39 : decode cX10_readTape 39 = .ok (.getfield 19, 3) := by decide +kernel
theorem dX10_readTape_42 : decode cX10_readTape 42 = .ok (.aload_n 0, 1) := by decide +kernel
theorem dX10_readTape_43 : decode cX10_readTape 43 = .ok (.getfield 43, 3) := by decide +kernel
theorem dX10_readTape_46 : decode cX10_readTape 46 = .ok (.iconst 3, 1) := by decide +kernel
theorem dX10_readTape_47 : decode cX10_readTape 47 = .ok (.imul, 1) := by decide +kernel
theorem dX10_readTape_48 : decode cX10_readTape 48 = .ok (.iload_n 1, 1) := by decide +kernel
theorem dX10_readTape_49 : decode cX10_readTape 49 = .ok (.iadd, 1) := by decide +kernel
theorem dX10_readTape_50 : decode cX10_readTape 50 = .ok (.aload_n 0, 1) := by decide +kernel
theorem dX10_readTape_51 : decode cX10_readTape 51 = .ok (.getfield 46, 3) := by decide +kernel
theorem dX10_readTape_54 : decode cX10_readTape 54 = .ok (.iastore, 1) := by decide +kernel
theorem dX10_readTape_55 : decode cX10_readTape 55 = .ok (.aload_n 0, 1) := by decide +kernel
theorem dX10_readTape_56 : decode cX10_readTape 56 = .ok (.bipush 6, 2) := by decide +kernel
theorem dX10_readTape_58 : decode cX10_readTape 58 = .ok (.iload_n 1, 1) := by decide +kernel
theorem dX10_readTape_59 : decode cX10_readTape 59 = .ok (.iadd, 1) := by decide +kernel
theorem dX10_readTape_60 : decode cX10_readTape 60 = .ok (.invokevirtual 57, 3) := by decide +kernel
theorem dX10_readTape_63 : decode cX10_readTape 63 = .ok (.aload_n 0, 1) := by decide +kernel
theorem dX10_readTape_64 : decode cX10_readTape 64 = .ok (.iconst 0, 1) := by decide +kernel
theorem dX10_readTape_65 : decode cX10_readTape 65 = .ok (.iconst 0, 1) := by decide +kernel
theorem dX10_readTape_66 : decode cX10_readTape 66 = .ok (.invokevirtual 61, 3) := by decide +kernel
theorem dX10_readTape_69 : decode cX10_readTape 69 = .ok (.aload_n 0, 1) := by decide +kernel
theorem dX10_readTape_70 : decode cX10_readTape 70 = .ok (.bipush 59, 2) := by decide +kernel
theorem dX10_readTape_72 : decode cX10_readTape 72 = .ok (.invokevirtual 57, 3) := by decide +kernel
theorem dX10_readTape_75 : decode cX10_readTape 75 = .ok (.aload_n 0, 1) := by decide +kernel
theorem dX10_readTape_76 : decode cX10_readTape 76 = .ok (.sipush 10059, 3) := by decide +kernel
theorem dX10_readTape_79 : decode cX10_readTape 79 = .ok (.invokevirtual 65, 3) := by decide +kernel
theorem dX10_readTape_82 : decode cX10_readTape 82 = .ok (.iinc 1 1, 3) := by decide +kernel
theorem dX10_readTape_85 : decode cX10_readTape 85 = .ok (.goto (-52), 3) := by decide +kernel
theorem dX10_readTape_88 : decode cX10_readTape 88 = .ok (.aload_n 0, 1) := by decide +kernel
theorem dX10_readTape_89 : decode cX10_readTape 89 = .ok (.getfield 68, 3) := by decide +kernel
theorem dX10_readTape_92 : decode cX10_readTape 92 = .ok (.bipush 13, 2) := by decide +kernel
theorem dX10_readTape_94 : decode cX10_readTape 94 = .ok (.if_icmp .eq 7, 3) := by decide +kernel
theorem dX10_readTape_97 : decode cX10_readTape 97 = .ok (.aload_n 0, 1) := by decide +kernel
theorem dX10_readTape_98 : decode cX10_readTape 98 = .ok (.invokevirtual 71, 3) := by decide +kernel
theorem dX10_readTape_101 : decode cX10_readTape 101 = .ok (.aload_n 0, 1) := by decide +kernel
theorem dX10_readTape_102 : decode cX10_readTape 102 = .ok (.iconst 0, 1) := by decide +kernel
theorem dX10_readTape_103 : decode cX10_readTape 103 = .ok (.putfield 25, 3) := by decide +kernel
theorem dX10_readTape_106 : decode cX10_readTape 106 = .ok (.aload_n 0, 1) := by decide +kernel
theorem dX10_readTape_107 : decode cX10_readTape 107 = .ok (.getfield 51, 3) := by decide +kernel
theorem dX10_readTape_110 : decode cX10_readTape 110 = .ok (.iconst (-1), 1) := by decide +kernel
theorem dX10_readTape_111 : decode cX10_readTape 111 = .ok (.if_icmp .eq 11, 3) := by decide +kernel
theorem dX10_readTape_114 : decode cX10_readTape 114 = .ok (.bipush (-100), 2) := by decide +kernel
theorem dX10_readTape_116 : decode cX10_readTape 116 = .ok (.aload_n 0, 1) := by decide +kernel
theorem dX10_readTape_117 : decode cX10_readTape 117 = .ok (.getfield 51, 3) := by decide +kernel
theorem dX10_readTape_120 : decode cX10_readTape 120 = .ok (.isub, 1) := by decide +kernel
theorem dX10_readTape_121 : decode cX10_readTape 121 = .ok (.ireturn, 1) := by decide +kernel
theorem dX10_readTape_122 : decode cX10_readTape 122 = .ok (.aload_n 0, 1) := by decide +kernel
theorem dX10_readTape_123 : decode cX10_readTape 123 = .ok (.dup, 1) := by decide +kernel
theorem dX10_readTape_124 : decode cX10_readTape 124 = .ok (.getfield 43, 3) := by decide +kernel
theorem dX10_readTape_127 : decode cX10_readTape 127 = .ok (.iconst 1, 1) := by decide +kernel
theorem dX10_readTape_128 : decode cX10_readTape 128 = .ok (.iadd, 1) := by decide +kernel
theorem dX10_readTape_129 : decode cX10_readTape 129 = .ok (.putfield 43, 3) := by decide +kernel
theorem dX10_readTape_132 : decode cX10_readTape 132 = .ok (.aload_n 0, 1) := by decide +kernel
theorem dX10_readTape_133 : decode cX10_readTape 133 = .ok (.getfield 43, 3) := by decide +kernel
theorem dX10_readTape_136 : decode cX10_readTape 136 = .ok (.iconst 1, 1) := by decide +kernel
theorem dX10_readTape_137 : decode cX10_readTape 137 = .ok (.isub, 1) := by decide +kernel
theorem dX10_readTape_138 : decode cX10_readTape 138 = .ok (.ireturn, 1) := by decide +kernel
theorem dX10_read_0 : decode cX10_read 0 = .ok (.iload_n 1, 1) := by decide +kernel
theorem dX10_read_1 : decode cX10_read 1 = .ok (.iconst 5, 1) := by decide +kernel
theorem dX10_read_2 : decode cX10_read 2 = .ok (.if_icmp .ne 29, 3) := by decide +kernel
theorem dX10_read_5 : decode cX10_read 5 = .ok (.aload_n 0, 1) := by decide +kernel
theorem dX10_read_6 : decode cX10_read 6 = .ok (.getfield 68, 3) := by decide +kernel
theorem dX10_read_9 : decode cX10_read 9 = .ok (.bipush 45, 2) := by decide +kernel
theorem dX10_read_11 : decode cX10_read 11 = .ok (.if_icmp .eq 12, 3) := by decide +kernel
theorem dX10_read_14 : decode cX10_read 14 = .ok (.aload_n 0, 1) := by decide +kernel
theorem dX10_read_15 : decode cX10_read 15 = .ok (.getfield 68, 3) := by decide +kernel
theorem dX10_read_18 : decode cX10_read 18 = .ok (.bipush 40, 2) := by decide +kernel
theorem dX10_read_20 : decode cX10_read 20 = .ok (.if_icmp .ne 7, 3) := by decide +kernel
theorem dX10_read_23 : decode cX10_read 23 = .ok (.iconst 1, 1) := by decide +kernel
theorem dX10_read_24 : decode cX10_read 24 = .ok (.goto 26, 3) := by decide +kernel
theorem dX10_read_27 : decode cX10_read 27 = .ok (.iconst 0, 1) := by decide +kernel
theorem dX10_read_28 : decode cX10_read 28 = .ok (.goto 22, 3) := by decide +kernel
theorem dX10_read_31 : decode cX10_read 31 = .ok (.iload_n 1, 1) := by decide +kernel
theorem dX10_read_32 : decode cX10_read 32 = .ok (.iconst 2, 1) := by decide +kernel
theorem dX10_read_33 : decode cX10_read 33 = .ok (.if_icmp .ne 16, 3) := by decide +kernel
theorem dX10_read_36 : decode cX10_read 36 = .ok (.aload_n 0, 1) := by decide +kernel
theorem dX10_read_37 : decode cX10_read 37 = .ok (.getfield 68, 3) := by decide +kernel
theorem dX10_read_40 : decode cX10_read 40 = .ok (.bipush 11, 2) := by decide +kernel
theorem dX10_read_42 : decode cX10_read 42 = .ok (.if_icmp .ne 7, 3) := by decide +kernel
theorem dX10_read_45 : decode cX10_read 45 = .ok (.iconst 1, 1) := by decide +kernel
theorem dX10_read_46 : decode cX10_read 46 = .ok (.goto 4, 3) := by decide +kernel
theorem dX10_read_49 : decode cX10_read 49 = .ok (.iconst 0, 1) := by decide +kernel
theorem dX10_read_50 : decode cX10_read 50 = .ok (.istore_n 3, 1) := by decide +kernel
theorem dX10_read_51 : decode cX10_read 51 = .ok (.iload_n 3, 1) := by decide +kernel
theorem dX10_read_52 : decode cX10_read 52 = .ok (.ifCond .eq 11, 3) := by decide +kernel
theorem dX10_read_55 : decode cX10_read 55 = .ok (.aload_n 0, 1) := by decide +kernel
theorem dX10_read_56 : decode cX10_read 56 = .ok (.iload_n 2, 1) := by decide +kernel
theorem dX10_read_57 : decode cX10_read 57 = .ok (.invokevirtual 74, 3) := by decide +kernel
theorem dX10_read_60 : decode cX10_read 60 = .ok (.goto 21, 3) := by decide +kernel
theorem dX10_read_63 : decode cX10_read 63 = .ok (.iload_n 1, 1) := by decide +kernel
theorem dX10_read_64 : decode cX10_read 64 = .ok (.iconst 5, 1) := by decide +kernel
theorem dX10_read_65 : decode cX10_read 65 = .ok (.if_icmp .ne 10, 3) := by decide +kernel
theorem dX10_read_68 : decode cX10_read 68 = .ok (.aload_n 0, 1) := by decide +kernel
theorem dX10_read_69 : decode cX10_read 69 = .ok (.invokevirtual 77, 3) := by decide +kernel
theorem dX10_read_72 : decode cX10_read 72 = .ok (.goto 9, 3) := by decide +kernel
theorem dX10_read_75 : decode cX10_read 75 = .ok (.aload_n 0, 1) := by decide +kernel
theorem dX10_read_76 : decode cX10_read 76 = .ok (.iload_n 1, 1) := by decide +kernel
theorem dX10_read_77 : decode cX10_read 77 = .ok (.iload_n 2, 1) := by decide +kernel
theorem dX10_read_78 : decode cX10_read 78 = .ok (.invokevirtual 80, 3) := by decide +kernel
theorem dX10_read_81 : decode cX10_read 81 = .ok (.return_, 1) := by decide +kernel
theorem dX10_readOpening_0 : decode cX10_readOpening 0 = .ok (.iload_n 1, 1) := by decide +kernel
theorem dX10_readOpening_1 : decode cX10_readOpening 1 = .ok (.iconst 5, 1) := by decide +kernel
theorem dX10_readOpening_2 : decode cX10_readOpening 2 = .ok (.if_icmp .lt 8, 3) := by decide +kernel
theorem dX10_readOpening_5 : decode cX10_readOpening 5 = .ok (.aload_n 0, 1) := by decide +kernel
theorem dX10_readOpening_6 : decode cX10_readOpening 6 = .ok (.invokevirtual 71, 3) := by decide +kernel
theorem dX10_readOpening_9 : decode cX10_readOpening 9 = .ok (.return_, 1) := by decide +kernel
theorem dX10_readOpening_10 : decode cX10_readOpening 10 = .ok (.aload_n 0, 1) := by decide +kernel
theorem dX10_readOpening_11 : decode cX10_readOpening 11 = .ok (.getfield 68, 3) := by decide +kernel
theorem dX10_readOpening_14 : decode cX10_readOpening 14 = .ok (.istore_n 2, 1) := by decide +kernel
theorem dX10_readOpening_15 : decode cX10_readOpening 15 = .ok (.aload_n 0, 1) := by decide +kernel
theorem dX10_readOpening_16 : decode cX10_readOpening 16 = .ok (.invokevirtual 54, 3) := by decide +kernel
theorem dX10_readOpening_19 : decode cX10_readOpening 19 = .ok (.aload_n 0, 1) := by decide +kernel
theorem dX10_readOpening_20 : decode cX10_readOpening 20 = .ok (.iload_n 2, 1) := by decide +kernel
theorem dX10_readOpening_21 : decode cX10_readOpening 21 = .ok (.bipush 11, 2) := by decide +kernel
theorem dX10_readOpening_23 : decode cX10_readOpening 23 = .ok (.if_icmp .ne 7, 3) := by decide +kernel
theorem dX10_readOpening_26 : decode cX10_readOpening 26 = .ok (.iconst 2, 1) := by decide +kernel
theorem dX10_readOpening_27 : decode cX10_readOpening 27 = .ok (.goto 14, 3) := by decide +kernel
theorem dX10_readOpening_30 : decode cX10_readOpening 30 = .ok (.iload_n 2, 1) := by decide +kernel
theorem dX10_readOpening_31 : decode cX10_readOpening 31 = .ok (.bipush 45, 2) := by decide +kernel
theorem dX10_readOpening_33 : decode cX10_readOpening 33 = .ok (.if_icmp .ne 7, 3) := by decide +kernel
theorem dX10_readOpening_36 : decode cX10_readOpening 36 = .ok (.iconst 5, 1) := by decide +kernel
theorem dX10_readOpening_37 : decode cX10_readOpening 37 = .ok (.goto 4, 3) := by decide +kernel
theorem dX10_readOpening_40 : decode cX10_readOpening 40 = .ok (.iconst 0, 1) := by decide +kernel
theorem dX10_readOpening_41 : decode cX10_readOpening 41 = .ok (.iload_n 1, 1) := by decide +kernel
theorem dX10_readOpening_42 : decode cX10_readOpening 42 = .ok (.iconst 1, 1) := by decide +kernel
theorem dX10_readOpening_43 : decode cX10_readOpening 43 = .ok (.iadd, 1) := by decide +kernel
theorem dX10_readOpening_44 : decode cX10_readOpening 44 = .ok (.invokevirtual 61, 3) := by decide +kernel
theorem dX10_readOpening_47 : decode cX10_readOpening 47 = .ok (.iload_n 2, 1) := by decide +kernel
theorem dX10_readOpening_48 : decode cX10_readOpening 48 = .ok (.bipush 40, 2) := by decide +kernel
theorem dX10_readOpening_50 : decode cX10_readOpening 50 = .ok (.if_icmp .ne 12, 3) := by decide +kernel
theorem dX10_readOpening_53 : decode cX10_readOpening 53 = .ok (.aload_n 0, 1) := by decide +kernel
theorem dX10_readOpening_54 : decode cX10_readOpening 54 = .ok (.bipush 41, 2) := by decide +kernel
theorem dX10_readOpening_56 : decode cX10_readOpening 56 = .ok (.invokevirtual 57, 3) := by decide +kernel
theorem dX10_readOpening_59 : decode cX10_readOpening 59 = .ok (.goto 24, 3) := by decide +kernel
theorem dX10_readOpening_62 : decode cX10_readOpening 62 = .ok (.aload_n 0, 1) := by decide +kernel
theorem dX10_readOpening_63 : decode cX10_readOpening 63 = .ok (.sipush 10000, 3) := by decide +kernel
theorem dX10_readOpening_66 : decode cX10_readOpening 66 = .ok (.iload_n 2, 1) := by decide +kernel
theorem dX10_readOpening_67 : decode cX10_readOpening 67 = .ok (.bipush 11, 2) := by decide +kernel
theorem dX10_readOpening_69 : decode cX10_readOpening 69 = .ok (.if_icmp .ne 8, 3) := by decide +kernel
theorem dX10_readOpening_72 : decode cX10_readOpening 72 = .ok (.bipush 11, 2) := by decide +kernel
theorem dX10_readOpening_74 : decode cX10_readOpening 74 = .ok (.goto 5, 3) := by decide +kernel
theorem dX10_readOpening_77 : decode cX10_readOpening 77 = .ok (.bipush 15, 2) := by decide +kernel
theorem dX10_readOpening_79 : decode cX10_readOpening 79 = .ok (.iadd, 1) := by decide +kernel
theorem dX10_readOpening_80 : decode cX10_readOpening 80 = .ok (.invokevirtual 65, 3) := by decide +kernel
theorem dX10_readOpening_83 : decode cX10_readOpening 83 = .ok (.return_, 1) := by decide +kernel
theorem dX10_readOne_0 : decode cX10_readOne 0 = .ok (.aload_n 0, 1) := by decide +kernel
theorem dX10_readOne_1 : decode cX10_readOne 1 = .ok (.getfield 68, 3) := by decide +kernel
theorem dX10_readOne_4 : decode cX10_readOne 4 = .ok (.bipush 12, 2) := by decide +kernel
theorem dX10_readOne_6 : decode cX10_readOne 6 = .ok (.if_icmp .ne 18, 3) := by decide +kernel
theorem dX10_readOne_9 : decode cX10_readOne 9 = .ok (.aload_n 0, 1) := by decide +kernel
theorem dX10_readOne_10 : decode cX10_readOne 10 = .ok (.aload_n 0, 1) := by decide +kernel
theorem dX10_readOne_11 : decode cX10_readOne 11 = .ok (.getfield 83, 3) := by decide +kernel
theorem dX10_readOne_14 : decode cX10_readOne 14 = .ok (.invokevirtual 65, 3) := by decide +kernel
theorem dX10_readOne_17 : decode cX10_readOne 17 = .ok (.aload_n 0, 1) := by decide +kernel
theorem dX10_readOne_18 : decode cX10_readOne 18 = .ok (.invokevirtual 54, 3) := by decide +kernel
theorem dX10_readOne_21 : decode cX10_readOne 21 = .ok (.goto 42, 3) := by decide +kernel
theorem dX10_readOne_24 : decode cX10_readOne 24 = .ok (.aload_n 0, 1) := by decide +kernel
theorem dX10_readOne_25 : decode cX10_readOne 25 = .ok (.getfield 68, 3) := by decide +kernel
theorem dX10_readOne_28 : decode cX10_readOne 28 = .ok (.ifCond .lt 31, 3) := by decide +kernel
theorem dX10_readOne_31 : decode cX10_readOne 31 = .ok (.aload_n 0, 1) := by decide +kernel
theorem dX10_readOne_32 : decode cX10_readOne 32 = .ok (.getfield 68, 3) := by decide +kernel
theorem dX10_readOne_35 : decode cX10_readOne 35 = .ok (.bipush 6, 2) := by decide +kernel
theorem dX10_readOne_37 : decode cX10_readOne 37 = .ok (.if_icmp .ge 22, 3) := by decide +kernel
theorem dX10_readOne_40 : decode cX10_readOne 40 = .ok (.aload_n 0, 1) := by decide +kernel
theorem dX10_readOne_41 : decode cX10_readOne 41 = .ok (.sipush 10000, 3) := by decide +kernel
theorem dX10_readOne_44 : decode cX10_readOne 44 = .ok (.aload_n 0, 1) := by decide +kernel
theorem dX10_readOne_45 : decode cX10_readOne 45 = .ok (.getfield 68, 3) := by decide +kernel
theorem dX10_readOne_48 : decode cX10_readOne 48 = .ok (.iadd, 1) := by decide +kernel
theorem dX10_readOne_49 : decode cX10_readOne 49 = .ok (.invokevirtual 65, 3) := by decide +kernel
theorem dX10_readOne_52 : decode cX10_readOne 52 = .ok (.aload_n 0, 1) := by decide +kernel
theorem dX10_readOne_53 : decode cX10_readOne 53 = .ok (.invokevirtual 54, 3) := by decide +kernel
theorem dX10_readOne_56 : decode cX10_readOne 56 = .ok (.goto 7, 3) := by decide +kernel
theorem dX10_readOne_59 : decode cX10_readOne 59 = .ok (.aload_n 0, 1) := by decide +kernel
theorem dX10_readOne_60 : decode cX10_readOne 60 = .ok (.invokevirtual 71, 3) := by decide +kernel
theorem dX10_readOne_63 : decode cX10_readOne 63 = .ok (.return_, 1) := by decide +kernel
theorem dX10_readJoined_0 : decode cX10_readJoined 0 = .ok (.aload_n 0, 1) := by decide +kernel
theorem dX10_readJoined_1 : decode cX10_readJoined 1 = .ok (.iload_n 1, 1) := by decide +kernel
theorem dX10_readJoined_2 : decode cX10_readJoined 2 = .ok (.iconst 1, 1) := by decide +kernel
theorem dX10_readJoined_3 : decode cX10_readJoined 3 = .ok (.iadd, 1) := by decide +kernel
theorem dX10_readJoined_4 : decode cX10_readJoined 4 = .ok (.iload_n 2, 1) := by decide +kernel
theorem dX10_readJoined_5 : decode cX10_readJoined 5 = .ok (.invokevirtual 61, 3) := by decide +kernel
theorem dX10_readJoined_8 : decode cX10_readJoined 8 = .ok (.iload_n 1, 1) := by decide +kernel
theorem dX10_readJoined_9 : decode cX10_readJoined 9 = .ok (.iconst 2, 1) := by decide +kernel
theorem dX10_readJoined_10 : decode cX10_readJoined 10 = .ok (.if_icmp .ne 7, 3) := by decide +kernel
theorem dX10_readJoined_13 : decode cX10_readJoined 13 = .ok (.iconst 1, 1) := by decide +kernel
theorem dX10_readJoined_14 : decode cX10_readJoined 14 = .ok (.goto 6, 3) := by decide +kernel
theorem dX10_readJoined_17 : decode cX10_readJoined 17 = .ok (.sipush 160, 3) := by decide +kernel
theorem dX10_readJoined_20 : decode cX10_readJoined 20 = .ok (.istore_n 3, 1) := by decide +kernel
theorem dX10_readJoined_21 : decode cX10_readJoined 21 = .ok (.iconst 0, 1) := by decide +kernel
theorem dX10_readJoined_22 : decode cX10_readJoined 22 = .ok (.istore 4, 2) := by decide +kernel
theorem dX10_readJoined_24 : decode cX10_readJoined 24 = .ok (.iload 4, 2) := by decide +kernel
theorem dX10_readJoined_26 : decode cX10_readJoined 26 = .ok (.iload_n 3, 1) := by decide +kernel
theorem dX10_readJoined_27 : decode cX10_readJoined 27 = .ok (.if_icmp .ge 45, 3) := by decide +kernel
theorem dX10_readJoined_30 : decode cX10_readJoined 30 = .ok (.aload_n 0, 1) := by decide +kernel
theorem dX10_readJoined_31 : decode cX10_readJoined 31 = .ok (.iload_n 1, 1) := by decide +kernel
theorem dX10_readJoined_32 : decode cX10_readJoined 32 = .ok (.invokevirtual 86, 3) := by decide +kernel
theorem dX10_readJoined_35 : decode cX10_readJoined 35 = .ok (.ifCond .eq 37, 3) := by decide +kernel
theorem dX10_readJoined_38 : decode cX10_readJoined 38 = .ok (.aload_n 0, 1) := by decide +kernel
theorem dX10_readJoined_39 : decode cX10_readJoined 39 = .ok (.getfield 68, 3) := by decide +kernel
theorem dX10_readJoined_42 : decode cX10_readJoined 42 = .ok (.istore 5, 2) := by decide +kernel
theorem dX10_readJoined_44 : decode cX10_readJoined 44 = .ok (.aload_n 0, 1) := by decide +kernel
theorem dX10_readJoined_45 : decode cX10_readJoined 45 = .ok (.invokevirtual 54, 3) := by decide +kernel
theorem dX10_readJoined_48 : decode cX10_readJoined 48 = .ok (.aload_n 0, 1) := by decide +kernel
theorem dX10_readJoined_49 : decode cX10_readJoined 49 = .ok (.iload_n 1, 1) := by decide +kernel
theorem dX10_readJoined_50 : decode cX10_readJoined 50 = .ok (.iconst 1, 1) := by decide +kernel
theorem dX10_readJoined_51 : decode cX10_readJoined 51 = .ok (.iadd, 1) := by decide +kernel
theorem dX10_readJoined_52 : decode cX10_readJoined 52 = .ok (.iload_n 2, 1) := by decide +kernel
theorem dX10_readJoined_53 : decode cX10_readJoined 53 = .ok (.invokevirtual 61, 3) := by decide +kernel
theorem dX10_readJoined_56 : decode cX10_readJoined 56 = .ok (.aload_n 0, 1) := by decide +kernel
theorem dX10_readJoined_57 : decode cX10_readJoined 57 = .ok (.sipush 10000, 3) := by decide +kernel
theorem dX10_readJoined_60 : decode cX10_readJoined 60 = .ok (.iload 5, 2) := by decide +kernel
theorem dX10_readJoined_62 : decode cX10_readJoined 62 = .ok (.iadd, 1) := by decide +kernel
theorem dX10_readJoined_63 : decode cX10_readJoined 63 = .ok (.invokevirtual 65, 3) := by decide +kernel
theorem dX10_readJoined_66 : decode cX10_readJoined 66 = .ok (.iinc 4 1, 3) := by decide +kernel
theorem dX10_readJoined_69 : decode cX10_readJoined 69 = .ok (.goto (-45), 3) := by decide +kernel
theorem dX10_readJoined_72 : decode cX10_readJoined 72 = .ok (.return_, 1) := by decide +kernel
theorem dX10_joins_0 : decode cX10_joins 0 = .ok (.iload_n 1, 1) := by decide +kernel
theorem dX10_joins_1 : decode cX10_joins 1 = .ok (.tableswitch 128 0 4 #[35, 50, 65, 89, 113], 35) := by decide +kernel
theorem dX10_joins_36 : decode cX10_joins 36 = .ok (.aload_n 0, 1) := by decide +kernel
theorem dX10_joins_37 : decode cX10_joins 37 = .ok (.getfield 68, 3) := by decide +kernel
theorem dX10_joins_40 : decode cX10_joins 40 = .ok (.bipush 9, 2) := by decide +kernel
theorem dX10_joins_42 : decode cX10_joins 42 = .ok (.if_icmp .ne 7, 3) := by decide +kernel
theorem dX10_joins_45 : decode cX10_joins 45 = .ok (.iconst 1, 1) := by decide +kernel
theorem dX10_joins_46 : decode cX10_joins 46 = .ok (.goto 4, 3) := by decide +kernel
theorem dX10_joins_49 : decode cX10_joins 49 = .ok (.iconst 0, 1) := by decide +kernel
theorem dX10_joins_50 : decode cX10_joins 50 = .ok (.ireturn, 1) := by decide +kernel
theorem dX10_joins_51 : decode cX10_joins 51 = .ok (.aload_n 0, 1) := by decide +kernel
theorem dX10_joins_52 : decode cX10_joins 52 = .ok (.getfield 68, 3) := by decide +kernel
theorem dX10_joins_55 : decode cX10_joins 55 = .ok (.bipush 10, 2) := by decide +kernel
theorem dX10_joins_57 : decode cX10_joins 57 = .ok (.if_icmp .ne 7, 3) := by decide +kernel
theorem dX10_joins_60 : decode cX10_joins 60 = .ok (.iconst 1, 1) := by decide +kernel
theorem dX10_joins_61 : decode cX10_joins 61 = .ok (.goto 4, 3) := by decide +kernel
theorem dX10_joins_64 : decode cX10_joins 64 = .ok (.iconst 0, 1) := by decide +kernel
theorem dX10_joins_65 : decode cX10_joins 65 = .ok (.ireturn, 1) := by decide +kernel
theorem dX10_joins_66 : decode cX10_joins 66 = .ok (.aload_n 0, 1) := by decide +kernel
theorem dX10_joins_67 : decode cX10_joins 67 = .ok (.getfield 68, 3) := by decide +kernel
theorem dX10_joins_70 : decode cX10_joins 70 = .ok (.bipush 60, 2) := by decide +kernel
theorem dX10_joins_72 : decode cX10_joins 72 = .ok (.if_icmp .eq 12, 3) := by decide +kernel
theorem dX10_joins_75 : decode cX10_joins 75 = .ok (.aload_n 0, 1) := by decide +kernel
theorem dX10_joins_76 : decode cX10_joins 76 = .ok (.getfield 68, 3) := by decide +kernel
theorem dX10_joins_79 : decode cX10_joins 79 = .ok (.bipush 61, 2) := by decide +kernel
theorem dX10_joins_81 : decode cX10_joins 81 = .ok (.if_icmp .ne 7, 3) := by decide +kernel
theorem dX10_joins_84 : decode cX10_joins 84 = .ok (.iconst 1, 1) := by decide +kernel
theorem dX10_joins_85 : decode cX10_joins 85 = .ok (.goto 4, 3) := by decide +kernel
theorem dX10_joins_88 : decode cX10_joins 88 = .ok (.iconst 0, 1) := by decide +kernel
theorem dX10_joins_89 : decode cX10_joins 89 = .ok (.ireturn, 1) := by decide +kernel
theorem dX10_joins_90 : decode cX10_joins 90 = .ok (.aload_n 0, 1) := by decide +kernel
theorem dX10_joins_91 : decode cX10_joins 91 = .ok (.getfield 68, 3) := by decide +kernel
theorem dX10_joins_94 : decode cX10_joins 94 = .ok (.bipush 43, 2) := by decide +kernel
theorem dX10_joins_96 : decode cX10_joins 96 = .ok (.if_icmp .eq 12, 3) := by decide +kernel
theorem dX10_joins_99 : decode cX10_joins 99 = .ok (.aload_n 0, 1) := by decide +kernel
theorem dX10_joins_100 : decode cX10_joins 100 = .ok (.getfield 68, 3) := by decide +kernel
theorem dX10_joins_103 : decode cX10_joins 103 = .ok (.bipush 45, 2) := by decide +kernel
theorem dX10_joins_105 : decode cX10_joins 105 = .ok (.if_icmp .ne 7, 3) := by decide +kernel
theorem dX10_joins_108 : decode cX10_joins 108 = .ok (.iconst 1, 1) := by decide +kernel
theorem dX10_joins_109 : decode cX10_joins 109 = .ok (.goto 4, 3) := by decide +kernel
theorem dX10_joins_112 : decode cX10_joins 112 = .ok (.iconst 0, 1) := by decide +kernel
theorem dX10_joins_113 : decode cX10_joins 113 = .ok (.ireturn, 1) := by decide +kernel
theorem dX10_joins_114 : decode cX10_joins 114 = .ok (.aload_n 0, 1) := by decide +kernel
theorem dX10_joins_115 : decode cX10_joins 115 = .ok (.getfield 68, 3) := by decide +kernel
theorem dX10_joins_118 : decode cX10_joins 118 = .ok (.bipush 42, 2) := by decide +kernel
theorem dX10_joins_120 : decode cX10_joins 120 = .ok (.if_icmp .ne 7, 3) := by decide +kernel
theorem dX10_joins_123 : decode cX10_joins 123 = .ok (.iconst 1, 1) := by decide +kernel
theorem dX10_joins_124 : decode cX10_joins 124 = .ok (.goto 4, 3) := by decide +kernel
theorem dX10_joins_127 : decode cX10_joins 127 = .ok (.iconst 0, 1) := by decide +kernel
theorem dX10_joins_128 : decode cX10_joins 128 = .ok (.ireturn, 1) := by decide +kernel
theorem dX10_joins_129 : decode cX10_joins 129 = .ok (.iconst 0, 1) := by decide +kernel
theorem dX10_joins_130 : decode cX10_joins 130 = .ok (.ireturn, 1) := by decide +kernel
theorem dX10_pass_0 : decode cX10_pass 0 = .ok (.aload_n 0, 1) := by decide +kernel
theorem dX10_pass_1 : decode cX10_pass 1 = .ok (.getfield 68, 3) := by decide +kernel
theorem dX10_pass_4 : decode cX10_pass 4 = .ok (.iload_n 1, 1) := by decide +kernel
theorem dX10_pass_5 : decode cX10_pass 5 = .ok (.if_icmp .ne 10, 3) := by decide +kernel
theorem dX10_pass_8 : decode cX10_pass 8 = .ok (.aload_n 0, 1) := by decide +kernel
theorem dX10_pass_9 : decode cX10_pass 9 = .ok (.invokevirtual 54, 3) := by decide +kernel
theorem dX10_pass_12 : decode cX10_pass 12 = .ok (.goto 7, 3) := by decide +kernel
theorem dX10_pass_15 : decode cX10_pass 15 = .ok (.aload_n 0, 1) := by decide +kernel
theorem dX10_pass_16 : decode cX10_pass 16 = .ok (.invokevirtual 71, 3) := by decide +kernel
theorem dX10_pass_19 : decode cX10_pass 19 = .ok (.return_, 1) := by decide +kernel
theorem dX10_refuse_0 : decode cX10_refuse 0 = .ok (.aload_n 0, 1) := by decide +kernel
theorem dX10_refuse_1 : decode cX10_refuse 1 = .ok (.getfield 51, 3) := by decide +kernel
theorem dX10_refuse_4 : decode cX10_refuse 4 = .ok (.iconst (-1), 1) := by decide +kernel
theorem dX10_refuse_5 : decode cX10_refuse 5 = .ok (.if_icmp .ne 11, 3) := by decide +kernel
theorem dX10_refuse_8 : decode cX10_refuse 8 = .ok (.aload_n 0, 1) := by decide +kernel
theorem dX10_refuse_9 : decode cX10_refuse 9 = .ok (.aload_n 0, 1) := by decide +kernel
theorem dX10_refuse_10 : decode cX10_refuse 10 = .ok (.getfield 90, 3) := by decide +kernel
theorem dX10_refuse_13 : decode cX10_refuse 13 = .ok (.putfield 51, 3) := by decide +kernel
theorem dX10_refuse_16 : decode cX10_refuse 16 = .ok (.aload_n 0, 1) := by decide +kernel
theorem dX10_refuse_17 : decode cX10_refuse 17 = .ok (.bipush 14, 2) := by decide +kernel
theorem dX10_refuse_19 : decode cX10_refuse 19 = .ok (.putfield 68, 3) := by decide +kernel
theorem dX10_refuse_22 : decode cX10_refuse 22 = .ok (.return_, 1) := by decide +kernel
theorem dX10_write_0 : decode cX10_write 0 = .ok (.aload_n 0, 1) := by decide +kernel
theorem dX10_write_1 : decode cX10_write 1 = .ok (.getfield 46, 3) := by decide +kernel
theorem dX10_write_4 : decode cX10_write 4 = .ok (.sipush 160, 3) := by decide +kernel
theorem dX10_write_7 : decode cX10_write 7 = .ok (.if_icmp .ge 32, 3) := by decide +kernel
theorem dX10_write_10 : decode cX10_write 10 = .ok (.aload_n 0, 1) := by decide +kernel
theorem dX10_write_11 : decode cX10_write 11 = .ok (.getfield 15, 3) := by decide +kernel
theorem dX10_write_14 : decode cX10_write 14 = .ok (.aload_n 0, 1) := by decide +kernel
theorem dX10_write_15 : decode cX10_write 15 = .ok (.getfield 43, 3) := by decide +kernel
theorem dX10_write_18 : decode cX10_write 18 = .ok (.sipush 160, 3) := by decide +kernel
theorem dX10_write_21 : decode cX10_write 21 = .ok (.imul, 1) := by decide +kernel
theorem dX10_write_22 : decode cX10_write 22 = .ok (.aload_n 0, 1) := by decide +kernel
theorem dX10_write_23 : decode cX10_write 23 = .ok (.getfield 46, 3) := by decide +kernel
theorem dX10_write_26 : decode cX10_write 26 = .ok (.iadd, 1) := by decide +kernel
theorem dX10_write_27 : decode cX10_write 27 = .ok (.iload_n 1, 1) := by decide +kernel
theorem dX10_write_28 : decode cX10_write 28 = .ok (.iastore, 1) := by decide +kernel
theorem dX10_write_29 : decode cX10_write 29 = .ok (.aload_n 0, 1) := by decide +kernel
theorem dX10_write_30 : decode cX10_write 30 = .ok (.dup, 1) := by decide +kernel
theorem dX10_write_31 : decode cX10_write 31 = .ok (.getfield 46, 3) := by decide +kernel
theorem dX10_write_34 : decode cX10_write 34 = .ok (.iconst 1, 1) := by decide +kernel
theorem dX10_write_35 : decode cX10_write 35 = .ok (.iadd, 1) := by decide +kernel
theorem dX10_write_36 : decode cX10_write 36 = .ok (.putfield 46, 3) := by decide +kernel
theorem dX10_write_39 : decode cX10_write 39 = .ok (.return_, 1) := by decide +kernel
theorem dX10_nextToken_0 : decode cX10_nextToken 0 = .ok (.aload_n 0, 1) := by decide +kernel
theorem dX10_nextToken_1 : decode cX10_nextToken 1 = .ok (.getfield 48, 3) := by decide +kernel
theorem dX10_nextToken_4 : decode cX10_nextToken 4 = .ok (.aload_n 0, 1) := by decide +kernel
theorem dX10_nextToken_5 : decode cX10_nextToken 5 = .ok (.getfield 25, 3) := by decide +kernel
theorem dX10_nextToken_8 : decode cX10_nextToken 8 = .ok (.if_icmp .ge 44, 3) := by decide +kernel
theorem dX10_nextToken_11 : decode cX10_nextToken 11 = .ok (.aload_n 0, 1) := by decide +kernel
theorem dX10_nextToken_12 : decode cX10_nextToken 12 = .ok (.getfield 11, 3) := by decide +kernel
theorem dX10_nextToken_15 : decode cX10_nextToken 15 = .ok (.aload_n 0, 1) := by decide +kernel
theorem dX10_nextToken_16 : decode cX10_nextToken 16 = .ok (.getfield 48, 3) := by decide +kernel
theorem dX10_nextToken_19 : decode cX10_nextToken 19 = .ok (.baload, 1) := by decide +kernel
theorem dX10_nextToken_20 : decode cX10_nextToken 20 = .ok (.bipush 32, 2) := by decide +kernel
theorem dX10_nextToken_22 : decode cX10_nextToken 22 = .ok (.if_icmp .eq 17, 3) := by decide +kernel
theorem dX10_nextToken_25 : decode cX10_nextToken 25 = .ok (.aload_n 0, 1) := by decide +kernel
theorem dX10_nextToken_26 : decode cX10_nextToken 26 = .ok (.getfield 11, 3) := by decide +kernel
theorem dX10_nextToken_29 : decode cX10_nextToken 29 = .ok (.aload_n 0, 1) := by decide +kernel
theorem dX10_nextToken_30 : decode cX10_nextToken 30 = .ok (.getfield 48, 3) := by decide +kernel
theorem dX10_nextToken_33 : decode cX10_nextToken 33 = .ok (.baload, 1) := by decide +kernel
theorem dX10_nextToken_34 : decode cX10_nextToken 34 = .ok (.bipush 10, 2) := by decide +kernel
theorem dX10_nextToken_36 : decode cX10_nextToken 36 = .ok (.if_icmp .ne 16, 3) := by decide +kernel
theorem dX10_nextToken_39 : decode cX10_nextToken 39 = .ok (.aload_n 0, 1) := by decide +kernel
theorem dX10_nextToken_40 : decode cX10_nextToken 40 = .ok (.dup, 1) := by decide +kernel
theorem dX10_nextToken_41 : decode cX10_nextToken 41 = .ok (.getfield 48, 3) := by decide +kernel
theorem dX10_nextToken_44 : decode cX10_nextToken 44 = .ok (.iconst 1, 1) := by decide +kernel
theorem dX10_nextToken_45 : decode cX10_nextToken 45 = .ok (.iadd, 1) := by decide +kernel
theorem dX10_nextToken_46 : decode cX10_nextToken 46 = .ok (.putfield 48, 3) := by decide +kernel
theorem dX10_nextToken_49 : decode cX10_nextToken 49 = .ok (.goto (-49), 3) := by decide +kernel
theorem dX10_nextToken_52 : decode cX10_nextToken 52 = .ok (.aload_n 0, 1) := by decide +kernel
theorem dX10_nextToken_53 : decode cX10_nextToken 53 = .ok (.aload_n 0, 1) := by decide +kernel
theorem dX10_nextToken_54 : decode cX10_nextToken 54 = .ok (.getfield 48, 3) := by decide +kernel
theorem dX10_nextToken_57 : decode cX10_nextToken 57 = .ok (.putfield 90, 3) := by decide +kernel
theorem dX10_nextToken_60 : decode cX10_nextToken 60 = .ok (.aload_n 0, 1) := by decide +kernel
theorem dX10_nextToken_61 : decode cX10_nextToken 61 = .ok (.getfield 48, 3) := by decide +kernel
theorem dX10_nextToken_64 : decode cX10_nextToken 64 = .ok (.aload_n 0, 1) := by decide +kernel
theorem dX10_nextToken_65 : decode cX10_nextToken 65 = .ok (.getfield 25, 3) := by decide +kernel
theorem dX10_nextToken_68 : decode cX10_nextToken 68 = .ok (.if_icmp .lt 12, 3) := by decide +kernel
theorem dX10_nextToken_71 : decode cX10_nextToken 71 = .ok (.aload_n 0, 1) := by decide +kernel
theorem dX10_nextToken_72 : decode cX10_nextToken 72 = .ok (.bipush 13, 2) := by decide +kernel
theorem dX10_nextToken_74 : decode cX10_nextToken 74 = .ok (.putfield 68, 3) := by decide +kernel
theorem dX10_nextToken_77 : decode cX10_nextToken 77 = .ok (.goto 91, 3) := by decide +kernel
theorem dX10_nextToken_80 : decode cX10_nextToken 80 = .ok (.aload_n 0, 1) := by decide +kernel
theorem dX10_nextToken_81 : decode cX10_nextToken 81 = .ok (.getfield 11, 3) := by decide +kernel
theorem dX10_nextToken_84 : decode cX10_nextToken 84 = .ok (.aload_n 0, 1) := by decide +kernel
theorem dX10_nextToken_85 : decode cX10_nextToken 85 = .ok (.getfield 48, 3) := by decide +kernel
theorem dX10_nextToken_88 : decode cX10_nextToken 88 = .ok (.baload, 1) := by decide +kernel
theorem dX10_nextToken_89 : decode cX10_nextToken 89 = .ok (.invokestatic 93, 3) := by decide +kernel
theorem dX10_nextToken_92 : decode cX10_nextToken 92 = .ok (.ifCond .eq 10, 3) := by decide +kernel
theorem dX10_nextToken_95 : decode cX10_nextToken 95 = .ok (.aload_n 0, 1) := by decide +kernel
theorem dX10_nextToken_96 : decode cX10_nextToken 96 = .ok (.invokevirtual 96, 3) := by decide +kernel
theorem dX10_nextToken_99 : decode cX10_nextToken 99 = .ok (.goto 69, 3) := by decide +kernel
theorem dX10_nextToken_102 : decode cX10_nextToken 102 = .ok (.aload_n 0, 1) := by decide +kernel
theorem dX10_nextToken_103 : decode cX10_nextToken 103 = .ok (.getfield 11, 3) := by decide +kernel
theorem dX10_nextToken_106 : decode cX10_nextToken 106 = .ok (.aload_n 0, 1) := by decide +kernel
theorem dX10_nextToken_107 : decode cX10_nextToken 107 = .ok (.getfield 48, 3) := by decide +kernel
theorem dX10_nextToken_110 : decode cX10_nextToken 110 = .ok (.baload, 1) := by decide +kernel
theorem dX10_nextToken_111 : decode cX10_nextToken 111 = .ok (.invokestatic 99, 3) := by decide +kernel
theorem dX10_nextToken_114 : decode cX10_nextToken 114 = .ok (.ifCond .eq 10, 3) := by decide +kernel
theorem dX10_nextToken_117 : decode cX10_nextToken 117 = .ok (.aload_n 0, 1) := by decide +kernel
theorem dX10_nextToken_118 : decode cX10_nextToken 118 = .ok (.invokevirtual 102, 3) := by decide +kernel
theorem dX10_nextToken_121 : decode cX10_nextToken 121 = .ok (.goto 47, 3) := by decide +kernel
theorem dX10_nextToken_124 : decode cX10_nextToken 124 = .ok (.aload_n 0, 1) := by decide +kernel
theorem dX10_nextToken_125 : decode cX10_nextToken 125 = .ok (.getfield 11, 3) := by decide +kernel
theorem dX10_nextToken_128 : decode cX10_nextToken 128 = .ok (.aload_n 0, 1) := by decide +kernel
theorem dX10_nextToken_129 : decode cX10_nextToken 129 = .ok (.getfield 48, 3) := by decide +kernel
theorem dX10_nextToken_132 : decode cX10_nextToken 132 = .ok (.baload, 1) := by decide +kernel
theorem dX10_nextToken_133 : decode cX10_nextToken 133 = .ok (.istore_n 1, 1) := by decide +kernel
theorem dX10_nextToken_134 : decode cX10_nextToken 134 = .ok (.aload_n 0, 1) := by decide +kernel
theorem dX10_nextToken_135 : decode cX10_nextToken 135 = .ok (.iload_n 1, 1) := by decide +kernel
theorem dX10_nextToken_136 : decode cX10_nextToken 136 = .ok (.ifCond .le 17, 3) := by decide +kernel
theorem dX10_nextToken_139 : decode cX10_nextToken 139 = .ok (.ldc 105, 2) := by decide +kernel
theorem dX10_nextToken_141 : decode cX10_nextToken 141 = .ok (.iload_n 1, 1) := by decide +kernel
theorem dX10_nextToken_142 : decode cX10_nextToken 142 = .ok (.i2c, 1) := by decide +kernel
theorem dX10_nextToken_143 : decode cX10_nextToken 143 = .ok (.invokevirtual 107, 3) := by decide +kernel
theorem dX10_nextToken_146 : decode cX10_nextToken 146 = .ok (.ifCond .lt 7, 3) := by decide +kernel
theorem dX10_nextToken_149 : decode cX10_nextToken 149 = .ok (.iload_n 1, 1) := by decide +kernel
theorem dX10_nextToken_150 : decode cX10_nextToken 150 = .ok (.goto 5, 3) := by decide +kernel
theorem dX10_nextToken_153 : decode cX10_nextToken 153 = .ok (.bipush 14, 2) := by decide +kernel
theorem dX10_nextToken_155 : decode cX10_nextToken 155 = .ok (.putfield 68, 3) := by decide +kernel
theorem dX10_nextToken_158 : decode cX10_nextToken 158 = .ok (.aload_n 0, 1) := by decide +kernel
theorem dX10_nextToken_159 : decode cX10_nextToken 159 = .ok (.dup, 1) := by decide +kernel
theorem dX10_nextToken_160 : decode cX10_nextToken 160 = .ok (.getfield 48, 3) := by decide +kernel
theorem dX10_nextToken_163 : decode cX10_nextToken 163 = .ok (.iconst 1, 1) := by decide +kernel
theorem dX10_nextToken_164 : decode cX10_nextToken 164 = .ok (.iadd, 1) := by decide +kernel
theorem dX10_nextToken_165 : decode cX10_nextToken 165 = .ok (.putfield 48, 3) := by decide +kernel
theorem dX10_nextToken_168 : decode cX10_nextToken 168 = .ok (.return_, 1) := by decide +kernel
theorem dX10_isLetter_0 : decode cX10_isLetter 0 = .ok (.iload_n 0, 1) := by decide +kernel
theorem dX10_isLetter_1 : decode cX10_isLetter 1 = .ok (.bipush 97, 2) := by decide +kernel
theorem dX10_isLetter_3 : decode cX10_isLetter 3 = .ok (.if_icmp .lt 13, 3) := by decide +kernel
theorem dX10_isLetter_6 : decode cX10_isLetter 6 = .ok (.iload_n 0, 1) := by decide +kernel
theorem dX10_isLetter_7 : decode cX10_isLetter 7 = .ok (.bipush 122, 2) := by decide +kernel
theorem dX10_isLetter_9 : decode cX10_isLetter 9 = .ok (.if_icmp .gt 7, 3) := by decide +kernel
theorem dX10_isLetter_12 : decode cX10_isLetter 12 = .ok (.iconst 1, 1) := by decide +kernel
theorem dX10_isLetter_13 : decode cX10_isLetter 13 = .ok (.goto 4, 3) := by decide +kernel
theorem dX10_isLetter_16 : decode cX10_isLetter 16 = .ok (.iconst 0, 1) := by decide +kernel
theorem dX10_isLetter_17 : decode cX10_isLetter 17 = .ok (.ireturn, 1) := by decide +kernel
theorem dX10_isDigit_0 : decode cX10_isDigit 0 = .ok (.iload_n 0, 1) := by decide +kernel
theorem dX10_isDigit_1 : decode cX10_isDigit 1 = .ok (.bipush 48, 2) := by decide +kernel
theorem dX10_isDigit_3 : decode cX10_isDigit 3 = .ok (.if_icmp .lt 13, 3) := by decide +kernel
theorem dX10_isDigit_6 : decode cX10_isDigit 6 = .ok (.iload_n 0, 1) := by decide +kernel
theorem dX10_isDigit_7 : decode cX10_isDigit 7 = .ok (.bipush 57, 2) := by decide +kernel
theorem dX10_isDigit_9 : decode cX10_isDigit 9 = .ok (.if_icmp .gt 7, 3) := by decide +kernel
theorem dX10_isDigit_12 : decode cX10_isDigit 12 = .ok (.iconst 1, 1) := by decide +kernel
theorem dX10_isDigit_13 : decode cX10_isDigit 13 = .ok (.goto 4, 3) := by decide +kernel
theorem dX10_isDigit_16 : decode cX10_isDigit 16 = .ok (.iconst 0, 1) := by decide +kernel
theorem dX10_isDigit_17 : decode cX10_isDigit 17 = .ok (.ireturn, 1) := by decide +kernel
theorem dX10_takeNumber_0 : decode cX10_takeNumber 0 = .ok (.aload_n 0, 1) := by decide +kernel
theorem dX10_takeNumber_1 : decode cX10_takeNumber 1 = .ok (.iconst 0, 1) := by decide +kernel
theorem dX10_takeNumber_2 : decode cX10_takeNumber 2 = .ok (.putfield 83, 3) := by decide +kernel
theorem dX10_takeNumber_5 : decode cX10_takeNumber 5 = .ok (.aload_n 0, 1) := by decide +kernel
theorem dX10_takeNumber_6 : decode cX10_takeNumber 6 = .ok (.getfield 48, 3) := by decide +kernel
theorem dX10_takeNumber_9 : decode cX10_takeNumber 9 = .ok (.aload_n 0, 1) := by decide +kernel
theorem dX10_takeNumber_10 : decode cX10_takeNumber 10 = .ok (.getfield 25, 3) := by decide +kernel
theorem dX10_takeNumber_13 : decode cX10_takeNumber 13 = .ok (.if_icmp .ge 55, 3) := by decide +kernel
theorem dX10_takeNumber_16 : decode cX10_takeNumber 16 = .ok (.aload_n 0, 1) := by decide +kernel
theorem dX10_takeNumber_17 : decode cX10_takeNumber 17 = .ok (.getfield 11, 3) := by decide +kernel
theorem dX10_takeNumber_20 : decode cX10_takeNumber 20 = .ok (.aload_n 0, 1) := by decide +kernel
theorem dX10_takeNumber_21 : decode cX10_takeNumber 21 = .ok (.getfield 48, 3) := by decide +kernel
theorem dX10_takeNumber_24 : decode cX10_takeNumber 24 = .ok (.baload, 1) := by decide +kernel
theorem dX10_takeNumber_25 : decode cX10_takeNumber 25 = .ok (.invokestatic 99, 3) := by decide +kernel
theorem dX10_takeNumber_28 : decode cX10_takeNumber 28 = .ok (.ifCond .eq 40, 3) := by decide +kernel
theorem dX10_takeNumber_31 : decode cX10_takeNumber 31 = .ok (.aload_n 0, 1) := by decide +kernel
theorem dX10_takeNumber_32 : decode cX10_takeNumber 32 = .ok (.aload_n 0, 1) := by decide +kernel
theorem dX10_takeNumber_33 : decode cX10_takeNumber 33 = .ok (.getfield 83, 3) := by decide +kernel
theorem dX10_takeNumber_36 : decode cX10_takeNumber 36 = .ok (.bipush 10, 2) := by decide +kernel
theorem dX10_takeNumber_38 : decode cX10_takeNumber 38 = .ok (.imul, 1) := by decide +kernel
theorem dX10_takeNumber_39 : decode cX10_takeNumber 39 = .ok (.aload_n 0, 1) := by decide +kernel
theorem dX10_takeNumber_40 : decode cX10_takeNumber 40 = .ok (.getfield 11, 3) := by decide +kernel
theorem dX10_takeNumber_43 : decode cX10_takeNumber 43 = .ok (.aload_n 0, 1) := by decide +kernel
theorem dX10_takeNumber_44 : decode cX10_takeNumber 44 = .ok (.getfield 48, 3) := by decide +kernel
theorem dX10_takeNumber_47 : decode cX10_takeNumber 47 = .ok (.baload, 1) := by decide +kernel
theorem dX10_takeNumber_48 : decode cX10_takeNumber 48 = .ok (.iadd, 1) := by decide +kernel
theorem dX10_takeNumber_49 : decode cX10_takeNumber 49 = .ok (.bipush 48, 2) := by decide +kernel
theorem dX10_takeNumber_51 : decode cX10_takeNumber 51 = .ok (.isub, 1) := by decide +kernel
theorem dX10_takeNumber_52 : decode cX10_takeNumber 52 = .ok (.putfield 83, 3) := by decide +kernel
theorem dX10_takeNumber_55 : decode cX10_takeNumber 55 = .ok (.aload_n 0, 1) := by decide +kernel
theorem dX10_takeNumber_56 : decode cX10_takeNumber 56 = .ok (.dup, 1) := by decide +kernel
theorem dX10_takeNumber_57 : decode cX10_takeNumber 57 = .ok (.getfield 48, 3) := by decide +kernel
theorem dX10_takeNumber_60 : decode cX10_takeNumber 60 = .ok (.iconst 1, 1) := by decide +kernel
theorem dX10_takeNumber_61 : decode cX10_takeNumber 61 = .ok (.iadd, 1) := by decide +kernel
theorem dX10_takeNumber_62 : decode cX10_takeNumber 62 = .ok (.putfield 48, 3) := by decide +kernel
theorem dX10_takeNumber_65 : decode cX10_takeNumber 65 = .ok (.goto (-60), 3) := by decide +kernel
theorem dX10_takeNumber_68 : decode cX10_takeNumber 68 = .ok (.aload_n 0, 1) := by decide +kernel
theorem dX10_takeNumber_69 : decode cX10_takeNumber 69 = .ok (.aload_n 0, 1) := by decide +kernel
theorem dX10_takeNumber_70 : decode cX10_takeNumber 70 = .ok (.getfield 48, 3) := by decide +kernel
theorem dX10_takeNumber_73 : decode cX10_takeNumber 73 = .ok (.aload_n 0, 1) := by decide +kernel
theorem dX10_takeNumber_74 : decode cX10_takeNumber 74 = .ok (.getfield 90, 3) := by decide +kernel
theorem dX10_takeNumber_77 : decode cX10_takeNumber 77 = .ok (.isub, 1) := by decide +kernel
theorem dX10_takeNumber_78 : decode cX10_takeNumber 78 = .ok (.iconst 4, 1) := by decide +kernel
theorem dX10_takeNumber_79 : decode cX10_takeNumber 79 = .ok (.if_icmp .le 8, 3) := by decide +kernel
theorem dX10_takeNumber_82 : decode cX10_takeNumber 82 = .ok (.bipush 14, 2) := by decide +kernel
theorem dX10_takeNumber_84 : decode cX10_takeNumber 84 = .ok (.goto 5, 3) := by decide +kernel
theorem dX10_takeNumber_87 : decode cX10_takeNumber 87 = .ok (.bipush 12, 2) := by decide +kernel
theorem dX10_takeNumber_89 : decode cX10_takeNumber 89 = .ok (.putfield 68, 3) := by decide +kernel
theorem dX10_takeNumber_92 : decode cX10_takeNumber 92 = .ok (.return_, 1) := by decide +kernel
theorem dX10_takeWord_0 : decode cX10_takeWord 0 = .ok (.aload_n 0, 1) := by decide +kernel
theorem dX10_takeWord_1 : decode cX10_takeWord 1 = .ok (.getfield 48, 3) := by decide +kernel
theorem dX10_takeWord_4 : decode cX10_takeWord 4 = .ok (.aload_n 0, 1) := by decide +kernel
theorem dX10_takeWord_5 : decode cX10_takeWord 5 = .ok (.getfield 25, 3) := by decide +kernel
theorem dX10_takeWord_8 : decode cX10_takeWord 8 = .ok (.if_icmp .ge 31, 3) := by decide +kernel
theorem dX10_takeWord_11 : decode cX10_takeWord 11 = .ok (.aload_n 0, 1) := by decide +kernel
theorem dX10_takeWord_12 : decode cX10_takeWord 12 = .ok (.getfield 11, 3) := by decide +kernel
theorem dX10_takeWord_15 : decode cX10_takeWord 15 = .ok (.aload_n 0, 1) := by decide +kernel
theorem dX10_takeWord_16 : decode cX10_takeWord 16 = .ok (.getfield 48, 3) := by decide +kernel
theorem dX10_takeWord_19 : decode cX10_takeWord 19 = .ok (.baload, 1) := by decide +kernel
theorem dX10_takeWord_20 : decode cX10_takeWord 20 = .ok (.invokestatic 93, 3) := by decide +kernel
theorem dX10_takeWord_23 : decode cX10_takeWord 23 = .ok (.ifCond .eq 16, 3) := by decide +kernel
theorem dX10_takeWord_26 : decode cX10_takeWord 26 = .ok (.aload_n 0, 1) := by decide +kernel
theorem dX10_takeWord_27 : decode cX10_takeWord 27 = .ok (.dup, 1) := by decide +kernel
theorem dX10_takeWord_28 : decode cX10_takeWord 28 = .ok (.getfield 48, 3) := by decide +kernel
theorem dX10_takeWord_31 : decode cX10_takeWord 31 = .ok (.iconst 1, 1) := by decide +kernel
theorem dX10_takeWord_32 : decode cX10_takeWord 32 = .ok (.iadd, 1) := by decide +kernel
theorem dX10_takeWord_33 : decode cX10_takeWord 33 = .ok (.putfield 48, 3) := by decide +kernel
theorem dX10_takeWord_36 : decode cX10_takeWord 36 = .ok (.goto (-36), 3) := by decide +kernel
theorem dX10_takeWord_39 : decode cX10_takeWord 39 = .ok (.aload_n 0, 1) := by decide +kernel
theorem dX10_takeWord_40 : decode cX10_takeWord 40 = .ok (.bipush 14, 2) := by decide +kernel
theorem dX10_takeWord_42 : decode cX10_takeWord 42 = .ok (.putfield 68, 3) := by decide +kernel
theorem dX10_takeWord_45 : decode cX10_takeWord 45 = .ok (.iconst 0, 1) := by decide +kernel
theorem dX10_takeWord_46 : decode cX10_takeWord 46 = .ok (.istore_n 1, 1) := by decide +kernel
theorem dX10_takeWord_47 : decode cX10_takeWord 47 = .ok (.iload_n 1, 1) := by decide +kernel
theorem dX10_takeWord_48 : decode cX10_takeWord 48 = .ok (.bipush 12, 2) := by decide +kernel
theorem dX10_takeWord_50 : decode cX10_takeWord 50 = .ok (.if_icmp .ge 22, 3) := by decide +kernel
theorem dX10_takeWord_53 : decode cX10_takeWord 53 = .ok (.aload_n 0, 1) := by decide +kernel
theorem dX10_takeWord_54 : decode cX10_takeWord 54 = .ok (.iload_n 1, 1) := by decide +kernel
theorem dX10_takeWord_55 : decode cX10_takeWord 55 = .ok (.invokevirtual 111, 3) := by decide +kernel
theorem dX10_takeWord_58 : decode cX10_takeWord 58 = .ok (.ifCond .eq 8, 3) := by decide +kernel
theorem dX10_takeWord_61 : decode cX10_takeWord 61 = .ok (.aload_n 0, 1) := by decide +kernel
theorem dX10_takeWord_62 : decode cX10_takeWord 62 = .ok (.iload_n 1, 1) := by decide +kernel
theorem dX10_takeWord_63 : decode cX10_takeWord 63 = .ok (.putfield 68, 3) := by decide +kernel
theorem dX10_takeWord_66 : decode cX10_takeWord 66 = .ok (.iinc 1 1, 3) := by decide +kernel
theorem dX10_takeWord_69 : decode cX10_takeWord 69 = .ok (.goto (-22), 3) := by decide +kernel
theorem dX10_takeWord_72 : decode cX10_takeWord 72 = .ok (.return_, 1) := by decide +kernel
theorem dX10_isWord_0 : decode cX10_isWord 0 = .ok (.aload_n 0, 1) := by decide +kernel
theorem dX10_isWord_1 : decode cX10_isWord 1 = .ok (.getfield 48, 3) := by decide +kernel
theorem dX10_isWord_4 : decode cX10_isWord 4 = .ok (.aload_n 0, 1) := by decide +kernel
theorem dX10_isWord_5 : decode cX10_isWord 5 = .ok (.getfield 90, 3) := by decide +kernel
theorem dX10_isWord_8 : decode cX10_isWord 8 = .ok (.isub, 1) := by decide +kernel
theorem dX10_isWord_9 : decode cX10_isWord 9 = .ok (.iconst 5, 1) := by decide +kernel
theorem dX10_isWord_10 : decode cX10_isWord 10 = .ok (.if_icmp .gt 7, 3) := by decide +kernel
theorem dX10_isWord_13 : decode cX10_isWord 13 = .ok (.iconst 1, 1) := by decide +kernel
theorem dX10_isWord_14 : decode cX10_isWord 14 = .ok (.goto 4, 3) := by decide +kernel
theorem dX10_isWord_17 : decode cX10_isWord 17 = .ok (.iconst 0, 1) := by decide +kernel
theorem dX10_isWord_18 : decode cX10_isWord 18 = .ok (.istore_n 2, 1) := by decide +kernel
theorem dX10_isWord_19 : decode cX10_isWord 19 = .ok (.iconst 0, 1) := by decide +kernel
theorem dX10_isWord_20 : decode cX10_isWord 20 = .ok (.istore_n 3, 1) := by decide +kernel
theorem dX10_isWord_21 : decode cX10_isWord 21 = .ok (.iload_n 3, 1) := by decide +kernel
theorem dX10_isWord_22 : decode cX10_isWord 22 = .ok (.iconst 5, 1) := by decide +kernel
theorem dX10_isWord_23 : decode cX10_isWord 23 = .ok (.if_icmp .ge 65, 3) := by decide +kernel
theorem dX10_isWord_26 : decode cX10_isWord 26 = .ok (.iload_n 2, 1) := by decide +kernel
theorem dX10_isWord_27 : decode cX10_isWord 27 = .ok (.ifCond .eq 61, 3) := by decide +kernel
theorem dX10_isWord_30 : decode cX10_isWord 30 = .ok (.aload_n 0, 1) := by decide +kernel
theorem dX10_isWord_31 : decode cX10_isWord 31 = .ok (.getfield 90, 3) := by decide +kernel
theorem dX10_isWord_34 : decode cX10_isWord 34 = .ok (.iload_n 3, 1) := by decide +kernel
theorem dX10_isWord_35 : decode cX10_isWord 35 = .ok (.iadd, 1) := by decide +kernel
theorem dX10_isWord_36 : decode cX10_isWord 36 = .ok (.aload_n 0, 1) := by decide +kernel
theorem dX10_isWord_37 : decode cX10_isWord 37 = .ok (.getfield 48, 3) := by decide +kernel
theorem dX10_isWord_40 : decode cX10_isWord 40 = .ok (.if_icmp .ge 17, 3) := by decide +kernel
theorem dX10_isWord_43 : decode cX10_isWord 43 = .ok (.aload_n 0, 1) := by decide +kernel
theorem dX10_isWord_44 : decode cX10_isWord 44 = .ok (.getfield 11, 3) := by decide +kernel
theorem dX10_isWord_47 : decode cX10_isWord 47 = .ok (.aload_n 0, 1) := by decide +kernel
theorem dX10_isWord_48 : decode cX10_isWord 48 = .ok (.getfield 90, 3) := by decide +kernel
theorem dX10_isWord_51 : decode cX10_isWord 51 = .ok (.iload_n 3, 1) := by decide +kernel
theorem dX10_isWord_52 : decode cX10_isWord 52 = .ok (.iadd, 1) := by decide +kernel
theorem dX10_isWord_53 : decode cX10_isWord 53 = .ok (.baload, 1) := by decide +kernel
theorem dX10_isWord_54 : decode cX10_isWord 54 = .ok (.goto 5, 3) := by decide +kernel
theorem dX10_isWord_57 : decode cX10_isWord 57 = .ok (.bipush 32, 2) := by decide +kernel
theorem dX10_isWord_59 : decode cX10_isWord 59 = .ok (.istore 4, 2) := by decide +kernel
theorem dX10_isWord_61 : decode cX10_isWord 61 = .ok (.iload 4, 2) := by decide +kernel
theorem dX10_isWord_63 : decode cX10_isWord 63 = .ok (.ldc 114, 2) := by decide +kernel
theorem dX10_isWord_65 : decode cX10_isWord 65 = .ok (.iload_n 1, 1) := by decide +kernel
theorem dX10_isWord_66 : decode cX10_isWord 66 = .ok (.iconst 5, 1) := by decide +kernel
theorem dX10_isWord_67 : decode cX10_isWord 67 = .ok (.imul, 1) := by decide +kernel
theorem dX10_isWord_68 : decode cX10_isWord 68 = .ok (.iload_n 3, 1) := by decide +kernel
theorem dX10_isWord_69 : decode cX10_isWord 69 = .ok (.iadd, 1) := by decide +kernel
theorem dX10_isWord_70 : decode cX10_isWord 70 = .ok (.invokevirtual 35, 3) := by decide +kernel
theorem dX10_isWord_73 : decode cX10_isWord 73 = .ok (.if_icmp .ne 7, 3) := by decide +kernel
theorem dX10_isWord_76 : decode cX10_isWord 76 = .ok (.iconst 1, 1) := by decide +kernel
theorem dX10_isWord_77 : decode cX10_isWord 77 = .ok (.goto 4, 3) := by decide +kernel
theorem dX10_isWord_80 : decode cX10_isWord 80 = .ok (.iconst 0, 1) := by decide +kernel
theorem dX10_isWord_81 : decode cX10_isWord 81 = .ok (.istore_n 2, 1) := by decide +kernel
theorem dX10_isWord_82 : decode cX10_isWord 82 = .ok (.iinc 3 1, 3) := by decide +kernel
theorem dX10_isWord_85 : decode cX10_isWord 85 = .ok (.goto (-64), 3) := by decide +kernel
theorem dX10_isWord_88 : decode cX10_isWord 88 = .ok (.iload_n 2, 1) := by decide +kernel
theorem dX10_isWord_89 : decode cX10_isWord 89 = .ok (.ireturn, 1) := by decide +kernel
theorem dX10_value_0 : decode cX10_value 0 = .ok (.iconst 0, 1) := by decide +kernel
theorem dX10_value_1 : decode cX10_value 1 = .ok (.istore_n 3, 1) := by decide +kernel
theorem dX10_value_2 : decode cX10_value 2 = .ok (.aload_n 0, 1) := by decide +kernel
theorem dX10_value_3 : decode cX10_value 3 = .ok (.getfield 116, 3) := by decide +kernel
theorem dX10_value_6 : decode cX10_value 6 = .ok (.sipush 160, 3) := by decide +kernel
theorem dX10_value_9 : decode cX10_value 9 = .ok (.imul, 1) := by decide +kernel
theorem dX10_value_10 : decode cX10_value 10 = .ok (.istore 4, 2) := by decide +kernel
theorem dX10_value_12 : decode cX10_value 12 = .ok (.iload 4, 2) := by decide +kernel
theorem dX10_value_14 : decode cX10_value 14 = .ok (.aload_n 0, 1) := by decide +kernel
theorem dX10_value_15 : decode cX10_value 15 = .ok (.getfield 19, 3) := by decide +kernel
theorem dX10_value_18 : decode cX10_value 18 = .ok (.aload_n 0, 1) := by decide +kernel
theorem dX10_value_19 : decode cX10_value 19 = .ok (.getfield 116, 3) := by decide +kernel
theorem dX10_value_22 : decode cX10_value 22 = .ok (.iconst 3, 1) := by decide +kernel
theorem dX10_value_23 : decode cX10_value 23 = .ok (.imul, 1) := by decide +kernel
theorem dX10_value_24 : decode cX10_value 24 = .ok (.iload_n 1, 1) := by decide +kernel
theorem dX10_value_25 : decode cX10_value 25 = .ok (.iadd, 1) := by decide +kernel
theorem dX10_value_26 : decode cX10_value 26 = .ok (.iaload, 1) := by decide +kernel
theorem dX10_value_27 : decode cX10_value 27 = .ok (.iadd, 1) := by decide +kernel
theorem dX10_value_28 : decode cX10_value 28 = .ok (.istore 5, 2) := by decide +kernel
theorem dX10_value_30 : decode cX10_value 30 = .ok (.iload 5, 2) := by decide +kernel
theorem dX10_value_32 : decode cX10_value 32 = .ok (.iload 4, 2) := by decide +kernel
theorem dX10_value_34 : decode cX10_value 34 = .ok (.sipush 160, 3) := by decide +kernel
theorem dX10_value_37 : decode cX10_value 37 = .ok (.iadd, 1) := by decide +kernel
theorem dX10_value_38 : decode cX10_value 38 = .ok (.if_icmp .ge 36, 3) := by decide +kernel
theorem dX10_value_41 : decode cX10_value 41 = .ok (.aload_n 0, 1) := by decide +kernel
theorem dX10_value_42 : decode cX10_value 42 = .ok (.getfield 15, 3) := by decide +kernel
theorem dX10_value_45 : decode cX10_value 45 = .ok (.iload 5, 2) := by decide +kernel
theorem dX10_value_47 : decode cX10_value 47 = .ok (.iaload, 1) := by decide +kernel
theorem dX10_value_48 : decode cX10_value 48 = .ok (.sipush 10059, 3) := by decide +kernel
theorem dX10_value_51 : decode cX10_value 51 = .ok (.if_icmp .eq 23, 3) := by decide +kernel
theorem dX10_value_54 : decode cX10_value 54 = .ok (.aload_n 0, 1) := by decide +kernel
theorem dX10_value_55 : decode cX10_value 55 = .ok (.aload_n 0, 1) := by decide +kernel
theorem dX10_value_56 : decode cX10_value 56 = .ok (.getfield 15, 3) := by decide +kernel
theorem dX10_value_59 : decode cX10_value 59 = .ok (.iload 5, 2) := by decide +kernel
theorem dX10_value_61 : decode cX10_value 61 = .ok (.iaload, 1) := by decide +kernel
theorem dX10_value_62 : decode cX10_value 62 = .ok (.iload_n 3, 1) := by decide +kernel
theorem dX10_value_63 : decode cX10_value 63 = .ok (.aload_n 2, 1) := by decide +kernel
theorem dX10_value_64 : decode cX10_value 64 = .ok (.invokevirtual 119, 3) := by decide +kernel
theorem dX10_value_67 : decode cX10_value 67 = .ok (.istore_n 3, 1) := by decide +kernel
theorem dX10_value_68 : decode cX10_value 68 = .ok (.iinc 5 1, 3) := by decide +kernel
theorem dX10_value_71 : decode cX10_value 71 = .ok (.goto (-41), 3) := by decide +kernel
theorem dX10_value_74 : decode cX10_value 74 = .ok (.aload_n 0, 1) := by decide +kernel
theorem dX10_value_75 : decode cX10_value 75 = .ok (.getfield 22, 3) := by decide +kernel
theorem dX10_value_78 : decode cX10_value 78 = .ok (.iconst 0, 1) := by decide +kernel
theorem dX10_value_79 : decode cX10_value 79 = .ok (.iaload, 1) := by decide +kernel
theorem dX10_value_80 : decode cX10_value 80 = .ok (.ireturn, 1) := by decide +kernel
theorem dX10_doStep_0 : decode cX10_doStep 0 = .ok (.iload_n 1, 1) := by decide +kernel
theorem dX10_doStep_1 : decode cX10_doStep 1 = .ok (.sipush 10000, 3) := by decide +kernel
theorem dX10_doStep_4 : decode cX10_doStep 4 = .ok (.isub, 1) := by decide +kernel
theorem dX10_doStep_5 : decode cX10_doStep 5 = .ok (.istore 4, 2) := by decide +kernel
theorem dX10_doStep_7 : decode cX10_doStep 7 = .ok (.iload 4, 2) := by decide +kernel
theorem dX10_doStep_9 : decode cX10_doStep 9 = .ok (.ifCond .lt 10, 3) := by decide +kernel
theorem dX10_doStep_12 : decode cX10_doStep 12 = .ok (.iload 4, 2) := by decide +kernel
theorem dX10_doStep_14 : decode cX10_doStep 14 = .ok (.aload_n 3, 1) := by decide +kernel
theorem dX10_doStep_15 : decode cX10_doStep 15 = .ok (.arraylength, 1) := by decide +kernel
theorem dX10_doStep_16 : decode cX10_doStep 16 = .ok (.if_icmp .ge 34, 3) := by decide +kernel
theorem dX10_doStep_19 : decode cX10_doStep 19 = .ok (.iload_n 2, 1) := by decide +kernel
theorem dX10_doStep_20 : decode cX10_doStep 20 = .ok (.bipush 64, 2) := by decide +kernel
theorem dX10_doStep_22 : decode cX10_doStep 22 = .ok (.if_icmp .ge 26, 3) := by decide +kernel
theorem dX10_doStep_25 : decode cX10_doStep 25 = .ok (.aload_n 0, 1) := by decide +kernel
theorem dX10_doStep_26 : decode cX10_doStep 26 = .ok (.getfield 22, 3) := by decide +kernel
theorem dX10_doStep_29 : decode cX10_doStep 29 = .ok (.iload_n 2, 1) := by decide +kernel
theorem dX10_doStep_30 : decode cX10_doStep 30 = .ok (.iload 4, 2) := by decide +kernel
theorem dX10_doStep_32 : decode cX10_doStep 32 = .ok (.ifCond .ge 7, 3) := by decide +kernel
theorem dX10_doStep_35 : decode cX10_doStep 35 = .ok (.iload_n 1, 1) := by decide +kernel
theorem dX10_doStep_36 : decode cX10_doStep 36 = .ok (.goto 7, 3) := by decide +kernel
theorem dX10_doStep_39 : decode cX10_doStep 39 = .ok (.aload_n 3, 1) := by decide +kernel
theorem dX10_doStep_40 : decode cX10_doStep 40 = .ok (.iload 4, 2) := by decide +kernel
theorem dX10_doStep_42 : decode cX10_doStep 42 = .ok (.iaload, 1) := by decide +kernel
theorem dX10_doStep_43 : decode cX10_doStep 43 = .ok (.iastore, 1) := by decide +kernel
theorem dX10_doStep_44 : decode cX10_doStep 44 = .ok (.iload_n 2, 1) := by decide +kernel
theorem dX10_doStep_45 : decode cX10_doStep 45 = .ok (.iconst 1, 1) := by decide +kernel
theorem dX10_doStep_46 : decode cX10_doStep 46 = .ok (.iadd, 1) := by decide +kernel
theorem dX10_doStep_47 : decode cX10_doStep 47 = .ok (.ireturn, 1) := by decide +kernel
theorem dX10_doStep_48 : decode cX10_doStep 48 = .ok (.iload_n 2, 1) := by decide +kernel
theorem dX10_doStep_49 : decode cX10_doStep 49 = .ok (.ireturn, 1) := by decide +kernel
theorem dX10_doStep_50 : decode cX10_doStep 50 = .ok (.iload 4, 2) := by decide +kernel
theorem dX10_doStep_52 : decode cX10_doStep 52 = .ok (.bipush 11, 2) := by decide +kernel
theorem dX10_doStep_54 : decode cX10_doStep 54 = .ok (.if_icmp .eq 10, 3) := by decide +kernel
theorem dX10_doStep_57 : decode cX10_doStep 57 = .ok (.iload 4, 2) := by decide +kernel
theorem dX10_doStep_59 : decode cX10_doStep 59 = .ok (.bipush 15, 2) := by decide +kernel
theorem dX10_doStep_61 : decode cX10_doStep 61 = .ok (.if_icmp .ne 50, 3) := by decide +kernel
theorem dX10_doStep_64 : decode cX10_doStep 64 = .ok (.iload_n 2, 1) := by decide +kernel
theorem dX10_doStep_65 : decode cX10_doStep 65 = .ok (.ifCond .le 44, 3) := by decide +kernel
theorem dX10_doStep_68 : decode cX10_doStep 68 = .ok (.aload_n 0, 1) := by decide +kernel
theorem dX10_doStep_69 : decode cX10_doStep 69 = .ok (.getfield 22, 3) := by decide +kernel
theorem dX10_doStep_72 : decode cX10_doStep 72 = .ok (.iload_n 2, 1) := by decide +kernel
theorem dX10_doStep_73 : decode cX10_doStep 73 = .ok (.iconst 1, 1) := by decide +kernel
theorem dX10_doStep_74 : decode cX10_doStep 74 = .ok (.isub, 1) := by decide +kernel
theorem dX10_doStep_75 : decode cX10_doStep 75 = .ok (.iaload, 1) := by decide +kernel
theorem dX10_doStep_76 : decode cX10_doStep 76 = .ok (.istore 5, 2) := by decide +kernel
theorem dX10_doStep_78 : decode cX10_doStep 78 = .ok (.aload_n 0, 1) := by decide +kernel
theorem dX10_doStep_79 : decode cX10_doStep 79 = .ok (.getfield 22, 3) := by decide +kernel
theorem dX10_doStep_82 : decode cX10_doStep 82 = .ok (.iload_n 2, 1) := by decide +kernel
theorem dX10_doStep_83 : decode cX10_doStep 83 = .ok (.iconst 1, 1) := by decide +kernel
theorem dX10_doStep_84 : decode cX10_doStep 84 = .ok (.isub, 1) := by decide +kernel
theorem dX10_doStep_85 : decode cX10_doStep 85 = .ok (.iload 4, 2) := by decide +kernel
theorem dX10_doStep_87 : decode cX10_doStep 87 = .ok (.bipush 15, 2) := by decide +kernel
theorem dX10_doStep_89 : decode cX10_doStep 89 = .ok (.if_icmp .ne 9, 3) := by decide +kernel
theorem dX10_doStep_92 : decode cX10_doStep 92 = .ok (.iload 5, 2) := by decide +kernel
theorem dX10_doStep_94 : decode cX10_doStep 94 = .ok (.ineg, 1) := by decide +kernel
theorem dX10_doStep_95 : decode cX10_doStep 95 = .ok (.goto 13, 3) := by decide +kernel
theorem dX10_doStep_98 : decode cX10_doStep 98 = .ok (.iload 5, 2) := by decide +kernel
theorem dX10_doStep_100 : decode cX10_doStep 100 = .ok (.ifCond .ne 7, 3) := by decide +kernel
theorem dX10_doStep_103 : decode cX10_doStep 103 = .ok (.iconst 1, 1) := by decide +kernel
theorem dX10_doStep_104 : decode cX10_doStep 104 = .ok (.goto 4, 3) := by decide +kernel
theorem dX10_doStep_107 : decode cX10_doStep 107 = .ok (.iconst 0, 1) := by decide +kernel
theorem dX10_doStep_108 : decode cX10_doStep 108 = .ok (.iastore, 1) := by decide +kernel
theorem dX10_doStep_109 : decode cX10_doStep 109 = .ok (.iload_n 2, 1) := by decide +kernel
theorem dX10_doStep_110 : decode cX10_doStep 110 = .ok (.ireturn, 1) := by decide +kernel
theorem dX10_doStep_111 : decode cX10_doStep 111 = .ok (.iload_n 2, 1) := by decide +kernel
theorem dX10_doStep_112 : decode cX10_doStep 112 = .ok (.iconst 1, 1) := by decide +kernel
theorem dX10_doStep_113 : decode cX10_doStep 113 = .ok (.if_icmp .le 36, 3) := by decide +kernel
theorem dX10_doStep_116 : decode cX10_doStep 116 = .ok (.aload_n 0, 1) := by decide +kernel
theorem dX10_doStep_117 : decode cX10_doStep 117 = .ok (.getfield 22, 3) := by decide +kernel
theorem dX10_doStep_120 : decode cX10_doStep 120 = .ok (.iload_n 2, 1) := by decide +kernel
theorem dX10_doStep_121 : decode cX10_doStep 121 = .ok (.iconst 2, 1) := by decide +kernel
theorem dX10_doStep_122 : decode cX10_doStep 122 = .ok (.isub, 1) := by decide +kernel
theorem dX10_doStep_123 : decode cX10_doStep 123 = .ok (.iload 4, 2) := by decide +kernel
theorem dX10_doStep_125 : decode cX10_doStep 125 = .ok (.aload_n 0, 1) := by decide +kernel
theorem dX10_doStep_126 : decode cX10_doStep 126 = .ok (.getfield 22, 3) := by decide +kernel
theorem dX10_doStep_129 : decode cX10_doStep 129 = .ok (.iload_n 2, 1) := by decide +kernel
theorem dX10_doStep_130 : decode cX10_doStep 130 = .ok (.iconst 2, 1) := by decide +kernel
theorem dX10_doStep_131 : decode cX10_doStep 131 = .ok (.isub, 1) := by decide +kernel
theorem dX10_doStep_132 : decode cX10_doStep 132 = .ok (.iaload, 1) := by decide +kernel
theorem dX10_doStep_133 : decode cX10_doStep 133 = .ok (.aload_n 0, 1) := by decide +kernel
theorem dX10_doStep_134 : decode cX10_doStep 134 = .ok (.getfield 22, 3) := by decide +kernel
theorem dX10_doStep_137 : decode cX10_doStep 137 = .ok (.iload_n 2, 1) := by decide +kernel
theorem dX10_doStep_138 : decode cX10_doStep 138 = .ok (.iconst 1, 1) := by decide +kernel
theorem dX10_doStep_139 : decode cX10_doStep 139 = .ok (.isub, 1) := by decide +kernel
theorem dX10_doStep_140 : decode cX10_doStep 140 = .ok (.iaload, 1) := by decide +kernel
theorem dX10_doStep_141 : decode cX10_doStep 141 = .ok (.invokestatic 123, 3) := by decide +kernel
theorem dX10_doStep_144 : decode cX10_doStep 144 = .ok (.iastore, 1) := by decide +kernel
theorem dX10_doStep_145 : decode cX10_doStep 145 = .ok (.iload_n 2, 1) := by decide +kernel
theorem dX10_doStep_146 : decode cX10_doStep 146 = .ok (.iconst 1, 1) := by decide +kernel
theorem dX10_doStep_147 : decode cX10_doStep 147 = .ok (.isub, 1) := by decide +kernel
theorem dX10_doStep_148 : decode cX10_doStep 148 = .ok (.ireturn, 1) := by decide +kernel
theorem dX10_doStep_149 : decode cX10_doStep 149 = .ok (.iload_n 2, 1) := by decide +kernel
theorem dX10_doStep_150 : decode cX10_doStep 150 = .ok (.ireturn, 1) := by decide +kernel
theorem dX10_joined_0 : decode cX10_joined 0 = .ok (.iload_n 0, 1) := by decide +kernel
theorem dX10_joined_1 : decode cX10_joined 1 = .ok (.lookupswitch 117 #[(9, 59), (10, 73), (43, 109), (45, 113), (60, 87), (61, 98)], 59) := by decide +kernel
theorem dX10_joined_60 : decode cX10_joined 60 = .ok (.iload_n 1, 1) := by decide +kernel
theorem dX10_joined_61 : decode cX10_joined 61 = .ok (.ifCond .ne 7, 3) := by decide +kernel
theorem dX10_joined_64 : decode cX10_joined 64 = .ok (.iload_n 2, 1) := by decide +kernel
theorem dX10_joined_65 : decode cX10_joined 65 = .ok (.ifCond .eq 7, 3) := by decide +kernel
theorem dX10_joined_68 : decode cX10_joined 68 = .ok (.iconst 1, 1) := by decide +kernel
theorem dX10_joined_69 : decode cX10_joined 69 = .ok (.goto 4, 3) := by decide +kernel
theorem dX10_joined_72 : decode cX10_joined 72 = .ok (.iconst 0, 1) := by decide +kernel
theorem dX10_joined_73 : decode cX10_joined 73 = .ok (.ireturn, 1) := by decide +kernel
theorem dX10_joined_74 : decode cX10_joined 74 = .ok (.iload_n 1, 1) := by decide +kernel
theorem dX10_joined_75 : decode cX10_joined 75 = .ok (.ifCond .eq 11, 3) := by decide +kernel
theorem dX10_joined_78 : decode cX10_joined 78 = .ok (.iload_n 2, 1) := by decide +kernel
theorem dX10_joined_79 : decode cX10_joined 79 = .ok (.ifCond .eq 7, 3) := by decide +kernel
theorem dX10_joined_82 : decode cX10_joined 82 = .ok (.iconst 1, 1) := by decide +kernel
theorem dX10_joined_83 : decode cX10_joined 83 = .ok (.goto 4, 3) := by decide +kernel
theorem dX10_joined_86 : decode cX10_joined 86 = .ok (.iconst 0, 1) := by decide +kernel
theorem dX10_joined_87 : decode cX10_joined 87 = .ok (.ireturn, 1) := by decide +kernel
theorem dX10_joined_88 : decode cX10_joined 88 = .ok (.iload_n 1, 1) := by decide +kernel
theorem dX10_joined_89 : decode cX10_joined 89 = .ok (.iload_n 2, 1) := by decide +kernel
theorem dX10_joined_90 : decode cX10_joined 90 = .ok (.if_icmp .ge 7, 3) := by decide +kernel
theorem dX10_joined_93 : decode cX10_joined 93 = .ok (.iconst 1, 1) := by decide +kernel
theorem dX10_joined_94 : decode cX10_joined 94 = .ok (.goto 4, 3) := by decide +kernel
theorem dX10_joined_97 : decode cX10_joined 97 = .ok (.iconst 0, 1) := by decide +kernel
theorem dX10_joined_98 : decode cX10_joined 98 = .ok (.ireturn, 1) := by decide +kernel
theorem dX10_joined_99 : decode cX10_joined 99 = .ok (.iload_n 1, 1) := by decide +kernel
theorem dX10_joined_100 : decode cX10_joined 100 = .ok (.iload_n 2, 1) := by decide +kernel
theorem dX10_joined_101 : decode cX10_joined 101 = .ok (.if_icmp .ne 7, 3) := by decide +kernel
theorem dX10_joined_104 : decode cX10_joined 104 = .ok (.iconst 1, 1) := by decide +kernel
theorem dX10_joined_105 : decode cX10_joined 105 = .ok (.goto 4, 3) := by decide +kernel
theorem dX10_joined_108 : decode cX10_joined 108 = .ok (.iconst 0, 1) := by decide +kernel
theorem dX10_joined_109 : decode cX10_joined 109 = .ok (.ireturn, 1) := by decide +kernel
theorem dX10_joined_110 : decode cX10_joined 110 = .ok (.iload_n 1, 1) := by decide +kernel
theorem dX10_joined_111 : decode cX10_joined 111 = .ok (.iload_n 2, 1) := by decide +kernel
theorem dX10_joined_112 : decode cX10_joined 112 = .ok (.iadd, 1) := by decide +kernel
theorem dX10_joined_113 : decode cX10_joined 113 = .ok (.ireturn, 1) := by decide +kernel
theorem dX10_joined_114 : decode cX10_joined 114 = .ok (.iload_n 1, 1) := by decide +kernel
theorem dX10_joined_115 : decode cX10_joined 115 = .ok (.iload_n 2, 1) := by decide +kernel
theorem dX10_joined_116 : decode cX10_joined 116 = .ok (.isub, 1) := by decide +kernel
theorem dX10_joined_117 : decode cX10_joined 117 = .ok (.ireturn, 1) := by decide +kernel
theorem dX10_joined_118 : decode cX10_joined 118 = .ok (.iload_n 1, 1) := by decide +kernel
theorem dX10_joined_119 : decode cX10_joined 119 = .ok (.iload_n 2, 1) := by decide +kernel
theorem dX10_joined_120 : decode cX10_joined 120 = .ok (.imul, 1) := by decide +kernel
theorem dX10_joined_121 : decode cX10_joined 121 = .ok (.ireturn, 1) := by decide +kernel
theorem dX11_init_0 : decode cX11_init 0 = .ok (.aload_n 0, 1) := by decide +kernel
theorem dX11_init_1 : decode cX11_init 1 = .ok (.invokespecial 1, 3) := by decide +kernel
theorem dX11_init_4 : decode cX11_init 4 = .ok (.aload_n 0, 1) := by decide +kernel
theorem dX11_init_5 : decode cX11_init 5 = .ok (.bipush 7, 2) := by decide +kernel
theorem dX11_init_7 : decode cX11_init 7 = .ok (.anewarray 9, 3) := by decide +kernel
theorem dX11_init_10 : decode cX11_init 10 = .ok (.putfield 11, 3) := by decide +kernel
theorem dX11_init_13 : decode cX11_init 13 = .ok (.aload_n 0, 1) := by decide +kernel
theorem dX11_init_14 : decode cX11_init 14 = .ok (.bipush 14, 2) := by decide +kernel
theorem dX11_init_16 : decode cX11_init 16 = .ok (.anewarray 15, 3) := by decide +kernel
theorem dX11_init_19 : decode cX11_init 19 = .ok (.putfield 17, 3) := by decide +kernel
theorem dX11_init_22 : decode cX11_init 22 = .ok (.aload_n 0, 1) := by decide +kernel
theorem dX11_init_23 : decode cX11_init 23 = .ok (.new 21, 3) := by decide +kernel
theorem dX11_init_26 : decode cX11_init 26 = .ok (.dup, 1) := by decide +kernel
theorem dX11_init_27 : decode cX11_init 27 = .ok (.invokespecial 23, 3) := by decide +kernel
theorem dX11_init_30 : decode cX11_init 30 = .ok (.putfield 24, 3) := by decide +kernel
theorem dX11_init_33 : decode cX11_init 33 = .ok (.aload_n 0, 1) := by decide +kernel
theorem dX11_init_34 : decode cX11_init 34 = .ok (.bipush 6, 2) := by decide +kernel
theorem dX11_init_36 : decode cX11_init 36 = .ok (.newarray .int, 2) := by decide +kernel
theorem dX11_init_38 : decode cX11_init 38 = .ok (.putfield 28, 3) := by decide +kernel
theorem dX11_init_41 : decode cX11_init 41 = .ok (.aload_n 0, 1) := by decide +kernel
theorem dX11_init_42 : decode cX11_init 42 = .ok (.new 32, 3) := by decide +kernel
theorem dX11_init_45 : decode cX11_init 45 = .ok (.dup, 1) := by decide +kernel
theorem dX11_init_46 : decode cX11_init 46 = .ok (.invokespecial 34, 3) := by decide +kernel
theorem dX11_init_49 : decode cX11_init 49 = .ok (.putfield 35, 3) := by decide +kernel
theorem dX11_init_52 : decode cX11_init 52 = .ok (.aload_n 0, 1) := by decide +kernel
theorem dX11_init_53 : decode cX11_init 53 = .ok (.new 39, 3) := by decide +kernel
theorem dX11_init_56 : decode cX11_init 56 = .ok (.dup, 1) := by decide +kernel
theorem dX11_init_57 : decode cX11_init 57 = .ok (.invokespecial 41, 3) := by decide +kernel
theorem dX11_init_60 : decode cX11_init 60 = .ok (.putfield 42, 3) := by decide +kernel
theorem dX11_init_63 : decode cX11_init 63 = .ok (.aload_n 0, 1) := by decide +kernel
theorem dX11_init_64 : decode cX11_init 64 = .ok (.iconst 4, 1) := by decide +kernel
theorem dX11_init_65 : decode cX11_init 65 = .ok (.anewarray 46, 3) := by decide +kernel
theorem dX11_init_68 : decode cX11_init 68 = .ok (.putfield 48, 3) := by decide +kernel
theorem dX11_init_71 : decode cX11_init 71 = .ok (.aload_n 0, 1) := by decide +kernel
theorem dX11_init_72 : decode cX11_init 72 = .ok (.bipush 14, 2) := by decide +kernel
theorem dX11_init_74 : decode cX11_init 74 = .ok (.newarray .int, 2) := by decide +kernel
theorem dX11_init_76 : decode cX11_init 76 = .ok (.putfield 52, 3) := by decide +kernel
theorem dX11_init_79 : decode cX11_init 79 = .ok (.iconst 0, 1) := by decide +kernel
theorem dX11_init_80 : decode cX11_init 80 = .ok (.istore_n 1, 1) := by decide +kernel
theorem dX11_init_81 : decode cX11_init 81 = .ok (.iload_n 1, 1) := by decide +kernel
theorem dX11_init_82 : decode cX11_init 82 = .ok (.iconst 4, 1) := by decide +kernel
theorem dX11_init_83 : decode cX11_init 83 = .ok (.if_icmp .ge 22, 3) := by decide +kernel
theorem dX11_init_86 : decode cX11_init 86 = .ok (.aload_n 0, 1) := by decide +kernel
theorem dX11_init_87 : decode cX11_init 87 = .ok (.getfield 48, 3) := by decide +kernel
theorem dX11_init_90 : decode cX11_init 90 = .ok (.iload_n 1, 1) := by decide +kernel
theorem dX11_init_91 : decode cX11_init 91 = .ok (.new 46, 3) := by decide +kernel
theorem dX11_init_94 : decode cX11_init 94 = .ok (.dup, 1) := by decide +kernel
theorem dX11_init_95 : decode cX11_init 95 = .ok (.invokespecial 55, 3) := by decide +kernel
theorem dX11_init_98 : decode cX11_init 98 = .ok (.aastore, 1) := by decide +kernel
theorem dX11_init_99 : decode cX11_init 99 = .ok (.iinc 1 1, 3) := by decide +kernel
theorem dX11_init_102 : decode cX11_init 102 = .ok (.goto (-21), 3) := by decide +kernel
theorem dX11_init_105 : decode cX11_init 105 = .ok (.aload_n 0, 1) := by decide +kernel
theorem dX11_init_106 : decode cX11_init 106 = .ok (.getfield 24, 3) := by decide +kernel
theorem dX11_init_109 : decode cX11_init 109 = .ok (.ldc 56, 2) := by decide +kernel
theorem dX11_init_111 : decode cX11_init 111 = .ok (.invokevirtual 58, 3) := by decide +kernel
theorem dX11_init_114 : decode cX11_init 114 = .ok (.aload_n 0, 1) := by decide +kernel
theorem dX11_init_115 : decode cX11_init 115 = .ok (.getfield 24, 3) := by decide +kernel
theorem dX11_init_118 : decode cX11_init 118 = .ok (.invokevirtual 62, 3) := by decide +kernel
theorem dX11_init_121 : decode cX11_init 121 = .ok (.pop, 1) := by decide +kernel
theorem dX11_init_122 : decode cX11_init 122 = .ok (.return_, 1) := by decide +kernel
theorem dX11_crossing_0 : decode cX11_crossing 0 = .ok (.iload_n 1, 1) := by decide +kernel
theorem dX11_crossing_1 : decode cX11_crossing 1 = .ok (.iconst 1, 1) := by decide +kernel
theorem dX11_crossing_2 : decode cX11_crossing 2 = .ok (.bipush 60, 2) := by decide +kernel
theorem dX11_crossing_4 : decode cX11_crossing 4 = .ok (.invokestatic 66, 3) := by decide +kernel
theorem dX11_crossing_7 : decode cX11_crossing 7 = .ok (.ifCond .eq 10, 3) := by decide +kernel
theorem dX11_crossing_10 : decode cX11_crossing 10 = .ok (.iload_n 2, 1) := by decide +kernel
theorem dX11_crossing_11 : decode cX11_crossing 11 = .ok (.invokestatic 70, 3) := by decide +kernel
theorem dX11_crossing_14 : decode cX11_crossing 14 = .ok (.ifCond .ne 6, 3) := by decide +kernel
theorem dX11_crossing_17 : decode cX11_crossing 17 = .ok (.bipush (-2), 2) := by decide +kernel
theorem dX11_crossing_19 : decode cX11_crossing 19 = .ok (.ireturn, 1) := by decide +kernel
theorem dX11_crossing_20 : decode cX11_crossing 20 = .ok (.aload_n 0, 1) := by decide +kernel
theorem dX11_crossing_21 : decode cX11_crossing 21 = .ok (.getfield 74, 3) := by decide +kernel
theorem dX11_crossing_24 : decode cX11_crossing 24 = .ok (.bipush 7, 2) := by decide +kernel
theorem dX11_crossing_26 : decode cX11_crossing 26 = .ok (.if_icmp .lt 6, 3) := by decide +kernel
theorem dX11_crossing_29 : decode cX11_crossing 29 = .ok (.bipush (-4), 2) := by decide +kernel
theorem dX11_crossing_31 : decode cX11_crossing 31 = .ok (.ireturn, 1) := by decide +kernel
theorem dX11_crossing_32 : decode cX11_crossing 32 = .ok (.aload_n 0, 1) := by decide +kernel
theorem dX11_crossing_33 : decode cX11_crossing 33 = .ok (.getfield 11, 3) := by decide +kernel
theorem dX11_crossing_36 : decode cX11_crossing 36 = .ok (.aload_n 0, 1) := by decide +kernel
theorem dX11_crossing_37 : decode cX11_crossing 37 = .ok (.getfield 74, 3) := by decide +kernel
theorem dX11_crossing_40 : decode cX11_crossing 40 = .ok (.new 9, 3) := by decide +kernel
theorem dX11_crossing_43 : decode cX11_crossing 43 = .ok (.dup, 1) := by decide +kernel
theorem dX11_crossing_44 : decode cX11_crossing 44 = .ok (.iload_n 1, 1) := by decide +kernel
theorem dX11_crossing_45 : decode cX11_crossing 45 = .ok (.iload_n 2, 1) := by decide +kernel
theorem dX11_crossing_46 : decode cX11_crossing 46 = .ok (.invokespecial 78, 3) := by decide +kernel
theorem dX11_crossing_49 : decode cX11_crossing 49 = .ok (.aastore, 1) := by decide +kernel
theorem dX11_crossing_50 : decode cX11_crossing 50 = .ok (.aload_n 0, 1) := by decide +kernel
theorem dX11_crossing_51 : decode cX11_crossing 51 = .ok (.dup, 1) := by decide +kernel
theorem dX11_crossing_52 : decode cX11_crossing 52 = .ok (.getfield 74, 3) := by decide +kernel
theorem dX11_crossing_55 : decode cX11_crossing 55 = .ok (.iconst 1, 1) := by decide +kernel
theorem dX11_crossing_56 : decode cX11_crossing 56 = .ok (.iadd, 1) := by decide +kernel
theorem dX11_crossing_57 : decode cX11_crossing 57 = .ok (.putfield 74, 3) := by decide +kernel
theorem dX11_crossing_60 : decode cX11_crossing 60 = .ok (.aload_n 0, 1) := by decide +kernel
theorem dX11_crossing_61 : decode cX11_crossing 61 = .ok (.getfield 74, 3) := by decide +kernel
theorem dX11_crossing_64 : decode cX11_crossing 64 = .ok (.iconst 1, 1) := by decide +kernel
theorem dX11_crossing_65 : decode cX11_crossing 65 = .ok (.isub, 1) := by decide +kernel
theorem dX11_crossing_66 : decode cX11_crossing 66 = .ok (.ireturn, 1) := by decide +kernel
theorem dX11_set_0 : decode cX11_set 0 = .ok (.iload_n 1, 1) := by decide +kernel
theorem dX11_set_1 : decode cX11_set 1 = .ok (.ifCond .eq 8, 3) := by decide +kernel
theorem dX11_set_4 : decode cX11_set 4 = .ok (.iload_n 1, 1) := by decide +kernel
theorem dX11_set_5 : decode cX11_set 5 = .ok (.iconst 1, 1) := by decide +kernel
theorem dX11_set_6 : decode cX11_set 6 = .ok (.if_icmp .ne 10, 3) := by decide +kernel
theorem dX11_set_9 : decode cX11_set 9 = .ok (.aload_n 0, 1) := by decide +kernel
theorem dX11_set_10 : decode cX11_set 10 = .ok (.iload_n 1, 1) := by decide +kernel
theorem dX11_set_11 : decode cX11_set 11 = .ok (.iload_n 2, 1) := by decide +kernel
theorem dX11_set_12 : decode cX11_set 12 = .ok (.invokevirtual 81, 3) := by decide +kernel
theorem dX11_set_15 : decode cX11_set 15 = .ok (.ireturn, 1) := by decide +kernel
theorem dX11_set_16 : decode cX11_set 16 = .ok (.aload_n 0, 1) := by decide +kernel
theorem dX11_set_17 : decode cX11_set 17 = .ok (.iload_n 1, 1) := by decide +kernel
theorem dX11_set_18 : decode cX11_set 18 = .ok (.i2l, 1) := by decide +kernel
theorem dX11_set_19 : decode cX11_set 19 = .ok (.ldc2_w 85, 3) := by decide +kernel
theorem dX11_set_22 : decode cX11_set 22 = .ok (.lsub, 1) := by decide +kernel
theorem dX11_set_23 : decode cX11_set 23 = .ok (.invokevirtual 87, 3) := by decide +kernel
theorem dX11_set_26 : decode cX11_set 26 = .ok (.astore_n 3, 1) := by decide +kernel
theorem dX11_set_27 : decode cX11_set 27 = .ok (.aload_n 3, 1) := by decide +kernel
theorem dX11_set_28 : decode cX11_set 28 = .ok (.ifnull 24, 3) := by decide +kernel
theorem dX11_set_31 : decode cX11_set 31 = .ok (.iload_n 2, 1) := by decide +kernel
theorem dX11_set_32 : decode cX11_set 32 = .ok (.iconst 0, 1) := by decide +kernel
theorem dX11_set_33 : decode cX11_set 33 = .ok (.iconst 1, 1) := by decide +kernel
theorem dX11_set_34 : decode cX11_set 34 = .ok (.invokestatic 66, 3) := by decide +kernel
theorem dX11_set_37 : decode cX11_set 37 = .ok (.ifCond .eq 11, 3) := by decide +kernel
theorem dX11_set_40 : decode cX11_set 40 = .ok (.aload_n 3, 1) := by decide +kernel
theorem dX11_set_41 : decode cX11_set 41 = .ok (.iload_n 2, 1) := by decide +kernel
theorem dX11_set_42 : decode cX11_set 42 = .ok (.invokevirtual 91, 3) := by decide +kernel
theorem dX11_set_45 : decode cX11_set 45 = .ok (.goto 6, 3) := by decide +kernel
theorem dX11_set_48 : decode cX11_set 48 = .ok (.sipush (-1000), 3) := by decide +kernel
theorem dX11_set_51 : decode cX11_set 51 = .ok (.ireturn, 1) := by decide +kernel
theorem dX11_set_52 : decode cX11_set 52 = .ok (.aload_n 0, 1) := by decide +kernel
theorem dX11_set_53 : decode cX11_set 53 = .ok (.iload_n 1, 1) := by decide +kernel
theorem dX11_set_54 : decode cX11_set 54 = .ok (.i2l, 1) := by decide +kernel
theorem dX11_set_55 : decode cX11_set 55 = .ok (.ldc2_w 95, 3) := by decide +kernel
theorem dX11_set_58 : decode cX11_set 58 = .ok (.lsub, 1) := by decide +kernel
theorem dX11_set_59 : decode cX11_set 59 = .ok (.invokevirtual 87, 3) := by decide +kernel
theorem dX11_set_62 : decode cX11_set 62 = .ok (.astore 4, 2) := by decide +kernel
theorem dX11_set_64 : decode cX11_set 64 = .ok (.aload 4, 2) := by decide +kernel
theorem dX11_set_66 : decode cX11_set 66 = .ok (.ifnull 23, 3) := by decide +kernel
theorem dX11_set_69 : decode cX11_set 69 = .ok (.iload_n 2, 1) := by decide +kernel
theorem dX11_set_70 : decode cX11_set 70 = .ok (.iconst 0, 1) := by decide +kernel
theorem dX11_set_71 : decode cX11_set 71 = .ok (.sipush 999, 3) := by decide +kernel
theorem dX11_set_74 : decode cX11_set 74 = .ok (.invokestatic 66, 3) := by decide +kernel
theorem dX11_set_77 : decode cX11_set 77 = .ok (.ifCond .eq 12, 3) := by decide +kernel
theorem dX11_set_80 : decode cX11_set 80 = .ok (.aload 4, 2) := by decide +kernel
theorem dX11_set_82 : decode cX11_set 82 = .ok (.iload_n 2, 1) := by decide +kernel
theorem dX11_set_83 : decode cX11_set 83 = .ok (.invokevirtual 97, 3) := by decide +kernel
theorem dX11_set_86 : decode cX11_set 86 = .ok (.goto 6, 3) := by decide +kernel
theorem dX11_set_89 : decode cX11_set 89 = .ok (.sipush (-1000), 3) := by decide +kernel
theorem dX11_set_92 : decode cX11_set 92 = .ok (.ireturn, 1) := by decide +kernel
theorem dX11_setWater_0 : decode cX11_setWater 0 = .ok (.iload_n 2, 1) := by decide +kernel
theorem dX11_setWater_1 : decode cX11_setWater 1 = .ok (.iconst 0, 1) := by decide +kernel
theorem dX11_setWater_2 : decode cX11_setWater 2 = .ok (.bipush 9, 2) := by decide +kernel
theorem dX11_setWater_4 : decode cX11_setWater 4 = .ok (.invokestatic 66, 3) := by decide +kernel
theorem dX11_setWater_7 : decode cX11_setWater 7 = .ok (.ifCond .ne 7, 3) := by decide +kernel
theorem dX11_setWater_10 : decode cX11_setWater 10 = .ok (.sipush (-1000), 3) := by decide +kernel
theorem dX11_setWater_13 : decode cX11_setWater 13 = .ok (.ireturn, 1) := by decide +kernel
theorem dX11_setWater_14 : decode cX11_setWater 14 = .ok (.iload_n 1, 1) := by decide +kernel
theorem dX11_setWater_15 : decode cX11_setWater 15 = .ok (.ifCond .ne 10, 3) := by decide +kernel
theorem dX11_setWater_18 : decode cX11_setWater 18 = .ok (.aload_n 0, 1) := by decide +kernel
theorem dX11_setWater_19 : decode cX11_setWater 19 = .ok (.getfield 100, 3) := by decide +kernel
theorem dX11_setWater_22 : decode cX11_setWater 22 = .ok (.goto 7, 3) := by decide +kernel
theorem dX11_setWater_25 : decode cX11_setWater 25 = .ok (.aload_n 0, 1) := by decide +kernel
theorem dX11_setWater_26 : decode cX11_setWater 26 = .ok (.getfield 103, 3) := by decide +kernel
theorem dX11_setWater_29 : decode cX11_setWater 29 = .ok (.istore_n 3, 1) := by decide +kernel
theorem dX11_setWater_30 : decode cX11_setWater 30 = .ok (.iload_n 1, 1) := by decide +kernel
theorem dX11_setWater_31 : decode cX11_setWater 31 = .ok (.ifCond .ne 11, 3) := by decide +kernel
theorem dX11_setWater_34 : decode cX11_setWater 34 = .ok (.aload_n 0, 1) := by decide +kernel
theorem dX11_setWater_35 : decode cX11_setWater 35 = .ok (.iload_n 2, 1) := by decide +kernel
theorem dX11_setWater_36 : decode cX11_setWater 36 = .ok (.putfield 100, 3) := by decide +kernel
theorem dX11_setWater_39 : decode cX11_setWater 39 = .ok (.goto 8, 3) := by decide +kernel
theorem dX11_setWater_42 : decode cX11_setWater 42 = .ok (.aload_n 0, 1) := by decide +kernel
theorem dX11_setWater_43 : decode cX11_setWater 43 = .ok (.iload_n 2, 1) := by decide +kernel
theorem dX11_setWater_44 : decode cX11_setWater 44 = .ok (.putfield 103, 3) := by decide +kernel
theorem dX11_setWater_47 : decode cX11_setWater 47 = .ok (.iload_n 3, 1) := by decide +kernel
theorem dX11_setWater_48 : decode cX11_setWater 48 = .ok (.ireturn, 1) := by decide +kernel
theorem dX11_rower_0 : decode cX11_rower 0 = .ok (.iload_n 1, 1) := by decide +kernel
theorem dX11_rower_1 : decode cX11_rower 1 = .ok (.iconst 0, 1) := by decide +kernel
theorem dX11_rower_2 : decode cX11_rower 2 = .ok (.iconst 5, 1) := by decide +kernel
theorem dX11_rower_3 : decode cX11_rower 3 = .ok (.invokestatic 66, 3) := by decide +kernel
theorem dX11_rower_6 : decode cX11_rower 6 = .ok (.ifCond .eq 41, 3) := by decide +kernel
theorem dX11_rower_9 : decode cX11_rower 9 = .ok (.iload_n 2, 1) := by decide +kernel
theorem dX11_rower_10 : decode cX11_rower 10 = .ok (.sipush 1400, 3) := by decide +kernel
theorem dX11_rower_13 : decode cX11_rower 13 = .ok (.sipush 9099, 3) := by decide +kernel
theorem dX11_rower_16 : decode cX11_rower 16 = .ok (.invokestatic 66, 3) := by decide +kernel
theorem dX11_rower_19 : decode cX11_rower 19 = .ok (.ifCond .eq 28, 3) := by decide +kernel
theorem dX11_rower_22 : decode cX11_rower 22 = .ok (.aload_n 0, 1) := by decide +kernel
theorem dX11_rower_23 : decode cX11_rower 23 = .ok (.iload_n 2, 1) := by decide +kernel
theorem dX11_rower_24 : decode cX11_rower 24 = .ok (.bipush 10, 2) := by decide +kernel
theorem dX11_rower_26 : decode cX11_rower 26 = .ok (.irem, 1) := by decide +kernel
theorem dX11_rower_27 : decode cX11_rower 27 = .ok (.i2l, 1) := by decide +kernel
theorem dX11_rower_28 : decode cX11_rower 28 = .ok (.invokevirtual 87, 3) := by decide +kernel
theorem dX11_rower_31 : decode cX11_rower 31 = .ok (.ifnull 16, 3) := by decide +kernel
theorem dX11_rower_34 : decode cX11_rower 34 = .ok (.iload_n 3, 1) := by decide +kernel
theorem dX11_rower_35 : decode cX11_rower 35 = .ok (.iconst (-1), 1) := by decide +kernel
theorem dX11_rower_36 : decode cX11_rower 36 = .ok (.if_icmp .eq 14, 3) := by decide +kernel
theorem dX11_rower_39 : decode cX11_rower 39 = .ok (.aload_n 0, 1) := by decide +kernel
theorem dX11_rower_40 : decode cX11_rower 40 = .ok (.iload_n 3, 1) := by decide +kernel
theorem dX11_rower_41 : decode cX11_rower 41 = .ok (.invokevirtual 106, 3) := by decide +kernel
theorem dX11_rower_44 : decode cX11_rower 44 = .ok (.ifnonnull 6, 3) := by decide +kernel
theorem dX11_rower_47 : decode cX11_rower 47 = .ok (.bipush (-2), 2) := by decide +kernel
theorem dX11_rower_49 : decode cX11_rower 49 = .ok (.ireturn, 1) := by decide +kernel
theorem dX11_rower_50 : decode cX11_rower 50 = .ok (.aload_n 0, 1) := by decide +kernel
theorem dX11_rower_51 : decode cX11_rower 51 = .ok (.getfield 110, 3) := by decide +kernel
theorem dX11_rower_54 : decode cX11_rower 54 = .ok (.bipush 14, 2) := by decide +kernel
theorem dX11_rower_56 : decode cX11_rower 56 = .ok (.if_icmp .lt 6, 3) := by decide +kernel
theorem dX11_rower_59 : decode cX11_rower 59 = .ok (.bipush (-4), 2) := by decide +kernel
theorem dX11_rower_61 : decode cX11_rower 61 = .ok (.ireturn, 1) := by decide +kernel
theorem dX11_rower_62 : decode cX11_rower 62 = .ok (.aload_n 0, 1) := by decide +kernel
theorem dX11_rower_63 : decode cX11_rower 63 = .ok (.getfield 17, 3) := by decide +kernel
theorem dX11_rower_66 : decode cX11_rower 66 = .ok (.aload_n 0, 1) := by decide +kernel
theorem dX11_rower_67 : decode cX11_rower 67 = .ok (.getfield 110, 3) := by decide +kernel
theorem dX11_rower_70 : decode cX11_rower 70 = .ok (.iload_n 1, 1) := by decide +kernel
theorem dX11_rower_71 : decode cX11_rower 71 = .ok (.iload_n 2, 1) := by decide +kernel
theorem dX11_rower_72 : decode cX11_rower 72 = .ok (.iload_n 3, 1) := by decide +kernel
theorem dX11_rower_73 : decode cX11_rower 73 = .ok (.invokestatic 113, 3) := by decide +kernel
theorem dX11_rower_76 : decode cX11_rower 76 = .ok (.aastore, 1) := by decide +kernel
theorem dX11_rower_77 : decode cX11_rower 77 = .ok (.aload_n 0, 1) := by decide +kernel
theorem dX11_rower_78 : decode cX11_rower 78 = .ok (.dup, 1) := by decide +kernel
theorem dX11_rower_79 : decode cX11_rower 79 = .ok (.getfield 110, 3) := by decide +kernel
theorem dX11_rower_82 : decode cX11_rower 82 = .ok (.iconst 1, 1) := by decide +kernel
theorem dX11_rower_83 : decode cX11_rower 83 = .ok (.iadd, 1) := by decide +kernel
theorem dX11_rower_84 : decode cX11_rower 84 = .ok (.putfield 110, 3) := by decide +kernel
theorem dX11_rower_87 : decode cX11_rower 87 = .ok (.aload_n 0, 1) := by decide +kernel
theorem dX11_rower_88 : decode cX11_rower 88 = .ok (.getfield 110, 3) := by decide +kernel
theorem dX11_rower_91 : decode cX11_rower 91 = .ok (.iconst 1, 1) := by decide +kernel
theorem dX11_rower_92 : decode cX11_rower 92 = .ok (.isub, 1) := by decide +kernel
theorem dX11_rower_93 : decode cX11_rower 93 = .ok (.ireturn, 1) := by decide +kernel
theorem dX11_newRower_0 : decode cX11_newRower 0 = .ok (.iload_n 0, 1) := by decide +kernel
theorem dX11_newRower_1 : decode cX11_newRower 1 = .ok (.tableswitch 90 1 5 #[35, 46, 57, 68, 79], 35) := by decide +kernel
theorem dX11_newRower_36 : decode cX11_newRower 36 = .ok (.new 117, 3) := by decide +kernel
theorem dX11_newRower_39 : decode cX11_newRower 39 = .ok (.dup, 1) := by decide +kernel
theorem dX11_newRower_40 : decode cX11_newRower 40 = .ok (.iload_n 0, 1) := by decide +kernel
theorem dX11_newRower_41 : decode cX11_newRower 41 = .ok (.iload_n 1, 1) := by decide +kernel
theorem dX11_newRower_42 : decode cX11_newRower 42 = .ok (.iload_n 2, 1) := by decide +kernel
theorem dX11_newRower_43 : decode cX11_newRower 43 = .ok (.invokespecial 119, 3) := by decide +kernel
theorem dX11_newRower_46 : decode cX11_newRower 46 = .ok (.areturn, 1) := by decide +kernel
theorem dX11_newRower_47 : decode cX11_newRower 47 = .ok (.new 122, 3) := by decide +kernel
theorem dX11_newRower_50 : decode cX11_newRower 50 = .ok (.dup, 1) := by decide +kernel
theorem dX11_newRower_51 : decode cX11_newRower 51 = .ok (.iload_n 0, 1) := by decide +kernel
theorem dX11_newRower_52 : decode cX11_newRower 52 = .ok (.iload_n 1, 1) := by decide +kernel
theorem dX11_newRower_53 : decode cX11_newRower 53 = .ok (.iload_n 2, 1) := by decide +kernel
theorem dX11_newRower_54 : decode cX11_newRower 54 = .ok (.invokespecial 124, 3) := by decide +kernel
theorem dX11_newRower_57 : decode cX11_newRower 57 = .ok (.areturn, 1) := by decide +kernel
theorem dX11_newRower_58 : decode cX11_newRower 58 = .ok (.new 125, 3) := by decide +kernel
theorem dX11_newRower_61 : decode cX11_newRower 61 = .ok (.dup, 1) := by decide +kernel
theorem dX11_newRower_62 : decode cX11_newRower 62 = .ok (.iload_n 0, 1) := by decide +kernel
theorem dX11_newRower_63 : decode cX11_newRower 63 = .ok (.iload_n 1, 1) := by decide +kernel
theorem dX11_newRower_64 : decode cX11_newRower 64 = .ok (.iload_n 2, 1) := by decide +kernel
theorem dX11_newRower_65 : decode cX11_newRower 65 = .ok (.invokespecial 127, 3) := by decide +kernel
theorem dX11_newRower_68 : decode cX11_newRower 68 = .ok (.areturn, 1) := by decide +kernel
theorem dX11_newRower_69 : decode cX11_newRower 69 = .ok (.new 128, 3) := by decide +kernel
theorem dX11_newRower_72 : decode cX11_newRower 72 = .ok (.dup, 1) := by decide +kernel
theorem dX11_newRower_73 : decode cX11_newRower 73 = .ok (.iload_n 0, 1) := by decide +kernel
theorem dX11_newRower_74 : decode cX11_newRower 74 = .ok (.iload_n 1, 1) := by decide +kernel
theorem dX11_newRower_75 : decode cX11_newRower 75 = .ok (.iload_n 2, 1) := by decide +kernel
theorem dX11_newRower_76 : decode cX11_newRower 76 = .ok (.invokespecial 130, 3) := by decide +kernel
theorem dX11_newRower_79 : decode cX11_newRower 79 = .ok (.areturn, 1) := by decide +kernel
theorem dX11_newRower_80 : decode cX11_newRower 80 = .ok (.new 131, 3) := by decide +kernel
theorem dX11_newRower_83 : decode cX11_newRower 83 = .ok (.dup, 1) := by decide +kernel
theorem dX11_newRower_84 : decode cX11_newRower 84 = .ok (.iload_n 0, 1) := by decide +kernel
theorem dX11_newRower_85 : decode cX11_newRower 85 = .ok (.iload_n 1, 1) := by decide +kernel
theorem dX11_newRower_86 : decode cX11_newRower 86 = .ok (.iload_n 2, 1) := by decide +kernel
theorem dX11_newRower_87 : decode cX11_newRower 87 = .ok (.invokespecial 133, 3) := by decide +kernel
theorem dX11_newRower_90 : decode cX11_newRower 90 = .ok (.areturn, 1) := by decide +kernel
theorem dX11_newRower_91 : decode cX11_newRower 91 = .ok (.new 15, 3) := by decide +kernel
theorem dX11_newRower_94 : decode cX11_newRower 94 = .ok (.dup, 1) := by decide +kernel
theorem dX11_newRower_95 : decode cX11_newRower 95 = .ok (.iload_n 0, 1) := by decide +kernel
theorem dX11_newRower_96 : decode cX11_newRower 96 = .ok (.iload_n 1, 1) := by decide +kernel
theorem dX11_newRower_97 : decode cX11_newRower 97 = .ok (.iload_n 2, 1) := by decide +kernel
theorem dX11_newRower_98 : decode cX11_newRower 98 = .ok (.invokespecial 134, 3) := by decide +kernel
theorem dX11_newRower_101 : decode cX11_newRower 101 = .ok (.areturn, 1) := by decide +kernel
theorem dX11_ill_0 : decode cX11_ill 0 = .ok (.aload_n 0, 1) := by decide +kernel
theorem dX11_ill_1 : decode cX11_ill 1 = .ok (.iload_n 1, 1) := by decide +kernel
theorem dX11_ill_2 : decode cX11_ill 2 = .ok (.invokevirtual 106, 3) := by decide +kernel
theorem dX11_ill_5 : decode cX11_ill 5 = .ok (.astore_n 3, 1) := by decide +kernel
theorem dX11_ill_6 : decode cX11_ill 6 = .ok (.aload_n 3, 1) := by decide +kernel
theorem dX11_ill_7 : decode cX11_ill 7 = .ok (.ifnull 12, 3) := by decide +kernel
theorem dX11_ill_10 : decode cX11_ill 10 = .ok (.iload_n 2, 1) := by decide +kernel
theorem dX11_ill_11 : decode cX11_ill 11 = .ok (.iconst 0, 1) := by decide +kernel
theorem dX11_ill_12 : decode cX11_ill 12 = .ok (.iconst 1, 1) := by decide +kernel
theorem dX11_ill_13 : decode cX11_ill 13 = .ok (.invokestatic 66, 3) := by decide +kernel
theorem dX11_ill_16 : decode cX11_ill 16 = .ok (.ifCond .ne 6, 3) := by decide +kernel
theorem dX11_ill_19 : decode cX11_ill 19 = .ok (.bipush (-2), 2) := by decide +kernel
theorem dX11_ill_21 : decode cX11_ill 21 = .ok (.ireturn, 1) := by decide +kernel
theorem dX11_ill_22 : decode cX11_ill 22 = .ok (.aload_n 3, 1) := by decide +kernel
theorem dX11_ill_23 : decode cX11_ill 23 = .ok (.getfield 135, 3) := by decide +kernel
theorem dX11_ill_26 : decode cX11_ill 26 = .ok (.istore 4, 2) := by decide +kernel
theorem dX11_ill_28 : decode cX11_ill 28 = .ok (.aload_n 3, 1) := by decide +kernel
theorem dX11_ill_29 : decode cX11_ill 29 = .ok (.iload_n 2, 1) := by decide +kernel
theorem dX11_ill_30 : decode cX11_ill 30 = .ok (.putfield 135, 3) := by decide +kernel
theorem dX11_ill_33 : decode cX11_ill 33 = .ok (.iload 4, 2) := by decide +kernel
theorem dX11_ill_35 : decode cX11_ill 35 = .ok (.ireturn, 1) := by decide +kernel
theorem dX11_told_0 : decode cX11_told 0 = .ok (.aload_n 0, 1) := by decide +kernel
theorem dX11_told_1 : decode cX11_told 1 = .ok (.iload_n 1, 1) := by decide +kernel
theorem dX11_told_2 : decode cX11_told 2 = .ok (.invokevirtual 106, 3) := by decide +kernel
theorem dX11_told_5 : decode cX11_told 5 = .ok (.astore 4, 2) := by decide +kernel
theorem dX11_told_7 : decode cX11_told 7 = .ok (.aload 4, 2) := by decide +kernel
theorem dX11_told_9 : decode cX11_told 9 = .ok (.ifnull 10, 3) := by decide +kernel
theorem dX11_told_12 : decode cX11_told 12 = .ok (.iload_n 2, 1) := by decide +kernel
theorem dX11_told_13 : decode cX11_told 13 = .ok (.invokestatic 138, 3) := by decide +kernel
theorem dX11_told_16 : decode cX11_told 16 = .ok (.ifCond .ne 6, 3) := by decide +kernel
theorem dX11_told_19 : decode cX11_told 19 = .ok (.ldc 141, 2) := by decide +kernel
theorem dX11_told_21 : decode cX11_told 21 = .ok (.ireturn, 1) := by decide +kernel
theorem dX11_told_22 : decode cX11_told 22 = .ok (.iload_n 3, 1) := by decide +kernel
theorem dX11_told_23 : decode cX11_told 23 = .ok (.tableswitch 145 0 10 #[57, 63, 69, 75, 81, 87, 93, 99, 105, 120, 126], 57) := by decide +kernel
theorem dX11_told_80 : decode cX11_told 80 = .ok (.aload 4, 2) := by decide +kernel
theorem dX11_told_82 : decode cX11_told 82 = .ok (.getfield 142, 3) := by decide +kernel
theorem dX11_told_85 : decode cX11_told 85 = .ok (.ireturn, 1) := by decide +kernel
theorem dX11_told_86 : decode cX11_told 86 = .ok (.aload 4, 2) := by decide +kernel
theorem dX11_told_88 : decode cX11_told 88 = .ok (.getfield 145, 3) := by decide +kernel
theorem dX11_told_91 : decode cX11_told 91 = .ok (.ireturn, 1) := by decide +kernel
theorem dX11_told_92 : decode cX11_told 92 = .ok (.aload 4, 2) := by decide +kernel
theorem dX11_told_94 : decode cX11_told 94 = .ok (.getfield 148, 3) := by decide +kernel
theorem dX11_told_97 : decode cX11_told 97 = .ok (.ireturn, 1) := by decide +kernel
theorem dX11_told_98 : decode cX11_told 98 = .ok (.aload 4, 2) := by decide +kernel
theorem dX11_told_100 : decode cX11_told 100 = .ok (.getfield 151, 3) := by decide +kernel
theorem dX11_told_103 : decode cX11_told 103 = .ok (.ireturn, 1) := by decide +kernel
theorem dX11_told_104 : decode cX11_told 104 = .ok (.aload 4, 2) := by decide +kernel
theorem dX11_told_106 : decode cX11_told 106 = .ok (.getfield 154, 3) := by decide +kernel
theorem dX11_told_109 : decode cX11_told 109 = .ok (.ireturn, 1) := by decide +kernel
theorem dX11_told_110 : decode cX11_told 110 = .ok (.aload 4, 2) := by decide +kernel
theorem dX11_told_112 : decode cX11_told 112 = .ok (.getfield 135, 3) := by decide +kernel
theorem dX11_told_115 : decode cX11_told 115 = .ok (.ireturn, 1) := by decide +kernel
theorem dX11_told_116 : decode cX11_told 116 = .ok (.aload 4, 2) := by decide +kernel
theorem dX11_told_118 : decode cX11_told 118 = .ok (.getfield 157, 3) := by decide +kernel
theorem dX11_told_121 : decode cX11_told 121 = .ok (.ireturn, 1) := by decide +kernel
theorem dX11_told_122 : decode cX11_told 122 = .ok (.aload 4, 2) := by decide +kernel
theorem dX11_told_124 : decode cX11_told 124 = .ok (.invokevirtual 160, 3) := by decide +kernel
theorem dX11_told_127 : decode cX11_told 127 = .ok (.ireturn, 1) := by decide +kernel
theorem dX11_told_128 : decode cX11_told 128 = .ok (.aload 4, 2) := by decide +kernel
theorem dX11_told_130 : decode cX11_told 130 = .ok (.iload_n 2, 1) := by decide +kernel
theorem dX11_told_131 : decode cX11_told 131 = .ok (.invokevirtual 163, 3) := by decide +kernel
theorem dX11_told_134 : decode cX11_told 134 = .ok (.ifCond .eq 7, 3) := by decide +kernel
theorem dX11_told_137 : decode cX11_told 137 = .ok (.iconst 1, 1) := by decide +kernel
theorem dX11_told_138 : decode cX11_told 138 = .ok (.goto 4, 3) := by decide +kernel
theorem dX11_told_141 : decode cX11_told 141 = .ok (.iconst 0, 1) := by decide +kernel
theorem dX11_told_142 : decode cX11_told 142 = .ok (.ireturn, 1) := by decide +kernel
theorem dX11_told_143 : decode cX11_told 143 = .ok (.aload 4, 2) := by decide +kernel
theorem dX11_told_145 : decode cX11_told 145 = .ok (.invokevirtual 166, 3) := by decide +kernel
theorem dX11_told_148 : decode cX11_told 148 = .ok (.ireturn, 1) := by decide +kernel
theorem dX11_told_149 : decode cX11_told 149 = .ok (.aload_n 0, 1) := by decide +kernel
theorem dX11_told_150 : decode cX11_told 150 = .ok (.bipush 8, 2) := by decide +kernel
theorem dX11_told_152 : decode cX11_told 152 = .ok (.iconst 0, 1) := by decide +kernel
theorem dX11_told_153 : decode cX11_told 153 = .ok (.aload 4, 2) := by decide +kernel
theorem dX11_told_155 : decode cX11_told 155 = .ok (.getfield 145, 3) := by decide +kernel
theorem dX11_told_158 : decode cX11_told 158 = .ok (.iload_n 2, 1) := by decide +kernel
theorem dX11_told_159 : decode cX11_told 159 = .ok (.aload 4, 2) := by decide +kernel
theorem dX11_told_161 : decode cX11_told 161 = .ok (.getfield 157, 3) := by decide +kernel
theorem dX11_told_164 : decode cX11_told 164 = .ok (.invokevirtual 169, 3) := by decide +kernel
theorem dX11_told_167 : decode cX11_told 167 = .ok (.ireturn, 1) := by decide +kernel
theorem dX11_told_168 : decode cX11_told 168 = .ok (.ldc 141, 2) := by decide +kernel
theorem dX11_told_170 : decode cX11_told 170 = .ok (.ireturn, 1) := by decide +kernel
theorem dX11_feed_0 : decode cX11_feed 0 = .ok (.iload_n 1, 1) := by decide +kernel
theorem dX11_feed_1 : decode cX11_feed 1 = .ok (.iconst 1, 1) := by decide +kernel
theorem dX11_feed_2 : decode cX11_feed 2 = .ok (.bipush 8, 2) := by decide +kernel
theorem dX11_feed_4 : decode cX11_feed 4 = .ok (.invokestatic 66, 3) := by decide +kernel
theorem dX11_feed_7 : decode cX11_feed 7 = .ok (.ifCond .eq 15, 3) := by decide +kernel
theorem dX11_feed_10 : decode cX11_feed 10 = .ok (.aload_n 0, 1) := by decide +kernel
theorem dX11_feed_11 : decode cX11_feed 11 = .ok (.getfield 24, 3) := by decide +kernel
theorem dX11_feed_14 : decode cX11_feed 14 = .ok (.iload_n 1, 1) := by decide +kernel
theorem dX11_feed_15 : decode cX11_feed 15 = .ok (.lload_n 2, 1) := by decide +kernel
theorem dX11_feed_16 : decode cX11_feed 16 = .ok (.invokevirtual 173, 3) := by decide +kernel
theorem dX11_feed_19 : decode cX11_feed 19 = .ok (.goto 5, 3) := by decide +kernel
theorem dX11_feed_22 : decode cX11_feed 22 = .ok (.bipush (-2), 2) := by decide +kernel
theorem dX11_feed_24 : decode cX11_feed 24 = .ok (.ireturn, 1) := by decide +kernel
theorem dX11_text_0 : decode cX11_text 0 = .ok (.aload_n 0, 1) := by decide +kernel
theorem dX11_text_1 : decode cX11_text 1 = .ok (.getfield 24, 3) := by decide +kernel
theorem dX11_text_4 : decode cX11_text 4 = .ok (.invokevirtual 62, 3) := by decide +kernel
theorem dX11_text_7 : decode cX11_text 7 = .ok (.ireturn, 1) := by decide +kernel
theorem dX11_force_0 : decode cX11_force 0 = .ok (.iload_n 1, 1) := by decide +kernel
theorem dX11_force_1 : decode cX11_force 1 = .ok (.iconst 0, 1) := by decide +kernel
theorem dX11_force_2 : decode cX11_force 2 = .ok (.aload_n 0, 1) := by decide +kernel
theorem dX11_force_3 : decode cX11_force 3 = .ok (.getfield 24, 3) := by decide +kernel
theorem dX11_force_6 : decode cX11_force 6 = .ok (.getfield 177, 3) := by decide +kernel
theorem dX11_force_9 : decode cX11_force 9 = .ok (.iconst 1, 1) := by decide +kernel
theorem dX11_force_10 : decode cX11_force 10 = .ok (.isub, 1) := by decide +kernel
theorem dX11_force_11 : decode cX11_force 11 = .ok (.invokestatic 66, 3) := by decide +kernel
theorem dX11_force_14 : decode cX11_force 14 = .ok (.ifCond .ne 6, 3) := by decide +kernel
theorem dX11_force_17 : decode cX11_force 17 = .ok (.bipush (-2), 2) := by decide +kernel
theorem dX11_force_19 : decode cX11_force 19 = .ok (.ireturn, 1) := by decide +kernel
theorem dX11_force_20 : decode cX11_force 20 = .ok (.aload_n 0, 1) := by decide +kernel
theorem dX11_force_21 : decode cX11_force 21 = .ok (.getfield 24, 3) := by decide +kernel
theorem dX11_force_24 : decode cX11_force 24 = .ok (.getfield 180, 3) := by decide +kernel
theorem dX11_force_27 : decode cX11_force 27 = .ok (.istore_n 2, 1) := by decide +kernel
theorem dX11_force_28 : decode cX11_force 28 = .ok (.aload_n 0, 1) := by decide +kernel
theorem dX11_force_29 : decode cX11_force 29 = .ok (.getfield 24, 3) := by decide +kernel
theorem dX11_force_32 : decode cX11_force 32 = .ok (.iload_n 1, 1) := by decide +kernel
theorem dX11_force_33 : decode cX11_force 33 = .ok (.putfield 180, 3) := by decide +kernel
theorem dX11_force_36 : decode cX11_force 36 = .ok (.iload_n 2, 1) := by decide +kernel
theorem dX11_force_37 : decode cX11_force 37 = .ok (.ireturn, 1) := by decide +kernel
theorem dX11_load_0 : decode cX11_load 0 = .ok (.iload_n 2, 1) := by decide +kernel
theorem dX11_load_1 : decode cX11_load 1 = .ok (.iconst (-1), 1) := by decide +kernel
theorem dX11_load_2 : decode cX11_load 2 = .ok (.if_icmp .eq 7, 3) := by decide +kernel
theorem dX11_load_5 : decode cX11_load 5 = .ok (.iconst 1, 1) := by decide +kernel
theorem dX11_load_6 : decode cX11_load 6 = .ok (.goto 4, 3) := by decide +kernel
theorem dX11_load_9 : decode cX11_load 9 = .ok (.iconst 0, 1) := by decide +kernel
theorem dX11_load_10 : decode cX11_load 10 = .ok (.istore 4, 2) := by decide +kernel
theorem dX11_load_12 : decode cX11_load 12 = .ok (.aload_n 0, 1) := by decide +kernel
theorem dX11_load_13 : decode cX11_load 13 = .ok (.iload_n 2, 1) := by decide +kernel
theorem dX11_load_14 : decode cX11_load 14 = .ok (.invokevirtual 183, 3) := by decide +kernel
theorem dX11_load_17 : decode cX11_load 17 = .ok (.astore 5, 2) := by decide +kernel
theorem dX11_load_19 : decode cX11_load 19 = .ok (.aload_n 0, 1) := by decide +kernel
theorem dX11_load_20 : decode cX11_load 20 = .ok (.iload_n 2, 1) := by decide +kernel
theorem dX11_load_21 : decode cX11_load 21 = .ok (.invokevirtual 186, 3) := by decide +kernel
theorem dX11_load_24 : decode cX11_load 24 = .ok (.astore 6, 2) := by decide +kernel
theorem dX11_load_26 : decode cX11_load 26 = .ok (.iload_n 1, 1) := by decide +kernel
theorem dX11_load_27 : decode cX11_load 27 = .ok (.iconst 0, 1) := by decide +kernel
theorem dX11_load_28 : decode cX11_load 28 = .ok (.sipush 999, 3) := by decide +kernel
theorem dX11_load_31 : decode cX11_load 31 = .ok (.invokestatic 66, 3) := by decide +kernel
theorem dX11_load_34 : decode cX11_load 34 = .ok (.ifCond .eq 25, 3) := by decide +kernel
theorem dX11_load_37 : decode cX11_load 37 = .ok (.iload 4, 2) := by decide +kernel
theorem dX11_load_39 : decode cX11_load 39 = .ok (.ifCond .eq 13, 3) := by decide +kernel
theorem dX11_load_42 : decode cX11_load 42 = .ok (.aload 5, 2) := by decide +kernel
theorem dX11_load_44 : decode cX11_load 44 = .ok (.ifnull 15, 3) := by decide +kernel
theorem dX11_load_47 : decode cX11_load 47 = .ok (.aload 6, 2) := by decide +kernel
theorem dX11_load_49 : decode cX11_load 49 = .ok (.ifnull 10, 3) := by decide +kernel
theorem dX11_load_52 : decode cX11_load 52 = .ok (.iload_n 3, 1) := by decide +kernel
theorem dX11_load_53 : decode cX11_load 53 = .ok (.invokestatic 138, 3) := by decide +kernel
theorem dX11_load_56 : decode cX11_load 56 = .ok (.ifCond .ne 6, 3) := by decide +kernel
theorem dX11_load_59 : decode cX11_load 59 = .ok (.bipush (-2), 2) := by decide +kernel
theorem dX11_load_61 : decode cX11_load 61 = .ok (.ireturn, 1) := by decide +kernel
theorem dX11_load_62 : decode cX11_load 62 = .ok (.aload 5, 2) := by decide +kernel
theorem dX11_load_64 : decode cX11_load 64 = .ok (.ifnull 8, 3) := by decide +kernel
theorem dX11_load_67 : decode cX11_load 67 = .ok (.aload 6, 2) := by decide +kernel
theorem dX11_load_69 : decode cX11_load 69 = .ok (.ifnonnull 7, 3) := by decide +kernel
theorem dX11_load_72 : decode cX11_load 72 = .ok (.iconst 0, 1) := by decide +kernel
theorem dX11_load_73 : decode cX11_load 73 = .ok (.goto 16, 3) := by decide +kernel
theorem dX11_load_76 : decode cX11_load 76 = .ok (.aload 5, 2) := by decide +kernel
theorem dX11_load_78 : decode cX11_load 78 = .ok (.getfield 145, 3) := by decide +kernel
theorem dX11_load_81 : decode cX11_load 81 = .ok (.aload 6, 2) := by decide +kernel
theorem dX11_load_83 : decode cX11_load 83 = .ok (.getfield 145, 3) := by decide +kernel
theorem dX11_load_86 : decode cX11_load 86 = .ok (.invokestatic 189, 3) := by decide +kernel
theorem dX11_load_89 : decode cX11_load 89 = .ok (.istore 7, 2) := by decide +kernel
theorem dX11_load_91 : decode cX11_load 91 = .ok (.aload_n 0, 1) := by decide +kernel
theorem dX11_load_92 : decode cX11_load 92 = .ok (.bipush 6, 2) := by decide +kernel
theorem dX11_load_94 : decode cX11_load 94 = .ok (.iload_n 1, 1) := by decide +kernel
theorem dX11_load_95 : decode cX11_load 95 = .ok (.iload 7, 2) := by decide +kernel
theorem dX11_load_97 : decode cX11_load 97 = .ok (.iload_n 3, 1) := by decide +kernel
theorem dX11_load_98 : decode cX11_load 98 = .ok (.iconst 0, 1) := by decide +kernel
theorem dX11_load_99 : decode cX11_load 99 = .ok (.invokevirtual 169, 3) := by decide +kernel
theorem dX11_load_102 : decode cX11_load 102 = .ok (.istore 8, 2) := by decide +kernel
theorem dX11_load_104 : decode cX11_load 104 = .ok (.iconst 1, 1) := by decide +kernel
theorem dX11_load_105 : decode cX11_load 105 = .ok (.bipush 14, 2) := by decide +kernel
theorem dX11_load_107 : decode cX11_load 107 = .ok (.iload 8, 2) := by decide +kernel
theorem dX11_load_109 : decode cX11_load 109 = .ok (.invokestatic 194, 3) := by decide +kernel
theorem dX11_load_112 : decode cX11_load 112 = .ok (.invokestatic 189, 3) := by decide +kernel
theorem dX11_load_115 : decode cX11_load 115 = .ok (.ireturn, 1) := by decide +kernel
theorem dX11_takes_0 : decode cX11_takes 0 = .ok (.aload_n 0, 1) := by decide +kernel
theorem dX11_takes_1 : decode cX11_takes 1 = .ok (.iload_n 1, 1) := by decide +kernel
theorem dX11_takes_2 : decode cX11_takes 2 = .ok (.i2l, 1) := by decide +kernel
theorem dX11_takes_3 : decode cX11_takes 3 = .ok (.invokevirtual 87, 3) := by decide +kernel
theorem dX11_takes_6 : decode cX11_takes 6 = .ok (.astore_n 3, 1) := by decide +kernel
theorem dX11_takes_7 : decode cX11_takes 7 = .ok (.aload_n 0, 1) := by decide +kernel
theorem dX11_takes_8 : decode cX11_takes 8 = .ok (.iload_n 2, 1) := by decide +kernel
theorem dX11_takes_9 : decode cX11_takes 9 = .ok (.invokevirtual 183, 3) := by decide +kernel
theorem dX11_takes_12 : decode cX11_takes 12 = .ok (.astore 4, 2) := by decide +kernel
theorem dX11_takes_14 : decode cX11_takes 14 = .ok (.aload_n 0, 1) := by decide +kernel
theorem dX11_takes_15 : decode cX11_takes 15 = .ok (.iload_n 2, 1) := by decide +kernel
theorem dX11_takes_16 : decode cX11_takes 16 = .ok (.invokevirtual 186, 3) := by decide +kernel
theorem dX11_takes_19 : decode cX11_takes 19 = .ok (.astore 5, 2) := by decide +kernel
theorem dX11_takes_21 : decode cX11_takes 21 = .ok (.aload_n 3, 1) := by decide +kernel
theorem dX11_takes_22 : decode cX11_takes 22 = .ok (.ifnull 20, 3) := by decide +kernel
theorem dX11_takes_25 : decode cX11_takes 25 = .ok (.aload 4, 2) := by decide +kernel
theorem dX11_takes_27 : decode cX11_takes 27 = .ok (.ifnull 15, 3) := by decide +kernel
theorem dX11_takes_30 : decode cX11_takes 30 = .ok (.aload 5, 2) := by decide +kernel
theorem dX11_takes_32 : decode cX11_takes 32 = .ok (.ifnull 10, 3) := by decide +kernel
theorem dX11_takes_35 : decode cX11_takes 35 = .ok (.aload 4, 2) := by decide +kernel
theorem dX11_takes_37 : decode cX11_takes 37 = .ok (.aload 5, 2) := by decide +kernel
theorem dX11_takes_39 : decode cX11_takes 39 = .ok (.if_acmp .ne 6, 3) := by decide +kernel
theorem dX11_takes_42 : decode cX11_takes 42 = .ok (.bipush (-2), 2) := by decide +kernel
theorem dX11_takes_44 : decode cX11_takes 44 = .ok (.ireturn, 1) := by decide +kernel
theorem dX11_takes_45 : decode cX11_takes 45 = .ok (.aload_n 3, 1) := by decide +kernel
theorem dX11_takes_46 : decode cX11_takes 46 = .ok (.getfield 197, 3) := by decide +kernel
theorem dX11_takes_49 : decode cX11_takes 49 = .ok (.iconst 2, 1) := by decide +kernel
theorem dX11_takes_50 : decode cX11_takes 50 = .ok (.aload_n 0, 1) := by decide +kernel
theorem dX11_takes_51 : decode cX11_takes 51 = .ok (.getfield 103, 3) := by decide +kernel
theorem dX11_takes_54 : decode cX11_takes 54 = .ok (.imul, 1) := by decide +kernel
theorem dX11_takes_55 : decode cX11_takes 55 = .ok (.iadd, 1) := by decide +kernel
theorem dX11_takes_56 : decode cX11_takes 56 = .ok (.istore 6, 2) := by decide +kernel
theorem dX11_takes_58 : decode cX11_takes 58 = .ok (.aload 4, 2) := by decide +kernel
theorem dX11_takes_60 : decode cX11_takes 60 = .ok (.invokevirtual 160, 3) := by decide +kernel
theorem dX11_takes_63 : decode cX11_takes 63 = .ok (.aload 5, 2) := by decide +kernel
theorem dX11_takes_65 : decode cX11_takes 65 = .ok (.invokevirtual 160, 3) := by decide +kernel
theorem dX11_takes_68 : decode cX11_takes 68 = .ok (.iadd, 1) := by decide +kernel
theorem dX11_takes_69 : decode cX11_takes 69 = .ok (.istore 7, 2) := by decide +kernel
theorem dX11_takes_71 : decode cX11_takes 71 = .ok (.iload 7, 2) := by decide +kernel
theorem dX11_takes_73 : decode cX11_takes 73 = .ok (.iconst 1, 1) := by decide +kernel
theorem dX11_takes_74 : decode cX11_takes 74 = .ok (.if_icmp .ge 8, 3) := by decide +kernel
theorem dX11_takes_77 : decode cX11_takes 77 = .ok (.bipush (-2), 2) := by decide +kernel
theorem dX11_takes_79 : decode cX11_takes 79 = .ok (.goto 13, 3) := by decide +kernel
theorem dX11_takes_82 : decode cX11_takes 82 = .ok (.iload 6, 2) := by decide +kernel
theorem dX11_takes_84 : decode cX11_takes 84 = .ok (.iload 7, 2) := by decide +kernel
theorem dX11_takes_86 : decode cX11_takes 86 = .ok (.iadd, 1) := by decide +kernel
theorem dX11_takes_87 : decode cX11_takes 87 = .ok (.iconst 1, 1) := by decide +kernel
theorem dX11_takes_88 : decode cX11_takes 88 = .ok (.isub, 1) := by decide +kernel
theorem dX11_takes_89 : decode cX11_takes 89 = .ok (.iload 7, 2) := by decide +kernel
theorem dX11_takes_91 : decode cX11_takes 91 = .ok (.idiv, 1) := by decide +kernel
theorem dX11_takes_92 : decode cX11_takes 92 = .ok (.ireturn, 1) := by decide +kernel
theorem dX11_byRule_0 : decode cX11_byRule 0 = .ok (.aload_n 0, 1) := by decide +kernel
theorem dX11_byRule_1 : decode cX11_byRule 1 = .ok (.getfield 28, 3) := by decide +kernel
theorem dX11_byRule_4 : decode cX11_byRule 4 = .ok (.iconst 0, 1) := by decide +kernel
theorem dX11_byRule_5 : decode cX11_byRule 5 = .ok (.iload_n 2, 1) := by decide +kernel
theorem dX11_byRule_6 : decode cX11_byRule 6 = .ok (.iastore, 1) := by decide +kernel
theorem dX11_byRule_7 : decode cX11_byRule 7 = .ok (.aload_n 0, 1) := by decide +kernel
theorem dX11_byRule_8 : decode cX11_byRule 8 = .ok (.getfield 28, 3) := by decide +kernel
theorem dX11_byRule_11 : decode cX11_byRule 11 = .ok (.iconst 1, 1) := by decide +kernel
theorem dX11_byRule_12 : decode cX11_byRule 12 = .ok (.aload_n 0, 1) := by decide +kernel
theorem dX11_byRule_13 : decode cX11_byRule 13 = .ok (.getfield 100, 3) := by decide +kernel
theorem dX11_byRule_16 : decode cX11_byRule 16 = .ok (.iastore, 1) := by decide +kernel
theorem dX11_byRule_17 : decode cX11_byRule 17 = .ok (.aload_n 0, 1) := by decide +kernel
theorem dX11_byRule_18 : decode cX11_byRule 18 = .ok (.getfield 28, 3) := by decide +kernel
theorem dX11_byRule_21 : decode cX11_byRule 21 = .ok (.iconst 2, 1) := by decide +kernel
theorem dX11_byRule_22 : decode cX11_byRule 22 = .ok (.aload_n 0, 1) := by decide +kernel
theorem dX11_byRule_23 : decode cX11_byRule 23 = .ok (.getfield 103, 3) := by decide +kernel
theorem dX11_byRule_26 : decode cX11_byRule 26 = .ok (.iastore, 1) := by decide +kernel
theorem dX11_byRule_27 : decode cX11_byRule 27 = .ok (.aload_n 0, 1) := by decide +kernel
theorem dX11_byRule_28 : decode cX11_byRule 28 = .ok (.getfield 28, 3) := by decide +kernel
theorem dX11_byRule_31 : decode cX11_byRule 31 = .ok (.iconst 3, 1) := by decide +kernel
theorem dX11_byRule_32 : decode cX11_byRule 32 = .ok (.iload_n 3, 1) := by decide +kernel
theorem dX11_byRule_33 : decode cX11_byRule 33 = .ok (.iastore, 1) := by decide +kernel
theorem dX11_byRule_34 : decode cX11_byRule 34 = .ok (.aload_n 0, 1) := by decide +kernel
theorem dX11_byRule_35 : decode cX11_byRule 35 = .ok (.getfield 28, 3) := by decide +kernel
theorem dX11_byRule_38 : decode cX11_byRule 38 = .ok (.iconst 4, 1) := by decide +kernel
theorem dX11_byRule_39 : decode cX11_byRule 39 = .ok (.iload 4, 2) := by decide +kernel
theorem dX11_byRule_41 : decode cX11_byRule 41 = .ok (.iastore, 1) := by decide +kernel
theorem dX11_byRule_42 : decode cX11_byRule 42 = .ok (.aload_n 0, 1) := by decide +kernel
theorem dX11_byRule_43 : decode cX11_byRule 43 = .ok (.getfield 28, 3) := by decide +kernel
theorem dX11_byRule_46 : decode cX11_byRule 46 = .ok (.iconst 5, 1) := by decide +kernel
theorem dX11_byRule_47 : decode cX11_byRule 47 = .ok (.iload 5, 2) := by decide +kernel
theorem dX11_byRule_49 : decode cX11_byRule 49 = .ok (.iastore, 1) := by decide +kernel
theorem dX11_byRule_50 : decode cX11_byRule 50 = .ok (.aload_n 0, 1) := by decide +kernel
theorem dX11_byRule_51 : decode cX11_byRule 51 = .ok (.getfield 24, 3) := by decide +kernel
theorem dX11_byRule_54 : decode cX11_byRule 54 = .ok (.iload_n 1, 1) := by decide +kernel
theorem dX11_byRule_55 : decode cX11_byRule 55 = .ok (.bipush 6, 2) := by decide +kernel
theorem dX11_byRule_57 : decode cX11_byRule 57 = .ok (.isub, 1) := by decide +kernel
theorem dX11_byRule_58 : decode cX11_byRule 58 = .ok (.aload_n 0, 1) := by decide +kernel
theorem dX11_byRule_59 : decode cX11_byRule 59 = .ok (.getfield 28, 3) := by decide +kernel
theorem dX11_byRule_62 : decode cX11_byRule 62 = .ok (.invokevirtual 200, 3) := by decide +kernel
theorem dX11_byRule_65 : decode cX11_byRule 65 = .ok (.ireturn, 1) := by decide +kernel
theorem dX11_priceOf_0 : decode cX11_priceOf 0 = .ok (.iconst 0, 1) := by decide +kernel
theorem dX11_priceOf_1 : decode cX11_priceOf 1 = .ok (.bipush 99, 2) := by decide +kernel
theorem dX11_priceOf_3 : decode cX11_priceOf 3 = .ok (.aload_n 0, 1) := by decide +kernel
theorem dX11_priceOf_4 : decode cX11_priceOf 4 = .ok (.bipush 7, 2) := by decide +kernel
theorem dX11_priceOf_6 : decode cX11_priceOf 6 = .ok (.iload_n 1, 1) := by decide +kernel
theorem dX11_priceOf_7 : decode cX11_priceOf 7 = .ok (.iconst 0, 1) := by decide +kernel
theorem dX11_priceOf_8 : decode cX11_priceOf 8 = .ok (.iload_n 2, 1) := by decide +kernel
theorem dX11_priceOf_9 : decode cX11_priceOf 9 = .ok (.iconst 0, 1) := by decide +kernel
theorem dX11_priceOf_10 : decode cX11_priceOf 10 = .ok (.invokevirtual 169, 3) := by decide +kernel
theorem dX11_priceOf_13 : decode cX11_priceOf 13 = .ok (.invokestatic 194, 3) := by decide +kernel
theorem dX11_priceOf_16 : decode cX11_priceOf 16 = .ok (.invokestatic 189, 3) := by decide +kernel
theorem dX11_priceOf_19 : decode cX11_priceOf 19 = .ok (.ireturn, 1) := by decide +kernel
theorem dX11_waits_0 : decode cX11_waits 0 = .ok (.aload_n 0, 1) := by decide +kernel
theorem dX11_waits_1 : decode cX11_waits 1 = .ok (.iload_n 1, 1) := by decide +kernel
theorem dX11_waits_2 : decode cX11_waits 2 = .ok (.invokevirtual 204, 3) := by decide +kernel
theorem dX11_waits_5 : decode cX11_waits 5 = .ok (.astore 5, 2) := by decide +kernel
theorem dX11_waits_7 : decode cX11_waits 7 = .ok (.aload 5, 2) := by decide +kernel
theorem dX11_waits_9 : decode cX11_waits 9 = .ok (.ifnull 33, 3) := by decide +kernel
theorem dX11_waits_12 : decode cX11_waits 12 = .ok (.iload_n 2, 1) := by decide +kernel
theorem dX11_waits_13 : decode cX11_waits 13 = .ok (.iconst 1, 1) := by decide +kernel
theorem dX11_waits_14 : decode cX11_waits 14 = .ok (.bipush 9, 2) := by decide +kernel
theorem dX11_waits_16 : decode cX11_waits 16 = .ok (.invokestatic 66, 3) := by decide +kernel
theorem dX11_waits_19 : decode cX11_waits 19 = .ok (.ifCond .eq 23, 3) := by decide +kernel
theorem dX11_waits_22 : decode cX11_waits 22 = .ok (.iload_n 3, 1) := by decide +kernel
theorem dX11_waits_23 : decode cX11_waits 23 = .ok (.iconst 1, 1) := by decide +kernel
theorem dX11_waits_24 : decode cX11_waits 24 = .ok (.bipush 14, 2) := by decide +kernel
theorem dX11_waits_26 : decode cX11_waits 26 = .ok (.invokestatic 66, 3) := by decide +kernel
theorem dX11_waits_29 : decode cX11_waits 29 = .ok (.ifCond .eq 13, 3) := by decide +kernel
theorem dX11_waits_32 : decode cX11_waits 32 = .ok (.iload 4, 2) := by decide +kernel
theorem dX11_waits_34 : decode cX11_waits 34 = .ok (.iconst 0, 1) := by decide +kernel
theorem dX11_waits_35 : decode cX11_waits 35 = .ok (.iconst 1, 1) := by decide +kernel
theorem dX11_waits_36 : decode cX11_waits 36 = .ok (.invokestatic 66, 3) := by decide +kernel
theorem dX11_waits_39 : decode cX11_waits 39 = .ok (.ifCond .ne 6, 3) := by decide +kernel
theorem dX11_waits_42 : decode cX11_waits 42 = .ok (.bipush (-2), 2) := by decide +kernel
theorem dX11_waits_44 : decode cX11_waits 44 = .ok (.ireturn, 1) := by decide +kernel
theorem dX11_waits_45 : decode cX11_waits 45 = .ok (.aload 5, 2) := by decide +kernel
theorem dX11_waits_47 : decode cX11_waits 47 = .ok (.invokevirtual 208, 3) := by decide +kernel
theorem dX11_waits_50 : decode cX11_waits 50 = .ok (.ifCond .eq 6, 3) := by decide +kernel
theorem dX11_waits_53 : decode cX11_waits 53 = .ok (.bipush (-11), 2) := by decide +kernel
theorem dX11_waits_55 : decode cX11_waits 55 = .ok (.ireturn, 1) := by decide +kernel
theorem dX11_waits_56 : decode cX11_waits 56 = .ok (.aload_n 0, 1) := by decide +kernel
theorem dX11_waits_57 : decode cX11_waits 57 = .ok (.getfield 35, 3) := by decide +kernel
theorem dX11_waits_60 : decode cX11_waits 60 = .ok (.aload 5, 2) := by decide +kernel
theorem dX11_waits_62 : decode cX11_waits 62 = .ok (.invokevirtual 212, 3) := by decide +kernel
theorem dX11_waits_65 : decode cX11_waits 65 = .ok (.ifCond .ne 6, 3) := by decide +kernel
theorem dX11_waits_68 : decode cX11_waits 68 = .ok (.bipush (-2), 2) := by decide +kernel
theorem dX11_waits_70 : decode cX11_waits 70 = .ok (.ireturn, 1) := by decide +kernel
theorem dX11_waits_71 : decode cX11_waits 71 = .ok (.aload_n 0, 1) := by decide +kernel
theorem dX11_waits_72 : decode cX11_waits 72 = .ok (.getfield 35, 3) := by decide +kernel
theorem dX11_waits_75 : decode cX11_waits 75 = .ok (.iload_n 2, 1) := by decide +kernel
theorem dX11_waits_76 : decode cX11_waits 76 = .ok (.iload_n 3, 1) := by decide +kernel
theorem dX11_waits_77 : decode cX11_waits 77 = .ok (.invokevirtual 216, 3) := by decide +kernel
theorem dX11_waits_80 : decode cX11_waits 80 = .ok (.lstore 6, 2) := by decide +kernel
theorem dX11_waits_82 : decode cX11_waits 82 = .ok (.iload 4, 2) := by decide +kernel
theorem dX11_waits_84 : decode cX11_waits 84 = .ok (.ifCond .ne 11, 3) := by decide +kernel
theorem dX11_waits_87 : decode cX11_waits 87 = .ok (.lload 6, 2) := by decide +kernel
theorem dX11_waits_89 : decode cX11_waits 89 = .ok (.invokestatic 220, 3) := by decide +kernel
theorem dX11_waits_92 : decode cX11_waits 92 = .ok (.goto 8, 3) := by decide +kernel
theorem dX11_waits_95 : decode cX11_waits 95 = .ok (.lload 6, 2) := by decide +kernel
theorem dX11_waits_97 : decode cX11_waits 97 = .ok (.invokestatic 224, 3) := by decide +kernel
theorem dX11_waits_100 : decode cX11_waits 100 = .ok (.ireturn, 1) := by decide +kernel
theorem dX11_turn_0 : decode cX11_turn 0 = .ok (.aload_n 0, 1) := by decide +kernel
theorem dX11_turn_1 : decode cX11_turn 1 = .ok (.iload_n 1, 1) := by decide +kernel
theorem dX11_turn_2 : decode cX11_turn 2 = .ok (.i2l, 1) := by decide +kernel
theorem dX11_turn_3 : decode cX11_turn 3 = .ok (.invokevirtual 87, 3) := by decide +kernel
theorem dX11_turn_6 : decode cX11_turn 6 = .ok (.ifnull 19, 3) := by decide +kernel
theorem dX11_turn_9 : decode cX11_turn 9 = .ok (.iload_n 2, 1) := by decide +kernel
theorem dX11_turn_10 : decode cX11_turn 10 = .ok (.invokestatic 138, 3) := by decide +kernel
theorem dX11_turn_13 : decode cX11_turn 13 = .ok (.ifCond .eq 12, 3) := by decide +kernel
theorem dX11_turn_16 : decode cX11_turn 16 = .ok (.aload_n 0, 1) := by decide +kernel
theorem dX11_turn_17 : decode cX11_turn 17 = .ok (.iload_n 1, 1) := by decide +kernel
theorem dX11_turn_18 : decode cX11_turn 18 = .ok (.iload_n 2, 1) := by decide +kernel
theorem dX11_turn_19 : decode cX11_turn 19 = .ok (.invokevirtual 227, 3) := by decide +kernel
theorem dX11_turn_22 : decode cX11_turn 22 = .ok (.goto 5, 3) := by decide +kernel
theorem dX11_turn_25 : decode cX11_turn 25 = .ok (.bipush (-2), 2) := by decide +kernel
theorem dX11_turn_27 : decode cX11_turn 27 = .ok (.ireturn, 1) := by decide +kernel
theorem dX11_rowed_0 : decode cX11_rowed 0 = .ok (.aload_n 0, 1) := by decide +kernel
theorem dX11_rowed_1 : decode cX11_rowed 1 = .ok (.iload_n 1, 1) := by decide +kernel
theorem dX11_rowed_2 : decode cX11_rowed 2 = .ok (.iload_n 2, 1) := by decide +kernel
theorem dX11_rowed_3 : decode cX11_rowed 3 = .ok (.invokevirtual 230, 3) := by decide +kernel
theorem dX11_rowed_6 : decode cX11_rowed 6 = .ok (.istore_n 3, 1) := by decide +kernel
theorem dX11_rowed_7 : decode cX11_rowed 7 = .ok (.aload_n 0, 1) := by decide +kernel
theorem dX11_rowed_8 : decode cX11_rowed 8 = .ok (.iload_n 3, 1) := by decide +kernel
theorem dX11_rowed_9 : decode cX11_rowed 9 = .ok (.invokevirtual 233, 3) := by decide +kernel
theorem dX11_rowed_12 : decode cX11_rowed 12 = .ok (.iload_n 3, 1) := by decide +kernel
theorem dX11_rowed_13 : decode cX11_rowed 13 = .ok (.ireturn, 1) := by decide +kernel
theorem dX11_judge_0 : decode cX11_judge 0 = .ok (.aload_n 0, 1) := by decide +kernel
theorem dX11_judge_1 : decode cX11_judge 1 = .ok (.iload_n 2, 1) := by decide +kernel
theorem dX11_judge_2 : decode cX11_judge 2 = .ok (.invokevirtual 204, 3) := by decide +kernel
theorem dX11_judge_5 : decode cX11_judge 5 = .ok (.astore_n 3, 1) := by decide +kernel
theorem dX11_judge_6 : decode cX11_judge 6 = .ok (.aload_n 0, 1) := by decide +kernel
theorem dX11_judge_7 : decode cX11_judge 7 = .ok (.iload_n 1, 1) := by decide +kernel
theorem dX11_judge_8 : decode cX11_judge 8 = .ok (.i2l, 1) := by decide +kernel
theorem dX11_judge_9 : decode cX11_judge 9 = .ok (.invokevirtual 87, 3) := by decide +kernel
theorem dX11_judge_12 : decode cX11_judge 12 = .ok (.ifnull 7, 3) := by decide +kernel
theorem dX11_judge_15 : decode cX11_judge 15 = .ok (.aload_n 3, 1) := by decide +kernel
theorem dX11_judge_16 : decode cX11_judge 16 = .ok (.ifnonnull 6, 3) := by decide +kernel
theorem dX11_judge_19 : decode cX11_judge 19 = .ok (.bipush (-2), 2) := by decide +kernel
theorem dX11_judge_21 : decode cX11_judge 21 = .ok (.ireturn, 1) := by decide +kernel
theorem dX11_judge_22 : decode cX11_judge 22 = .ok (.aload_n 3, 1) := by decide +kernel
theorem dX11_judge_23 : decode cX11_judge 23 = .ok (.invokevirtual 208, 3) := by decide +kernel
theorem dX11_judge_26 : decode cX11_judge 26 = .ok (.ifCond .eq 6, 3) := by decide +kernel
theorem dX11_judge_29 : decode cX11_judge 29 = .ok (.bipush (-11), 2) := by decide +kernel
theorem dX11_judge_31 : decode cX11_judge 31 = .ok (.ireturn, 1) := by decide +kernel
theorem dX11_judge_32 : decode cX11_judge 32 = .ok (.aload_n 3, 1) := by decide +kernel
theorem dX11_judge_33 : decode cX11_judge 33 = .ok (.getfield 237, 3) := by decide +kernel
theorem dX11_judge_36 : decode cX11_judge 36 = .ok (.iconst 1, 1) := by decide +kernel
theorem dX11_judge_37 : decode cX11_judge 37 = .ok (.bipush 16, 2) := by decide +kernel
theorem dX11_judge_39 : decode cX11_judge 39 = .ok (.invokestatic 66, 3) := by decide +kernel
theorem dX11_judge_42 : decode cX11_judge 42 = .ok (.ifCond .ne 6, 3) := by decide +kernel
theorem dX11_judge_45 : decode cX11_judge 45 = .ok (.bipush (-2), 2) := by decide +kernel
theorem dX11_judge_47 : decode cX11_judge 47 = .ok (.ireturn, 1) := by decide +kernel
theorem dX11_judge_48 : decode cX11_judge 48 = .ok (.iconst 0, 1) := by decide +kernel
theorem dX11_judge_49 : decode cX11_judge 49 = .ok (.istore 4, 2) := by decide +kernel
theorem dX11_judge_51 : decode cX11_judge 51 = .ok (.iload 4, 2) := by decide +kernel
theorem dX11_judge_53 : decode cX11_judge 53 = .ok (.aload_n 0, 1) := by decide +kernel
theorem dX11_judge_54 : decode cX11_judge 54 = .ok (.getfield 110, 3) := by decide +kernel
theorem dX11_judge_57 : decode cX11_judge 57 = .ok (.if_icmp .ge 26, 3) := by decide +kernel
theorem dX11_judge_60 : decode cX11_judge 60 = .ok (.aload_n 0, 1) := by decide +kernel
theorem dX11_judge_61 : decode cX11_judge 61 = .ok (.getfield 52, 3) := by decide +kernel
theorem dX11_judge_64 : decode cX11_judge 64 = .ok (.iload 4, 2) := by decide +kernel
theorem dX11_judge_66 : decode cX11_judge 66 = .ok (.aload_n 0, 1) := by decide +kernel
theorem dX11_judge_67 : decode cX11_judge 67 = .ok (.getfield 17, 3) := by decide +kernel
theorem dX11_judge_70 : decode cX11_judge 70 = .ok (.iload 4, 2) := by decide +kernel
theorem dX11_judge_72 : decode cX11_judge 72 = .ok (.aaload, 1) := by decide +kernel
theorem dX11_judge_73 : decode cX11_judge 73 = .ok (.getfield 157, 3) := by decide +kernel
theorem dX11_judge_76 : decode cX11_judge 76 = .ok (.iastore, 1) := by decide +kernel
theorem dX11_judge_77 : decode cX11_judge 77 = .ok (.iinc 4 1, 3) := by decide +kernel
theorem dX11_judge_80 : decode cX11_judge 80 = .ok (.goto (-29), 3) := by decide +kernel
theorem dX11_judge_83 : decode cX11_judge 83 = .ok (.aload_n 0, 1) := by decide +kernel
theorem dX11_judge_84 : decode cX11_judge 84 = .ok (.iload_n 1, 1) := by decide +kernel
theorem dX11_judge_85 : decode cX11_judge 85 = .ok (.aload_n 3, 1) := by decide +kernel
theorem dX11_judge_86 : decode cX11_judge 86 = .ok (.invokevirtual 240, 3) := by decide +kernel
theorem dX11_judge_89 : decode cX11_judge 89 = .ok (.istore 4, 2) := by decide +kernel
theorem dX11_judge_91 : decode cX11_judge 91 = .ok (.iconst 0, 1) := by decide +kernel
theorem dX11_judge_92 : decode cX11_judge 92 = .ok (.istore 5, 2) := by decide +kernel
theorem dX11_judge_94 : decode cX11_judge 94 = .ok (.iload 5, 2) := by decide +kernel
theorem dX11_judge_96 : decode cX11_judge 96 = .ok (.aload_n 0, 1) := by decide +kernel
theorem dX11_judge_97 : decode cX11_judge 97 = .ok (.getfield 110, 3) := by decide +kernel
theorem dX11_judge_100 : decode cX11_judge 100 = .ok (.if_icmp .ge 26, 3) := by decide +kernel
theorem dX11_judge_103 : decode cX11_judge 103 = .ok (.aload_n 0, 1) := by decide +kernel
theorem dX11_judge_104 : decode cX11_judge 104 = .ok (.getfield 17, 3) := by decide +kernel
theorem dX11_judge_107 : decode cX11_judge 107 = .ok (.iload 5, 2) := by decide +kernel
theorem dX11_judge_109 : decode cX11_judge 109 = .ok (.aaload, 1) := by decide +kernel
theorem dX11_judge_110 : decode cX11_judge 110 = .ok (.aload_n 0, 1) := by decide +kernel
theorem dX11_judge_111 : decode cX11_judge 111 = .ok (.getfield 52, 3) := by decide +kernel
theorem dX11_judge_114 : decode cX11_judge 114 = .ok (.iload 5, 2) := by decide +kernel
theorem dX11_judge_116 : decode cX11_judge 116 = .ok (.iaload, 1) := by decide +kernel
theorem dX11_judge_117 : decode cX11_judge 117 = .ok (.putfield 157, 3) := by decide +kernel
theorem dX11_judge_120 : decode cX11_judge 120 = .ok (.iinc 5 1, 3) := by decide +kernel
theorem dX11_judge_123 : decode cX11_judge 123 = .ok (.goto (-29), 3) := by decide +kernel
theorem dX11_judge_126 : decode cX11_judge 126 = .ok (.iload 4, 2) := by decide +kernel
theorem dX11_judge_128 : decode cX11_judge 128 = .ok (.ireturn, 1) := by decide +kernel
theorem dX11_firstOther_0 : decode cX11_firstOther 0 = .ok (.iconst 0, 1) := by decide +kernel
theorem dX11_firstOther_1 : decode cX11_firstOther 1 = .ok (.istore_n 3, 1) := by decide +kernel
theorem dX11_firstOther_2 : decode cX11_firstOther 2 = .ok (.iload_n 3, 1) := by decide +kernel
theorem dX11_firstOther_3 : decode cX11_firstOther 3 = .ok (.aload_n 2, 1) := by decide +kernel
theorem dX11_firstOther_4 : decode cX11_firstOther 4 = .ok (.getfield 237, 3) := by decide +kernel
theorem dX11_firstOther_7 : decode cX11_firstOther 7 = .ok (.if_icmp .ge 41, 3) := by decide +kernel
theorem dX11_firstOther_10 : decode cX11_firstOther 10 = .ok (.aload_n 0, 1) := by decide +kernel
theorem dX11_firstOther_11 : decode cX11_firstOther 11 = .ok (.iload_n 1, 1) := by decide +kernel
theorem dX11_firstOther_12 : decode cX11_firstOther 12 = .ok (.bipush 6, 2) := by decide +kernel
theorem dX11_firstOther_14 : decode cX11_firstOther 14 = .ok (.iload_n 3, 1) := by decide +kernel
theorem dX11_firstOther_15 : decode cX11_firstOther 15 = .ok (.iadd, 1) := by decide +kernel
theorem dX11_firstOther_16 : decode cX11_firstOther 16 = .ok (.invokevirtual 227, 3) := by decide +kernel
theorem dX11_firstOther_19 : decode cX11_firstOther 19 = .ok (.istore 4, 2) := by decide +kernel
theorem dX11_firstOther_21 : decode cX11_firstOther 21 = .ok (.aload_n 2, 1) := by decide +kernel
theorem dX11_firstOther_22 : decode cX11_firstOther 22 = .ok (.iload_n 3, 1) := by decide +kernel
theorem dX11_firstOther_23 : decode cX11_firstOther 23 = .ok (.invokevirtual 244, 3) := by decide +kernel
theorem dX11_firstOther_26 : decode cX11_firstOther 26 = .ok (.iload 4, 2) := by decide +kernel
theorem dX11_firstOther_28 : decode cX11_firstOther 28 = .ok (.if_icmp .eq 8, 3) := by decide +kernel
theorem dX11_firstOther_31 : decode cX11_firstOther 31 = .ok (.bipush 6, 2) := by decide +kernel
theorem dX11_firstOther_33 : decode cX11_firstOther 33 = .ok (.iload_n 3, 1) := by decide +kernel
theorem dX11_firstOther_34 : decode cX11_firstOther 34 = .ok (.iadd, 1) := by decide +kernel
theorem dX11_firstOther_35 : decode cX11_firstOther 35 = .ok (.ireturn, 1) := by decide +kernel
theorem dX11_firstOther_36 : decode cX11_firstOther 36 = .ok (.aload_n 0, 1) := by decide +kernel
theorem dX11_firstOther_37 : decode cX11_firstOther 37 = .ok (.iload 4, 2) := by decide +kernel
theorem dX11_firstOther_39 : decode cX11_firstOther 39 = .ok (.invokevirtual 233, 3) := by decide +kernel
theorem dX11_firstOther_42 : decode cX11_firstOther 42 = .ok (.iinc 3 1, 3) := by decide +kernel
theorem dX11_firstOther_45 : decode cX11_firstOther 45 = .ok (.goto (-43), 3) := by decide +kernel
theorem dX11_firstOther_48 : decode cX11_firstOther 48 = .ok (.iconst (-1), 1) := by decide +kernel
theorem dX11_firstOther_49 : decode cX11_firstOther 49 = .ok (.ireturn, 1) := by decide +kernel
theorem dX11_dueTwo_0 : decode cX11_dueTwo 0 = .ok (.iconst (-1), 1) := by decide +kernel
theorem dX11_dueTwo_1 : decode cX11_dueTwo 1 = .ok (.istore_n 3, 1) := by decide +kernel
theorem dX11_dueTwo_2 : decode cX11_dueTwo 2 = .ok (.iconst (-1), 1) := by decide +kernel
theorem dX11_dueTwo_3 : decode cX11_dueTwo 3 = .ok (.istore 4, 2) := by decide +kernel
theorem dX11_dueTwo_5 : decode cX11_dueTwo 5 = .ok (.iconst 0, 1) := by decide +kernel
theorem dX11_dueTwo_6 : decode cX11_dueTwo 6 = .ok (.istore 5, 2) := by decide +kernel
theorem dX11_dueTwo_8 : decode cX11_dueTwo 8 = .ok (.iconst 0, 1) := by decide +kernel
theorem dX11_dueTwo_9 : decode cX11_dueTwo 9 = .ok (.istore 6, 2) := by decide +kernel
theorem dX11_dueTwo_11 : decode cX11_dueTwo 11 = .ok (.iconst 0, 1) := by decide +kernel
theorem dX11_dueTwo_12 : decode cX11_dueTwo 12 = .ok (.istore 7, 2) := by decide +kernel
theorem dX11_dueTwo_14 : decode cX11_dueTwo 14 = .ok (.iload 7, 2) := by decide +kernel
theorem dX11_dueTwo_16 : decode cX11_dueTwo 16 = .ok (.aload_n 0, 1) := by decide +kernel
theorem dX11_dueTwo_17 : decode cX11_dueTwo 17 = .ok (.getfield 110, 3) := by decide +kernel
theorem dX11_dueTwo_20 : decode cX11_dueTwo 20 = .ok (.if_icmp .ge 109, 3) := by decide +kernel
theorem dX11_dueTwo_23 : decode cX11_dueTwo 23 = .ok (.aload_n 0, 1) := by decide +kernel
theorem dX11_dueTwo_24 : decode cX11_dueTwo 24 = .ok (.getfield 17, 3) := by decide +kernel
theorem dX11_dueTwo_27 : decode cX11_dueTwo 27 = .ok (.iload 7, 2) := by decide +kernel
theorem dX11_dueTwo_29 : decode cX11_dueTwo 29 = .ok (.aaload, 1) := by decide +kernel
theorem dX11_dueTwo_30 : decode cX11_dueTwo 30 = .ok (.astore 8, 2) := by decide +kernel
theorem dX11_dueTwo_32 : decode cX11_dueTwo 32 = .ok (.aload 8, 2) := by decide +kernel
theorem dX11_dueTwo_34 : decode cX11_dueTwo 34 = .ok (.iload_n 1, 1) := by decide +kernel
theorem dX11_dueTwo_35 : decode cX11_dueTwo 35 = .ok (.invokevirtual 247, 3) := by decide +kernel
theorem dX11_dueTwo_38 : decode cX11_dueTwo 38 = .ok (.ifCond .eq 85, 3) := by decide +kernel
theorem dX11_dueTwo_41 : decode cX11_dueTwo 41 = .ok (.aload 8, 2) := by decide +kernel
theorem dX11_dueTwo_43 : decode cX11_dueTwo 43 = .ok (.iload_n 2, 1) := by decide +kernel
theorem dX11_dueTwo_44 : decode cX11_dueTwo 44 = .ok (.invokevirtual 163, 3) := by decide +kernel
theorem dX11_dueTwo_47 : decode cX11_dueTwo 47 = .ok (.ifCond .ne 6, 3) := by decide +kernel
theorem dX11_dueTwo_50 : decode cX11_dueTwo 50 = .ok (.goto 73, 3) := by decide +kernel
theorem dX11_dueTwo_53 : decode cX11_dueTwo 53 = .ok (.aload_n 0, 1) := by decide +kernel
theorem dX11_dueTwo_54 : decode cX11_dueTwo 54 = .ok (.bipush 8, 2) := by decide +kernel
theorem dX11_dueTwo_56 : decode cX11_dueTwo 56 = .ok (.iconst 0, 1) := by decide +kernel
theorem dX11_dueTwo_57 : decode cX11_dueTwo 57 = .ok (.aload 8, 2) := by decide +kernel
theorem dX11_dueTwo_59 : decode cX11_dueTwo 59 = .ok (.getfield 145, 3) := by decide +kernel
theorem dX11_dueTwo_62 : decode cX11_dueTwo 62 = .ok (.iload_n 2, 1) := by decide +kernel
theorem dX11_dueTwo_63 : decode cX11_dueTwo 63 = .ok (.aload 8, 2) := by decide +kernel
theorem dX11_dueTwo_65 : decode cX11_dueTwo 65 = .ok (.getfield 157, 3) := by decide +kernel
theorem dX11_dueTwo_68 : decode cX11_dueTwo 68 = .ok (.invokevirtual 169, 3) := by decide +kernel
theorem dX11_dueTwo_71 : decode cX11_dueTwo 71 = .ok (.istore 9, 2) := by decide +kernel
theorem dX11_dueTwo_73 : decode cX11_dueTwo 73 = .ok (.iload_n 3, 1) := by decide +kernel
theorem dX11_dueTwo_74 : decode cX11_dueTwo 74 = .ok (.iconst (-1), 1) := by decide +kernel
theorem dX11_dueTwo_75 : decode cX11_dueTwo 75 = .ok (.if_icmp .eq 10, 3) := by decide +kernel
theorem dX11_dueTwo_78 : decode cX11_dueTwo 78 = .ok (.iload 9, 2) := by decide +kernel
theorem dX11_dueTwo_80 : decode cX11_dueTwo 80 = .ok (.iload 5, 2) := by decide +kernel
theorem dX11_dueTwo_82 : decode cX11_dueTwo 82 = .ok (.if_icmp .le 20, 3) := by decide +kernel
theorem dX11_dueTwo_85 : decode cX11_dueTwo 85 = .ok (.iload_n 3, 1) := by decide +kernel
theorem dX11_dueTwo_86 : decode cX11_dueTwo 86 = .ok (.istore 4, 2) := by decide +kernel
theorem dX11_dueTwo_88 : decode cX11_dueTwo 88 = .ok (.iload 5, 2) := by decide +kernel
theorem dX11_dueTwo_90 : decode cX11_dueTwo 90 = .ok (.istore 6, 2) := by decide +kernel
theorem dX11_dueTwo_92 : decode cX11_dueTwo 92 = .ok (.iload 7, 2) := by decide +kernel
theorem dX11_dueTwo_94 : decode cX11_dueTwo 94 = .ok (.istore_n 3, 1) := by decide +kernel
theorem dX11_dueTwo_95 : decode cX11_dueTwo 95 = .ok (.iload 9, 2) := by decide +kernel
theorem dX11_dueTwo_97 : decode cX11_dueTwo 97 = .ok (.istore 5, 2) := by decide +kernel
theorem dX11_dueTwo_99 : decode cX11_dueTwo 99 = .ok (.goto 24, 3) := by decide +kernel
theorem dX11_dueTwo_102 : decode cX11_dueTwo 102 = .ok (.iload 4, 2) := by decide +kernel
theorem dX11_dueTwo_104 : decode cX11_dueTwo 104 = .ok (.iconst (-1), 1) := by decide +kernel
theorem dX11_dueTwo_105 : decode cX11_dueTwo 105 = .ok (.if_icmp .eq 10, 3) := by decide +kernel
theorem dX11_dueTwo_108 : decode cX11_dueTwo 108 = .ok (.iload 9, 2) := by decide +kernel
theorem dX11_dueTwo_110 : decode cX11_dueTwo 110 = .ok (.iload 6, 2) := by decide +kernel
theorem dX11_dueTwo_112 : decode cX11_dueTwo 112 = .ok (.if_icmp .le 11, 3) := by decide +kernel
theorem dX11_dueTwo_115 : decode cX11_dueTwo 115 = .ok (.iload 7, 2) := by decide +kernel
theorem dX11_dueTwo_117 : decode cX11_dueTwo 117 = .ok (.istore 4, 2) := by decide +kernel
theorem dX11_dueTwo_119 : decode cX11_dueTwo 119 = .ok (.iload 9, 2) := by decide +kernel
theorem dX11_dueTwo_121 : decode cX11_dueTwo 121 = .ok (.istore 6, 2) := by decide +kernel
theorem dX11_dueTwo_123 : decode cX11_dueTwo 123 = .ok (.iinc 7 1, 3) := by decide +kernel
theorem dX11_dueTwo_126 : decode cX11_dueTwo 126 = .ok (.goto (-112), 3) := by decide +kernel
theorem dX11_dueTwo_129 : decode cX11_dueTwo 129 = .ok (.iload 4, 2) := by decide +kernel
theorem dX11_dueTwo_131 : decode cX11_dueTwo 131 = .ok (.iconst (-1), 1) := by decide +kernel
theorem dX11_dueTwo_132 : decode cX11_dueTwo 132 = .ok (.if_icmp .ne 7, 3) := by decide +kernel
theorem dX11_dueTwo_135 : decode cX11_dueTwo 135 = .ok (.iconst (-1), 1) := by decide +kernel
theorem dX11_dueTwo_136 : decode cX11_dueTwo 136 = .ok (.goto 19, 3) := by decide +kernel
theorem dX11_dueTwo_139 : decode cX11_dueTwo 139 = .ok (.bipush 20, 2) := by decide +kernel
theorem dX11_dueTwo_141 : decode cX11_dueTwo 141 = .ok (.iload_n 3, 1) := by decide +kernel
theorem dX11_dueTwo_142 : decode cX11_dueTwo 142 = .ok (.iload 4, 2) := by decide +kernel
theorem dX11_dueTwo_144 : decode cX11_dueTwo 144 = .ok (.invokestatic 194, 3) := by decide +kernel
theorem dX11_dueTwo_147 : decode cX11_dueTwo 147 = .ok (.imul, 1) := by decide +kernel
theorem dX11_dueTwo_148 : decode cX11_dueTwo 148 = .ok (.iload_n 3, 1) := by decide +kernel
theorem dX11_dueTwo_149 : decode cX11_dueTwo 149 = .ok (.iload 4, 2) := by decide +kernel
theorem dX11_dueTwo_151 : decode cX11_dueTwo 151 = .ok (.invokestatic 189, 3) := by decide +kernel
theorem dX11_dueTwo_154 : decode cX11_dueTwo 154 = .ok (.iadd, 1) := by decide +kernel
theorem dX11_dueTwo_155 : decode cX11_dueTwo 155 = .ok (.ireturn, 1) := by decide +kernel
theorem dX11_oneMore_0 : decode cX11_oneMore 0 = .ok (.aload_n 0, 1) := by decide +kernel
theorem dX11_oneMore_1 : decode cX11_oneMore 1 = .ok (.iload_n 1, 1) := by decide +kernel
theorem dX11_oneMore_2 : decode cX11_oneMore 2 = .ok (.invokevirtual 183, 3) := by decide +kernel
theorem dX11_oneMore_5 : decode cX11_oneMore 5 = .ok (.astore_n 2, 1) := by decide +kernel
theorem dX11_oneMore_6 : decode cX11_oneMore 6 = .ok (.aload_n 0, 1) := by decide +kernel
theorem dX11_oneMore_7 : decode cX11_oneMore 7 = .ok (.iload_n 1, 1) := by decide +kernel
theorem dX11_oneMore_8 : decode cX11_oneMore 8 = .ok (.invokevirtual 186, 3) := by decide +kernel
theorem dX11_oneMore_11 : decode cX11_oneMore 11 = .ok (.astore_n 3, 1) := by decide +kernel
theorem dX11_oneMore_12 : decode cX11_oneMore 12 = .ok (.aload_n 2, 1) := by decide +kernel
theorem dX11_oneMore_13 : decode cX11_oneMore 13 = .ok (.ifnull 27, 3) := by decide +kernel
theorem dX11_oneMore_16 : decode cX11_oneMore 16 = .ok (.aload_n 3, 1) := by decide +kernel
theorem dX11_oneMore_17 : decode cX11_oneMore 17 = .ok (.ifnull 23, 3) := by decide +kernel
theorem dX11_oneMore_20 : decode cX11_oneMore 20 = .ok (.aload_n 2, 1) := by decide +kernel
theorem dX11_oneMore_21 : decode cX11_oneMore 21 = .ok (.dup, 1) := by decide +kernel
theorem dX11_oneMore_22 : decode cX11_oneMore 22 = .ok (.getfield 157, 3) := by decide +kernel
theorem dX11_oneMore_25 : decode cX11_oneMore 25 = .ok (.iconst 1, 1) := by decide +kernel
theorem dX11_oneMore_26 : decode cX11_oneMore 26 = .ok (.iadd, 1) := by decide +kernel
theorem dX11_oneMore_27 : decode cX11_oneMore 27 = .ok (.putfield 157, 3) := by decide +kernel
theorem dX11_oneMore_30 : decode cX11_oneMore 30 = .ok (.aload_n 3, 1) := by decide +kernel
theorem dX11_oneMore_31 : decode cX11_oneMore 31 = .ok (.dup, 1) := by decide +kernel
theorem dX11_oneMore_32 : decode cX11_oneMore 32 = .ok (.getfield 157, 3) := by decide +kernel
theorem dX11_oneMore_35 : decode cX11_oneMore 35 = .ok (.iconst 1, 1) := by decide +kernel
theorem dX11_oneMore_36 : decode cX11_oneMore 36 = .ok (.iadd, 1) := by decide +kernel
theorem dX11_oneMore_37 : decode cX11_oneMore 37 = .ok (.putfield 157, 3) := by decide +kernel
theorem dX11_oneMore_40 : decode cX11_oneMore 40 = .ok (.return_, 1) := by decide +kernel
theorem dX11_heir_0 : decode cX11_heir 0 = .ok (.aload_n 0, 1) := by decide +kernel
theorem dX11_heir_1 : decode cX11_heir 1 = .ok (.iload_n 1, 1) := by decide +kernel
theorem dX11_heir_2 : decode cX11_heir 2 = .ok (.invokevirtual 106, 3) := by decide +kernel
theorem dX11_heir_5 : decode cX11_heir 5 = .ok (.astore_n 3, 1) := by decide +kernel
theorem dX11_heir_6 : decode cX11_heir 6 = .ok (.aload_n 3, 1) := by decide +kernel
theorem dX11_heir_7 : decode cX11_heir 7 = .ok (.ifnonnull 6, 3) := by decide +kernel
theorem dX11_heir_10 : decode cX11_heir 10 = .ok (.bipush (-2), 2) := by decide +kernel
theorem dX11_heir_12 : decode cX11_heir 12 = .ok (.ireturn, 1) := by decide +kernel
theorem dX11_heir_13 : decode cX11_heir 13 = .ok (.iload_n 2, 1) := by decide +kernel
theorem dX11_heir_14 : decode cX11_heir 14 = .ok (.tableswitch 48 1 3 #[26, 32, 38], 26) := by decide +kernel
theorem dX11_heir_40 : decode cX11_heir 40 = .ok (.aload_n 0, 1) := by decide +kernel
theorem dX11_heir_41 : decode cX11_heir 41 = .ok (.iload_n 1, 1) := by decide +kernel
theorem dX11_heir_42 : decode cX11_heir 42 = .ok (.invokevirtual 250, 3) := by decide +kernel
theorem dX11_heir_45 : decode cX11_heir 45 = .ok (.ireturn, 1) := by decide +kernel
theorem dX11_heir_46 : decode cX11_heir 46 = .ok (.aload_n 0, 1) := by decide +kernel
theorem dX11_heir_47 : decode cX11_heir 47 = .ok (.iload_n 1, 1) := by decide +kernel
theorem dX11_heir_48 : decode cX11_heir 48 = .ok (.invokevirtual 253, 3) := by decide +kernel
theorem dX11_heir_51 : decode cX11_heir 51 = .ok (.ireturn, 1) := by decide +kernel
theorem dX11_heir_52 : decode cX11_heir 52 = .ok (.aload_n 0, 1) := by decide +kernel
theorem dX11_heir_53 : decode cX11_heir 53 = .ok (.iload_n 1, 1) := by decide +kernel
theorem dX11_heir_54 : decode cX11_heir 54 = .ok (.aload_n 3, 1) := by decide +kernel
theorem dX11_heir_55 : decode cX11_heir 55 = .ok (.getfield 151, 3) := by decide +kernel
theorem dX11_heir_58 : decode cX11_heir 58 = .ok (.invokevirtual 256, 3) := by decide +kernel
theorem dX11_heir_61 : decode cX11_heir 61 = .ok (.ireturn, 1) := by decide +kernel
theorem dX11_heir_62 : decode cX11_heir 62 = .ok (.bipush (-2), 2) := by decide +kernel
theorem dX11_heir_64 : decode cX11_heir 64 = .ok (.ireturn, 1) := by decide +kernel
theorem dX11_eldestSon_0 : decode cX11_eldestSon 0 = .ok (.iconst (-1), 1) := by decide +kernel
theorem dX11_eldestSon_1 : decode cX11_eldestSon 1 = .ok (.istore_n 2, 1) := by decide +kernel
theorem dX11_eldestSon_2 : decode cX11_eldestSon 2 = .ok (.iconst 0, 1) := by decide +kernel
theorem dX11_eldestSon_3 : decode cX11_eldestSon 3 = .ok (.istore_n 3, 1) := by decide +kernel
theorem dX11_eldestSon_4 : decode cX11_eldestSon 4 = .ok (.iconst 0, 1) := by decide +kernel
theorem dX11_eldestSon_5 : decode cX11_eldestSon 5 = .ok (.istore 4, 2) := by decide +kernel
theorem dX11_eldestSon_7 : decode cX11_eldestSon 7 = .ok (.iload 4, 2) := by decide +kernel
theorem dX11_eldestSon_9 : decode cX11_eldestSon 9 = .ok (.aload_n 0, 1) := by decide +kernel
theorem dX11_eldestSon_10 : decode cX11_eldestSon 10 = .ok (.getfield 110, 3) := by decide +kernel
theorem dX11_eldestSon_13 : decode cX11_eldestSon 13 = .ok (.if_icmp .ge 58, 3) := by decide +kernel
theorem dX11_eldestSon_16 : decode cX11_eldestSon 16 = .ok (.aload_n 0, 1) := by decide +kernel
theorem dX11_eldestSon_17 : decode cX11_eldestSon 17 = .ok (.getfield 17, 3) := by decide +kernel
theorem dX11_eldestSon_20 : decode cX11_eldestSon 20 = .ok (.iload 4, 2) := by decide +kernel
theorem dX11_eldestSon_22 : decode cX11_eldestSon 22 = .ok (.aaload, 1) := by decide +kernel
theorem dX11_eldestSon_23 : decode cX11_eldestSon 23 = .ok (.astore 5, 2) := by decide +kernel
theorem dX11_eldestSon_25 : decode cX11_eldestSon 25 = .ok (.aload 5, 2) := by decide +kernel
theorem dX11_eldestSon_27 : decode cX11_eldestSon 27 = .ok (.getfield 154, 3) := by decide +kernel
theorem dX11_eldestSon_30 : decode cX11_eldestSon 30 = .ok (.iload_n 1, 1) := by decide +kernel
theorem dX11_eldestSon_31 : decode cX11_eldestSon 31 = .ok (.if_icmp .ne 34, 3) := by decide +kernel
theorem dX11_eldestSon_34 : decode cX11_eldestSon 34 = .ok (.aload 5, 2) := by decide +kernel
theorem dX11_eldestSon_36 : decode cX11_eldestSon 36 = .ok (.instanceof 117, 3) := by decide +kernel
theorem dX11_eldestSon_39 : decode cX11_eldestSon 39 = .ok (.ifCond .eq 26, 3) := by decide +kernel
theorem dX11_eldestSon_42 : decode cX11_eldestSon 42 = .ok (.iload_n 2, 1) := by decide +kernel
theorem dX11_eldestSon_43 : decode cX11_eldestSon 43 = .ok (.iconst (-1), 1) := by decide +kernel
theorem dX11_eldestSon_44 : decode cX11_eldestSon 44 = .ok (.if_icmp .eq 12, 3) := by decide +kernel
theorem dX11_eldestSon_47 : decode cX11_eldestSon 47 = .ok (.aload 5, 2) := by decide +kernel
theorem dX11_eldestSon_49 : decode cX11_eldestSon 49 = .ok (.getfield 145, 3) := by decide +kernel
theorem dX11_eldestSon_52 : decode cX11_eldestSon 52 = .ok (.iload_n 3, 1) := by decide +kernel
theorem dX11_eldestSon_53 : decode cX11_eldestSon 53 = .ok (.if_icmp .le 12, 3) := by decide +kernel
theorem dX11_eldestSon_56 : decode cX11_eldestSon 56 = .ok (.iload 4, 2) := by decide +kernel
theorem dX11_eldestSon_58 : decode cX11_eldestSon 58 = .ok (.istore_n 2, 1) := by decide +kernel
theorem dX11_eldestSon_59 : decode cX11_eldestSon 59 = .ok (.aload 5, 2) := by decide +kernel
theorem dX11_eldestSon_61 : decode cX11_eldestSon 61 = .ok (.getfield 145, 3) := by decide +kernel
theorem dX11_eldestSon_64 : decode cX11_eldestSon 64 = .ok (.istore_n 3, 1) := by decide +kernel
theorem dX11_eldestSon_65 : decode cX11_eldestSon 65 = .ok (.iinc 4 1, 3) := by decide +kernel
theorem dX11_eldestSon_68 : decode cX11_eldestSon 68 = .ok (.goto (-61), 3) := by decide +kernel
theorem dX11_eldestSon_71 : decode cX11_eldestSon 71 = .ok (.iload_n 2, 1) := by decide +kernel
theorem dX11_eldestSon_72 : decode cX11_eldestSon 72 = .ok (.ireturn, 1) := by decide +kernel
theorem dX11_firstOfBlood_0 : decode cX11_firstOfBlood 0 = .ok (.iconst 0, 1) := by decide +kernel
theorem dX11_firstOfBlood_1 : decode cX11_firstOfBlood 1 = .ok (.istore_n 2, 1) := by decide +kernel
theorem dX11_firstOfBlood_2 : decode cX11_firstOfBlood 2 = .ok (.iload_n 2, 1) := by decide +kernel
theorem dX11_firstOfBlood_3 : decode cX11_firstOfBlood 3 = .ok (.aload_n 0, 1) := by decide +kernel
theorem dX11_firstOfBlood_4 : decode cX11_firstOfBlood 4 = .ok (.getfield 110, 3) := by decide +kernel
theorem dX11_firstOfBlood_7 : decode cX11_firstOfBlood 7 = .ok (.if_icmp .ge 69, 3) := by decide +kernel
theorem dX11_firstOfBlood_10 : decode cX11_firstOfBlood 10 = .ok (.aload_n 0, 1) := by decide +kernel
theorem dX11_firstOfBlood_11 : decode cX11_firstOfBlood 11 = .ok (.getfield 17, 3) := by decide +kernel
theorem dX11_firstOfBlood_14 : decode cX11_firstOfBlood 14 = .ok (.iload_n 2, 1) := by decide +kernel
theorem dX11_firstOfBlood_15 : decode cX11_firstOfBlood 15 = .ok (.aaload, 1) := by decide +kernel
theorem dX11_firstOfBlood_16 : decode cX11_firstOfBlood 16 = .ok (.astore_n 3, 1) := by decide +kernel
theorem dX11_firstOfBlood_17 : decode cX11_firstOfBlood 17 = .ok (.aload_n 0, 1) := by decide +kernel
theorem dX11_firstOfBlood_18 : decode cX11_firstOfBlood 18 = .ok (.aload_n 3, 1) := by decide +kernel
theorem dX11_firstOfBlood_19 : decode cX11_firstOfBlood 19 = .ok (.getfield 154, 3) := by decide +kernel
theorem dX11_firstOfBlood_22 : decode cX11_firstOfBlood 22 = .ok (.invokevirtual 106, 3) := by decide +kernel
theorem dX11_firstOfBlood_25 : decode cX11_firstOfBlood 25 = .ok (.astore 4, 2) := by decide +kernel
theorem dX11_firstOfBlood_27 : decode cX11_firstOfBlood 27 = .ok (.aload_n 3, 1) := by decide +kernel
theorem dX11_firstOfBlood_28 : decode cX11_firstOfBlood 28 = .ok (.getfield 154, 3) := by decide +kernel
theorem dX11_firstOfBlood_31 : decode cX11_firstOfBlood 31 = .ok (.iload_n 1, 1) := by decide +kernel
theorem dX11_firstOfBlood_32 : decode cX11_firstOfBlood 32 = .ok (.if_icmp .eq 17, 3) := by decide +kernel
theorem dX11_firstOfBlood_35 : decode cX11_firstOfBlood 35 = .ok (.aload 4, 2) := by decide +kernel
theorem dX11_firstOfBlood_37 : decode cX11_firstOfBlood 37 = .ok (.ifnull 16, 3) := by decide +kernel
theorem dX11_firstOfBlood_40 : decode cX11_firstOfBlood 40 = .ok (.aload 4, 2) := by decide +kernel
theorem dX11_firstOfBlood_42 : decode cX11_firstOfBlood 42 = .ok (.getfield 154, 3) := by decide +kernel
theorem dX11_firstOfBlood_45 : decode cX11_firstOfBlood 45 = .ok (.iload_n 1, 1) := by decide +kernel
theorem dX11_firstOfBlood_46 : decode cX11_firstOfBlood 46 = .ok (.if_icmp .ne 7, 3) := by decide +kernel
theorem dX11_firstOfBlood_49 : decode cX11_firstOfBlood 49 = .ok (.iconst 1, 1) := by decide +kernel
theorem dX11_firstOfBlood_50 : decode cX11_firstOfBlood 50 = .ok (.goto 4, 3) := by decide +kernel
theorem dX11_firstOfBlood_53 : decode cX11_firstOfBlood 53 = .ok (.iconst 0, 1) := by decide +kernel
theorem dX11_firstOfBlood_54 : decode cX11_firstOfBlood 54 = .ok (.istore 5, 2) := by decide +kernel
theorem dX11_firstOfBlood_56 : decode cX11_firstOfBlood 56 = .ok (.iload 5, 2) := by decide +kernel
theorem dX11_firstOfBlood_58 : decode cX11_firstOfBlood 58 = .ok (.ifCond .eq 12, 3) := by decide +kernel
theorem dX11_firstOfBlood_61 : decode cX11_firstOfBlood 61 = .ok (.aload_n 3, 1) := by decide +kernel
theorem dX11_firstOfBlood_62 : decode cX11_firstOfBlood 62 = .ok (.getfield 135, 3) := by decide +kernel
theorem dX11_firstOfBlood_65 : decode cX11_firstOfBlood 65 = .ok (.ifCond .ne 5, 3) := by decide +kernel
theorem dX11_firstOfBlood_68 : decode cX11_firstOfBlood 68 = .ok (.iload_n 2, 1) := by decide +kernel
theorem dX11_firstOfBlood_69 : decode cX11_firstOfBlood 69 = .ok (.ireturn, 1) := by decide +kernel
theorem dX11_firstOfBlood_70 : decode cX11_firstOfBlood 70 = .ok (.iinc 2 1, 3) := by decide +kernel
theorem dX11_firstOfBlood_73 : decode cX11_firstOfBlood 73 = .ok (.goto (-71), 3) := by decide +kernel
theorem dX11_firstOfBlood_76 : decode cX11_firstOfBlood 76 = .ok (.iconst (-1), 1) := by decide +kernel
theorem dX11_firstOfBlood_77 : decode cX11_firstOfBlood 77 = .ok (.ireturn, 1) := by decide +kernel
theorem dX11_mostTurns_0 : decode cX11_mostTurns 0 = .ok (.iconst (-1), 1) := by decide +kernel
theorem dX11_mostTurns_1 : decode cX11_mostTurns 1 = .ok (.istore_n 3, 1) := by decide +kernel
theorem dX11_mostTurns_2 : decode cX11_mostTurns 2 = .ok (.iconst 0, 1) := by decide +kernel
theorem dX11_mostTurns_3 : decode cX11_mostTurns 3 = .ok (.istore 4, 2) := by decide +kernel
theorem dX11_mostTurns_5 : decode cX11_mostTurns 5 = .ok (.iconst 0, 1) := by decide +kernel
theorem dX11_mostTurns_6 : decode cX11_mostTurns 6 = .ok (.istore 5, 2) := by decide +kernel
theorem dX11_mostTurns_8 : decode cX11_mostTurns 8 = .ok (.iconst 0, 1) := by decide +kernel
theorem dX11_mostTurns_9 : decode cX11_mostTurns 9 = .ok (.istore 6, 2) := by decide +kernel
theorem dX11_mostTurns_11 : decode cX11_mostTurns 11 = .ok (.iload 6, 2) := by decide +kernel
theorem dX11_mostTurns_13 : decode cX11_mostTurns 13 = .ok (.aload_n 0, 1) := by decide +kernel
theorem dX11_mostTurns_14 : decode cX11_mostTurns 14 = .ok (.getfield 110, 3) := by decide +kernel
theorem dX11_mostTurns_17 : decode cX11_mostTurns 17 = .ok (.if_icmp .ge 88, 3) := by decide +kernel
theorem dX11_mostTurns_20 : decode cX11_mostTurns 20 = .ok (.aload_n 0, 1) := by decide +kernel
theorem dX11_mostTurns_21 : decode cX11_mostTurns 21 = .ok (.getfield 17, 3) := by decide +kernel
theorem dX11_mostTurns_24 : decode cX11_mostTurns 24 = .ok (.iload 6, 2) := by decide +kernel
theorem dX11_mostTurns_26 : decode cX11_mostTurns 26 = .ok (.aaload, 1) := by decide +kernel
theorem dX11_mostTurns_27 : decode cX11_mostTurns 27 = .ok (.astore 7, 2) := by decide +kernel
theorem dX11_mostTurns_29 : decode cX11_mostTurns 29 = .ok (.iload 6, 2) := by decide +kernel
theorem dX11_mostTurns_31 : decode cX11_mostTurns 31 = .ok (.iload_n 1, 1) := by decide +kernel
theorem dX11_mostTurns_32 : decode cX11_mostTurns 32 = .ok (.if_icmp .eq 67, 3) := by decide +kernel
theorem dX11_mostTurns_35 : decode cX11_mostTurns 35 = .ok (.aload 7, 2) := by decide +kernel
theorem dX11_mostTurns_37 : decode cX11_mostTurns 37 = .ok (.getfield 151, 3) := by decide +kernel
theorem dX11_mostTurns_40 : decode cX11_mostTurns 40 = .ok (.iload_n 2, 1) := by decide +kernel
theorem dX11_mostTurns_41 : decode cX11_mostTurns 41 = .ok (.if_icmp .eq 6, 3) := by decide +kernel
theorem dX11_mostTurns_44 : decode cX11_mostTurns 44 = .ok (.goto 55, 3) := by decide +kernel
theorem dX11_mostTurns_47 : decode cX11_mostTurns 47 = .ok (.iload_n 3, 1) := by decide +kernel
theorem dX11_mostTurns_48 : decode cX11_mostTurns 48 = .ok (.iconst (-1), 1) := by decide +kernel
theorem dX11_mostTurns_49 : decode cX11_mostTurns 49 = .ok (.if_icmp .eq 33, 3) := by decide +kernel
theorem dX11_mostTurns_52 : decode cX11_mostTurns 52 = .ok (.aload 7, 2) := by decide +kernel
theorem dX11_mostTurns_54 : decode cX11_mostTurns 54 = .ok (.getfield 157, 3) := by decide +kernel
theorem dX11_mostTurns_57 : decode cX11_mostTurns 57 = .ok (.iload 4, 2) := by decide +kernel
theorem dX11_mostTurns_59 : decode cX11_mostTurns 59 = .ok (.if_icmp .gt 23, 3) := by decide +kernel
theorem dX11_mostTurns_62 : decode cX11_mostTurns 62 = .ok (.aload 7, 2) := by decide +kernel
theorem dX11_mostTurns_64 : decode cX11_mostTurns 64 = .ok (.getfield 157, 3) := by decide +kernel
theorem dX11_mostTurns_67 : decode cX11_mostTurns 67 = .ok (.iload 4, 2) := by decide +kernel
theorem dX11_mostTurns_69 : decode cX11_mostTurns 69 = .ok (.if_icmp .ne 30, 3) := by decide +kernel
theorem dX11_mostTurns_72 : decode cX11_mostTurns 72 = .ok (.aload 7, 2) := by decide +kernel
theorem dX11_mostTurns_74 : decode cX11_mostTurns 74 = .ok (.getfield 145, 3) := by decide +kernel
theorem dX11_mostTurns_77 : decode cX11_mostTurns 77 = .ok (.iload 5, 2) := by decide +kernel
theorem dX11_mostTurns_79 : decode cX11_mostTurns 79 = .ok (.if_icmp .le 20, 3) := by decide +kernel
theorem dX11_mostTurns_82 : decode cX11_mostTurns 82 = .ok (.iload 6, 2) := by decide +kernel
theorem dX11_mostTurns_84 : decode cX11_mostTurns 84 = .ok (.istore_n 3, 1) := by decide +kernel
theorem dX11_mostTurns_85 : decode cX11_mostTurns 85 = .ok (.aload 7, 2) := by decide +kernel
theorem dX11_mostTurns_87 : decode cX11_mostTurns 87 = .ok (.getfield 157, 3) := by decide +kernel
theorem dX11_mostTurns_90 : decode cX11_mostTurns 90 = .ok (.istore 4, 2) := by decide +kernel
theorem dX11_mostTurns_92 : decode cX11_mostTurns 92 = .ok (.aload 7, 2) := by decide +kernel
theorem dX11_mostTurns_94 : decode cX11_mostTurns 94 = .ok (.getfield 145, 3) := by decide +kernel
theorem dX11_mostTurns_97 : decode cX11_mostTurns 97 = .ok (.istore 5, 2) := by decide +kernel
theorem dX11_mostTurns_99 : decode cX11_mostTurns 99 = .ok (.iinc 6 1, 3) := by decide +kernel
theorem dX11_mostTurns_102 : decode cX11_mostTurns 102 = .ok (.goto (-91), 3) := by decide +kernel
theorem dX11_mostTurns_105 : decode cX11_mostTurns 105 = .ok (.iload_n 3, 1) := by decide +kernel
theorem dX11_mostTurns_106 : decode cX11_mostTurns 106 = .ok (.ireturn, 1) := by decide +kernel
theorem dX11_open_0 : decode cX11_open 0 = .ok (.iload_n 1, 1) := by decide +kernel
theorem dX11_open_1 : decode cX11_open 1 = .ok (.iconst 0, 1) := by decide +kernel
theorem dX11_open_2 : decode cX11_open 2 = .ok (.bipush 42, 2) := by decide +kernel
theorem dX11_open_4 : decode cX11_open 4 = .ok (.invokestatic 66, 3) := by decide +kernel
theorem dX11_open_7 : decode cX11_open 7 = .ok (.ifCond .eq 12, 3) := by decide +kernel
theorem dX11_open_10 : decode cX11_open 10 = .ok (.iload_n 2, 1) := by decide +kernel
theorem dX11_open_11 : decode cX11_open 11 = .ok (.iconst 0, 1) := by decide +kernel
theorem dX11_open_12 : decode cX11_open 12 = .ok (.iconst 2, 1) := by decide +kernel
theorem dX11_open_13 : decode cX11_open 13 = .ok (.invokestatic 66, 3) := by decide +kernel
theorem dX11_open_16 : decode cX11_open 16 = .ok (.ifCond .ne 6, 3) := by decide +kernel
theorem dX11_open_19 : decode cX11_open 19 = .ok (.bipush (-2), 2) := by decide +kernel
theorem dX11_open_21 : decode cX11_open 21 = .ok (.ireturn, 1) := by decide +kernel
theorem dX11_open_22 : decode cX11_open 22 = .ok (.iconst 0, 1) := by decide +kernel
theorem dX11_open_23 : decode cX11_open 23 = .ok (.istore_n 3, 1) := by decide +kernel
theorem dX11_open_24 : decode cX11_open 24 = .ok (.iconst 0, 1) := by decide +kernel
theorem dX11_open_25 : decode cX11_open 25 = .ok (.istore 4, 2) := by decide +kernel
theorem dX11_open_27 : decode cX11_open 27 = .ok (.iconst 0, 1) := by decide +kernel
theorem dX11_open_28 : decode cX11_open 28 = .ok (.istore 5, 2) := by decide +kernel
theorem dX11_open_30 : decode cX11_open 30 = .ok (.iconst 1, 1) := by decide +kernel
theorem dX11_open_31 : decode cX11_open 31 = .ok (.istore 6, 2) := by decide +kernel
theorem dX11_open_33 : decode cX11_open 33 = .ok (.iload 6, 2) := by decide +kernel
theorem dX11_open_35 : decode cX11_open 35 = .ok (.iconst 1, 1) := by decide +kernel
theorem dX11_open_36 : decode cX11_open 36 = .ok (.aload_n 0, 1) := by decide +kernel
theorem dX11_open_37 : decode cX11_open 37 = .ok (.getfield 74, 3) := by decide +kernel
theorem dX11_open_40 : decode cX11_open 40 = .ok (.ishl, 1) := by decide +kernel
theorem dX11_open_41 : decode cX11_open 41 = .ok (.if_icmp .ge 123, 3) := by decide +kernel
theorem dX11_open_44 : decode cX11_open 44 = .ok (.iconst 0, 1) := by decide +kernel
theorem dX11_open_45 : decode cX11_open 45 = .ok (.istore 7, 2) := by decide +kernel
theorem dX11_open_47 : decode cX11_open 47 = .ok (.iconst 0, 1) := by decide +kernel
theorem dX11_open_48 : decode cX11_open 48 = .ok (.istore 8, 2) := by decide +kernel
theorem dX11_open_50 : decode cX11_open 50 = .ok (.iconst 0, 1) := by decide +kernel
theorem dX11_open_51 : decode cX11_open 51 = .ok (.istore 9, 2) := by decide +kernel
theorem dX11_open_53 : decode cX11_open 53 = .ok (.iload 9, 2) := by decide +kernel
theorem dX11_open_55 : decode cX11_open 55 = .ok (.aload_n 0, 1) := by decide +kernel
theorem dX11_open_56 : decode cX11_open 56 = .ok (.getfield 74, 3) := by decide +kernel
theorem dX11_open_59 : decode cX11_open 59 = .ok (.if_icmp .ge 49, 3) := by decide +kernel
theorem dX11_open_62 : decode cX11_open 62 = .ok (.iload 6, 2) := by decide +kernel
theorem dX11_open_64 : decode cX11_open 64 = .ok (.iload 9, 2) := by decide +kernel
theorem dX11_open_66 : decode cX11_open 66 = .ok (.ishr, 1) := by decide +kernel
theorem dX11_open_67 : decode cX11_open 67 = .ok (.iconst 1, 1) := by decide +kernel
theorem dX11_open_68 : decode cX11_open 68 = .ok (.iand, 1) := by decide +kernel
theorem dX11_open_69 : decode cX11_open 69 = .ok (.ifCond .eq 33, 3) := by decide +kernel
theorem dX11_open_72 : decode cX11_open 72 = .ok (.iload 7, 2) := by decide +kernel
theorem dX11_open_74 : decode cX11_open 74 = .ok (.aload_n 0, 1) := by decide +kernel
theorem dX11_open_75 : decode cX11_open 75 = .ok (.getfield 11, 3) := by decide +kernel
theorem dX11_open_78 : decode cX11_open 78 = .ok (.iload 9, 2) := by decide +kernel
theorem dX11_open_80 : decode cX11_open 80 = .ok (.aaload, 1) := by decide +kernel
theorem dX11_open_81 : decode cX11_open 81 = .ok (.getfield 259, 3) := by decide +kernel
theorem dX11_open_84 : decode cX11_open 84 = .ok (.iadd, 1) := by decide +kernel
theorem dX11_open_85 : decode cX11_open 85 = .ok (.istore 7, 2) := by decide +kernel
theorem dX11_open_87 : decode cX11_open 87 = .ok (.iload 8, 2) := by decide +kernel
theorem dX11_open_89 : decode cX11_open 89 = .ok (.aload_n 0, 1) := by decide +kernel
theorem dX11_open_90 : decode cX11_open 90 = .ok (.getfield 11, 3) := by decide +kernel
theorem dX11_open_93 : decode cX11_open 93 = .ok (.iload 9, 2) := by decide +kernel
theorem dX11_open_95 : decode cX11_open 95 = .ok (.aaload, 1) := by decide +kernel
theorem dX11_open_96 : decode cX11_open 96 = .ok (.invokevirtual 262, 3) := by decide +kernel
theorem dX11_open_99 : decode cX11_open 99 = .ok (.iadd, 1) := by decide +kernel
theorem dX11_open_100 : decode cX11_open 100 = .ok (.istore 8, 2) := by decide +kernel
theorem dX11_open_102 : decode cX11_open 102 = .ok (.iinc 9 1, 3) := by decide +kernel
theorem dX11_open_105 : decode cX11_open 105 = .ok (.goto (-52), 3) := by decide +kernel
theorem dX11_open_108 : decode cX11_open 108 = .ok (.iload 7, 2) := by decide +kernel
theorem dX11_open_110 : decode cX11_open 110 = .ok (.iload 4, 2) := by decide +kernel
theorem dX11_open_112 : decode cX11_open 112 = .ok (.if_icmp .gt 17, 3) := by decide +kernel
theorem dX11_open_115 : decode cX11_open 115 = .ok (.iload 7, 2) := by decide +kernel
theorem dX11_open_117 : decode cX11_open 117 = .ok (.iload 4, 2) := by decide +kernel
theorem dX11_open_119 : decode cX11_open 119 = .ok (.if_icmp .ne 14, 3) := by decide +kernel
theorem dX11_open_122 : decode cX11_open 122 = .ok (.iload 8, 2) := by decide +kernel
theorem dX11_open_124 : decode cX11_open 124 = .ok (.iload 5, 2) := by decide +kernel
theorem dX11_open_126 : decode cX11_open 126 = .ok (.if_icmp .ge 7, 3) := by decide +kernel
theorem dX11_open_129 : decode cX11_open 129 = .ok (.iconst 1, 1) := by decide +kernel
theorem dX11_open_130 : decode cX11_open 130 = .ok (.goto 4, 3) := by decide +kernel
theorem dX11_open_133 : decode cX11_open 133 = .ok (.iconst 0, 1) := by decide +kernel
theorem dX11_open_134 : decode cX11_open 134 = .ok (.istore 9, 2) := by decide +kernel
theorem dX11_open_136 : decode cX11_open 136 = .ok (.iload 8, 2) := by decide +kernel
theorem dX11_open_138 : decode cX11_open 138 = .ok (.iload_n 1, 1) := by decide +kernel
theorem dX11_open_139 : decode cX11_open 139 = .ok (.if_icmp .gt 19, 3) := by decide +kernel
theorem dX11_open_142 : decode cX11_open 142 = .ok (.iload 9, 2) := by decide +kernel
theorem dX11_open_144 : decode cX11_open 144 = .ok (.ifCond .eq 14, 3) := by decide +kernel
theorem dX11_open_147 : decode cX11_open 147 = .ok (.iload 6, 2) := by decide +kernel
theorem dX11_open_149 : decode cX11_open 149 = .ok (.istore_n 3, 1) := by decide +kernel
theorem dX11_open_150 : decode cX11_open 150 = .ok (.iload 7, 2) := by decide +kernel
theorem dX11_open_152 : decode cX11_open 152 = .ok (.istore 4, 2) := by decide +kernel
theorem dX11_open_154 : decode cX11_open 154 = .ok (.iload 8, 2) := by decide +kernel
theorem dX11_open_156 : decode cX11_open 156 = .ok (.istore 5, 2) := by decide +kernel
theorem dX11_open_158 : decode cX11_open 158 = .ok (.iinc 6 1, 3) := by decide +kernel
theorem dX11_open_161 : decode cX11_open 161 = .ok (.goto (-128), 3) := by decide +kernel
theorem dX11_open_164 : decode cX11_open 164 = .ok (.iload_n 2, 1) := by decide +kernel
theorem dX11_open_165 : decode cX11_open 165 = .ok (.ifCond .ne 7, 3) := by decide +kernel
theorem dX11_open_168 : decode cX11_open 168 = .ok (.iload_n 3, 1) := by decide +kernel
theorem dX11_open_169 : decode cX11_open 169 = .ok (.goto 15, 3) := by decide +kernel
theorem dX11_open_172 : decode cX11_open 172 = .ok (.iload_n 2, 1) := by decide +kernel
theorem dX11_open_173 : decode cX11_open 173 = .ok (.iconst 1, 1) := by decide +kernel
theorem dX11_open_174 : decode cX11_open 174 = .ok (.if_icmp .ne 8, 3) := by decide +kernel
theorem dX11_open_177 : decode cX11_open 177 = .ok (.iload 4, 2) := by decide +kernel
theorem dX11_open_179 : decode cX11_open 179 = .ok (.goto 5, 3) := by decide +kernel
theorem dX11_open_182 : decode cX11_open 182 = .ok (.iload 5, 2) := by decide +kernel
theorem dX11_open_184 : decode cX11_open 184 = .ok (.ireturn, 1) := by decide +kernel
theorem dX11_path_0 : decode cX11_path 0 = .ok (.iload_n 1, 1) := by decide +kernel
theorem dX11_path_1 : decode cX11_path 1 = .ok (.invokestatic 70, 3) := by decide +kernel
theorem dX11_path_4 : decode cX11_path 4 = .ok (.ifCond .eq 17, 3) := by decide +kernel
theorem dX11_path_7 : decode cX11_path 7 = .ok (.iload_n 2, 1) := by decide +kernel
theorem dX11_path_8 : decode cX11_path 8 = .ok (.iconst 0, 1) := by decide +kernel
theorem dX11_path_9 : decode cX11_path 9 = .ok (.bipush 99, 2) := by decide +kernel
theorem dX11_path_11 : decode cX11_path 11 = .ok (.invokestatic 66, 3) := by decide +kernel
theorem dX11_path_14 : decode cX11_path 14 = .ok (.ifCond .eq 7, 3) := by decide +kernel
theorem dX11_path_17 : decode cX11_path 17 = .ok (.iconst 1, 1) := by decide +kernel
theorem dX11_path_18 : decode cX11_path 18 = .ok (.goto 4, 3) := by decide +kernel
theorem dX11_path_21 : decode cX11_path 21 = .ok (.iconst 0, 1) := by decide +kernel
theorem dX11_path_22 : decode cX11_path 22 = .ok (.istore_n 3, 1) := by decide +kernel
theorem dX11_path_23 : decode cX11_path 23 = .ok (.iload_n 3, 1) := by decide +kernel
theorem dX11_path_24 : decode cX11_path 24 = .ok (.ifCond .eq 15, 3) := by decide +kernel
theorem dX11_path_27 : decode cX11_path 27 = .ok (.aload_n 0, 1) := by decide +kernel
theorem dX11_path_28 : decode cX11_path 28 = .ok (.getfield 42, 3) := by decide +kernel
theorem dX11_path_31 : decode cX11_path 31 = .ok (.iload_n 1, 1) := by decide +kernel
theorem dX11_path_32 : decode cX11_path 32 = .ok (.iload_n 2, 1) := by decide +kernel
theorem dX11_path_33 : decode cX11_path 33 = .ok (.invokevirtual 265, 3) := by decide +kernel
theorem dX11_path_36 : decode cX11_path 36 = .ok (.goto 5, 3) := by decide +kernel
theorem dX11_path_39 : decode cX11_path 39 = .ok (.bipush (-2), 2) := by decide +kernel
theorem dX11_path_41 : decode cX11_path 41 = .ok (.ireturn, 1) := by decide +kernel
theorem dX11_foot_0 : decode cX11_foot 0 = .ok (.iload_n 1, 1) := by decide +kernel
theorem dX11_foot_1 : decode cX11_foot 1 = .ok (.iconst 0, 1) := by decide +kernel
theorem dX11_foot_2 : decode cX11_foot 2 = .ok (.bipush 99, 2) := by decide +kernel
theorem dX11_foot_4 : decode cX11_foot 4 = .ok (.invokestatic 66, 3) := by decide +kernel
theorem dX11_foot_7 : decode cX11_foot 7 = .ok (.ifCond .ne 6, 3) := by decide +kernel
theorem dX11_foot_10 : decode cX11_foot 10 = .ok (.bipush (-2), 2) := by decide +kernel
theorem dX11_foot_12 : decode cX11_foot 12 = .ok (.ireturn, 1) := by decide +kernel
theorem dX11_foot_13 : decode cX11_foot 13 = .ok (.aload_n 0, 1) := by decide +kernel
theorem dX11_foot_14 : decode cX11_foot 14 = .ok (.getfield 42, 3) := by decide +kernel
theorem dX11_foot_17 : decode cX11_foot 17 = .ok (.iload_n 1, 1) := by decide +kernel
theorem dX11_foot_18 : decode cX11_foot 18 = .ok (.aload_n 0, 1) := by decide +kernel
theorem dX11_foot_19 : decode cX11_foot 19 = .ok (.getfield 11, 3) := by decide +kernel
theorem dX11_foot_22 : decode cX11_foot 22 = .ok (.aload_n 0, 1) := by decide +kernel
theorem dX11_foot_23 : decode cX11_foot 23 = .ok (.getfield 74, 3) := by decide +kernel
theorem dX11_foot_26 : decode cX11_foot 26 = .ok (.invokevirtual 268, 3) := by decide +kernel
theorem dX11_foot_29 : decode cX11_foot 29 = .ok (.istore_n 2, 1) := by decide +kernel
theorem dX11_foot_30 : decode cX11_foot 30 = .ok (.iload_n 2, 1) := by decide +kernel
theorem dX11_foot_31 : decode cX11_foot 31 = .ok (.ldc_w 272, 3) := by decide +kernel
theorem dX11_foot_34 : decode cX11_foot 34 = .ok (.if_icmp .ge 7, 3) := by decide +kernel
theorem dX11_foot_37 : decode cX11_foot 37 = .ok (.iload_n 2, 1) := by decide +kernel
theorem dX11_foot_38 : decode cX11_foot 38 = .ok (.goto 4, 3) := by decide +kernel
theorem dX11_foot_41 : decode cX11_foot 41 = .ok (.iconst (-1), 1) := by decide +kernel
theorem dX11_foot_42 : decode cX11_foot 42 = .ok (.ireturn, 1) := by decide +kernel
theorem dX11_lost_0 : decode cX11_lost 0 = .ok (.aload_n 0, 1) := by decide +kernel
theorem dX11_lost_1 : decode cX11_lost 1 = .ok (.iload_n 1, 1) := by decide +kernel
theorem dX11_lost_2 : decode cX11_lost 2 = .ok (.i2l, 1) := by decide +kernel
theorem dX11_lost_3 : decode cX11_lost 3 = .ok (.invokevirtual 87, 3) := by decide +kernel
theorem dX11_lost_6 : decode cX11_lost 6 = .ok (.astore_n 2, 1) := by decide +kernel
theorem dX11_lost_7 : decode cX11_lost 7 = .ok (.aload_n 2, 1) := by decide +kernel
theorem dX11_lost_8 : decode cX11_lost 8 = .ok (.ifnonnull 6, 3) := by decide +kernel
theorem dX11_lost_11 : decode cX11_lost 11 = .ok (.bipush (-2), 2) := by decide +kernel
theorem dX11_lost_13 : decode cX11_lost 13 = .ok (.ireturn, 1) := by decide +kernel
theorem dX11_lost_14 : decode cX11_lost 14 = .ok (.aload_n 2, 1) := by decide +kernel
theorem dX11_lost_15 : decode cX11_lost 15 = .ok (.iconst 0, 1) := by decide +kernel
theorem dX11_lost_16 : decode cX11_lost 16 = .ok (.invokevirtual 91, 3) := by decide +kernel
theorem dX11_lost_19 : decode cX11_lost 19 = .ok (.istore_n 3, 1) := by decide +kernel
theorem dX11_lost_20 : decode cX11_lost 20 = .ok (.iload_n 3, 1) := by decide +kernel
theorem dX11_lost_21 : decode cX11_lost 21 = .ok (.ifCond .ne 5, 3) := by decide +kernel
theorem dX11_lost_24 : decode cX11_lost 24 = .ok (.iconst 0, 1) := by decide +kernel
theorem dX11_lost_25 : decode cX11_lost 25 = .ok (.ireturn, 1) := by decide +kernel
theorem dX11_lost_26 : decode cX11_lost 26 = .ok (.aload_n 0, 1) := by decide +kernel
theorem dX11_lost_27 : decode cX11_lost 27 = .ok (.getfield 42, 3) := by decide +kernel
theorem dX11_lost_30 : decode cX11_lost 30 = .ok (.aload_n 0, 1) := by decide +kernel
theorem dX11_lost_31 : decode cX11_lost 31 = .ok (.getfield 11, 3) := by decide +kernel
theorem dX11_lost_34 : decode cX11_lost 34 = .ok (.aload_n 0, 1) := by decide +kernel
theorem dX11_lost_35 : decode cX11_lost 35 = .ok (.getfield 74, 3) := by decide +kernel
theorem dX11_lost_38 : decode cX11_lost 38 = .ok (.invokevirtual 273, 3) := by decide +kernel
theorem dX11_lost_41 : decode cX11_lost 41 = .ok (.aload_n 2, 1) := by decide +kernel
theorem dX11_lost_42 : decode cX11_lost 42 = .ok (.iload_n 3, 1) := by decide +kernel
theorem dX11_lost_43 : decode cX11_lost 43 = .ok (.invokevirtual 91, 3) := by decide +kernel
theorem dX11_lost_46 : decode cX11_lost 46 = .ok (.pop, 1) := by decide +kernel
theorem dX11_lost_47 : decode cX11_lost 47 = .ok (.aload_n 0, 1) := by decide +kernel
theorem dX11_lost_48 : decode cX11_lost 48 = .ok (.getfield 42, 3) := by decide +kernel
theorem dX11_lost_51 : decode cX11_lost 51 = .ok (.aload_n 0, 1) := by decide +kernel
theorem dX11_lost_52 : decode cX11_lost 52 = .ok (.getfield 11, 3) := by decide +kernel
theorem dX11_lost_55 : decode cX11_lost 55 = .ok (.aload_n 0, 1) := by decide +kernel
theorem dX11_lost_56 : decode cX11_lost 56 = .ok (.getfield 74, 3) := by decide +kernel
theorem dX11_lost_59 : decode cX11_lost 59 = .ok (.invokevirtual 277, 3) := by decide +kernel
theorem dX11_lost_62 : decode cX11_lost 62 = .ok (.aload_n 0, 1) := by decide +kernel
theorem dX11_lost_63 : decode cX11_lost 63 = .ok (.getfield 42, 3) := by decide +kernel
theorem dX11_lost_66 : decode cX11_lost 66 = .ok (.invokevirtual 280, 3) := by decide +kernel
theorem dX11_lost_69 : decode cX11_lost 69 = .ok (.ireturn, 1) := by decide +kernel
theorem dX11_fog_0 : decode cX11_fog 0 = .ok (.iload_n 1, 1) := by decide +kernel
theorem dX11_fog_1 : decode cX11_fog 1 = .ok (.invokestatic 283, 3) := by decide +kernel
theorem dX11_fog_4 : decode cX11_fog 4 = .ok (.ifCond .eq 31, 3) := by decide +kernel
theorem dX11_fog_7 : decode cX11_fog 7 = .ok (.iload_n 2, 1) := by decide +kernel
theorem dX11_fog_8 : decode cX11_fog 8 = .ok (.invokestatic 283, 3) := by decide +kernel
theorem dX11_fog_11 : decode cX11_fog 11 = .ok (.ifCond .eq 24, 3) := by decide +kernel
theorem dX11_fog_14 : decode cX11_fog 14 = .ok (.iload_n 3, 1) := by decide +kernel
theorem dX11_fog_15 : decode cX11_fog 15 = .ok (.bipush 10, 2) := by decide +kernel
theorem dX11_fog_17 : decode cX11_fog 17 = .ok (.bipush 99, 2) := by decide +kernel
theorem dX11_fog_19 : decode cX11_fog 19 = .ok (.invokestatic 66, 3) := by decide +kernel
theorem dX11_fog_22 : decode cX11_fog 22 = .ok (.ifCond .eq 13, 3) := by decide +kernel
theorem dX11_fog_25 : decode cX11_fog 25 = .ok (.iload 4, 2) := by decide +kernel
theorem dX11_fog_27 : decode cX11_fog 27 = .ok (.iconst 0, 1) := by decide +kernel
theorem dX11_fog_28 : decode cX11_fog 28 = .ok (.iconst 2, 1) := by decide +kernel
theorem dX11_fog_29 : decode cX11_fog 29 = .ok (.invokestatic 66, 3) := by decide +kernel
theorem dX11_fog_32 : decode cX11_fog 32 = .ok (.ifCond .ne 6, 3) := by decide +kernel
theorem dX11_fog_35 : decode cX11_fog 35 = .ok (.bipush (-2), 2) := by decide +kernel
theorem dX11_fog_37 : decode cX11_fog 37 = .ok (.ireturn, 1) := by decide +kernel
theorem dX11_fog_38 : decode cX11_fog 38 = .ok (.iconst 1, 1) := by decide +kernel
theorem dX11_fog_39 : decode cX11_fog 39 = .ok (.iload_n 3, 1) := by decide +kernel
theorem dX11_fog_40 : decode cX11_fog 40 = .ok (.bipush 10, 2) := by decide +kernel
theorem dX11_fog_42 : decode cX11_fog 42 = .ok (.idiv, 1) := by decide +kernel
theorem dX11_fog_43 : decode cX11_fog 43 = .ok (.invokestatic 189, 3) := by decide +kernel
theorem dX11_fog_46 : decode cX11_fog 46 = .ok (.istore 5, 2) := by decide +kernel
theorem dX11_fog_48 : decode cX11_fog 48 = .ok (.iload_n 3, 1) := by decide +kernel
theorem dX11_fog_49 : decode cX11_fog 49 = .ok (.bipush 10, 2) := by decide +kernel
theorem dX11_fog_51 : decode cX11_fog 51 = .ok (.irem, 1) := by decide +kernel
theorem dX11_fog_52 : decode cX11_fog 52 = .ok (.istore 6, 2) := by decide +kernel
theorem dX11_fog_54 : decode cX11_fog 54 = .ok (.iload_n 1, 1) := by decide +kernel
theorem dX11_fog_55 : decode cX11_fog 55 = .ok (.bipush 10, 2) := by decide +kernel
theorem dX11_fog_57 : decode cX11_fog 57 = .ok (.idiv, 1) := by decide +kernel
theorem dX11_fog_58 : decode cX11_fog 58 = .ok (.istore 7, 2) := by decide +kernel
theorem dX11_fog_60 : decode cX11_fog 60 = .ok (.iload_n 1, 1) := by decide +kernel
theorem dX11_fog_61 : decode cX11_fog 61 = .ok (.bipush 10, 2) := by decide +kernel
theorem dX11_fog_63 : decode cX11_fog 63 = .ok (.irem, 1) := by decide +kernel
theorem dX11_fog_64 : decode cX11_fog 64 = .ok (.iconst 1, 1) := by decide +kernel
theorem dX11_fog_65 : decode cX11_fog 65 = .ok (.isub, 1) := by decide +kernel
theorem dX11_fog_66 : decode cX11_fog 66 = .ok (.istore 8, 2) := by decide +kernel
theorem dX11_fog_68 : decode cX11_fog 68 = .ok (.iload_n 2, 1) := by decide +kernel
theorem dX11_fog_69 : decode cX11_fog 69 = .ok (.bipush 10, 2) := by decide +kernel
theorem dX11_fog_71 : decode cX11_fog 71 = .ok (.idiv, 1) := by decide +kernel
theorem dX11_fog_72 : decode cX11_fog 72 = .ok (.istore 9, 2) := by decide +kernel
theorem dX11_fog_74 : decode cX11_fog 74 = .ok (.iload_n 2, 1) := by decide +kernel
theorem dX11_fog_75 : decode cX11_fog 75 = .ok (.bipush 10, 2) := by decide +kernel
theorem dX11_fog_77 : decode cX11_fog 77 = .ok (.irem, 1) := by decide +kernel
theorem dX11_fog_78 : decode cX11_fog 78 = .ok (.iconst 1, 1) := by decide +kernel
theorem dX11_fog_79 : decode cX11_fog 79 = .ok (.isub, 1) := by decide +kernel
theorem dX11_fog_80 : decode cX11_fog 80 = .ok (.istore 10, 2) := by decide +kernel
theorem dX11_fog_82 : decode cX11_fog 82 = .ok (.iload 7, 2) := by decide +kernel
theorem dX11_fog_84 : decode cX11_fog 84 = .ok (.iload 9, 2) := by decide +kernel
theorem dX11_fog_86 : decode cX11_fog 86 = .ok (.isub, 1) := by decide +kernel
theorem dX11_fog_87 : decode cX11_fog 87 = .ok (.invokestatic 286, 3) := by decide +kernel
theorem dX11_fog_90 : decode cX11_fog 90 = .ok (.istore 11, 2) := by decide +kernel
theorem dX11_fog_92 : decode cX11_fog 92 = .ok (.iconst 0, 1) := by decide +kernel
theorem dX11_fog_93 : decode cX11_fog 93 = .ok (.istore 12, 2) := by decide +kernel
theorem dX11_fog_95 : decode cX11_fog 95 = .ok (.iload 11, 2) := by decide +kernel
theorem dX11_fog_97 : decode cX11_fog 97 = .ok (.ifCond .ne 7, 3) := by decide +kernel
theorem dX11_fog_100 : decode cX11_fog 100 = .ok (.iconst 1, 1) := by decide +kernel
theorem dX11_fog_101 : decode cX11_fog 101 = .ok (.goto 4, 3) := by decide +kernel
theorem dX11_fog_104 : decode cX11_fog 104 = .ok (.iconst 0, 1) := by decide +kernel
theorem dX11_fog_105 : decode cX11_fog 105 = .ok (.istore 13, 2) := by decide +kernel
theorem dX11_fog_107 : decode cX11_fog 107 = .ok (.iconst 1, 1) := by decide +kernel
theorem dX11_fog_108 : decode cX11_fog 108 = .ok (.istore 14, 2) := by decide +kernel
theorem dX11_fog_110 : decode cX11_fog 110 = .ok (.iload 14, 2) := by decide +kernel
theorem dX11_fog_112 : decode cX11_fog 112 = .ok (.bipush 60, 2) := by decide +kernel
theorem dX11_fog_114 : decode cX11_fog 114 = .ok (.if_icmp .gt 133, 3) := by decide +kernel
theorem dX11_fog_117 : decode cX11_fog 117 = .ok (.iload 7, 2) := by decide +kernel
theorem dX11_fog_119 : decode cX11_fog 119 = .ok (.iload 8, 2) := by decide +kernel
theorem dX11_fog_121 : decode cX11_fog 121 = .ok (.invokestatic 289, 3) := by decide +kernel
theorem dX11_fog_124 : decode cX11_fog 124 = .ok (.istore 8, 2) := by decide +kernel
theorem dX11_fog_126 : decode cX11_fog 126 = .ok (.iload 9, 2) := by decide +kernel
theorem dX11_fog_128 : decode cX11_fog 128 = .ok (.iload 10, 2) := by decide +kernel
theorem dX11_fog_130 : decode cX11_fog 130 = .ok (.invokestatic 289, 3) := by decide +kernel
theorem dX11_fog_133 : decode cX11_fog 133 = .ok (.istore 10, 2) := by decide +kernel
theorem dX11_fog_135 : decode cX11_fog 135 = .ok (.iload 7, 2) := by decide +kernel
theorem dX11_fog_137 : decode cX11_fog 137 = .ok (.iload 8, 2) := by decide +kernel
theorem dX11_fog_139 : decode cX11_fog 139 = .ok (.iadd, 1) := by decide +kernel
theorem dX11_fog_140 : decode cX11_fog 140 = .ok (.iload 9, 2) := by decide +kernel
theorem dX11_fog_142 : decode cX11_fog 142 = .ok (.if_icmp .ne 17, 3) := by decide +kernel
theorem dX11_fog_145 : decode cX11_fog 145 = .ok (.iload 9, 2) := by decide +kernel
theorem dX11_fog_147 : decode cX11_fog 147 = .ok (.iload 10, 2) := by decide +kernel
theorem dX11_fog_149 : decode cX11_fog 149 = .ok (.iadd, 1) := by decide +kernel
theorem dX11_fog_150 : decode cX11_fog 150 = .ok (.iload 7, 2) := by decide +kernel
theorem dX11_fog_152 : decode cX11_fog 152 = .ok (.if_icmp .ne 7, 3) := by decide +kernel
theorem dX11_fog_155 : decode cX11_fog 155 = .ok (.iconst 1, 1) := by decide +kernel
theorem dX11_fog_156 : decode cX11_fog 156 = .ok (.goto 4, 3) := by decide +kernel
theorem dX11_fog_159 : decode cX11_fog 159 = .ok (.iconst 0, 1) := by decide +kernel
theorem dX11_fog_160 : decode cX11_fog 160 = .ok (.istore 15, 2) := by decide +kernel
theorem dX11_fog_162 : decode cX11_fog 162 = .ok (.iload 7, 2) := by decide +kernel
theorem dX11_fog_164 : decode cX11_fog 164 = .ok (.iload 8, 2) := by decide +kernel
theorem dX11_fog_166 : decode cX11_fog 166 = .ok (.iadd, 1) := by decide +kernel
theorem dX11_fog_167 : decode cX11_fog 167 = .ok (.istore 7, 2) := by decide +kernel
theorem dX11_fog_169 : decode cX11_fog 169 = .ok (.iload 9, 2) := by decide +kernel
theorem dX11_fog_171 : decode cX11_fog 171 = .ok (.iload 10, 2) := by decide +kernel
theorem dX11_fog_173 : decode cX11_fog 173 = .ok (.iadd, 1) := by decide +kernel
theorem dX11_fog_174 : decode cX11_fog 174 = .ok (.istore 9, 2) := by decide +kernel
theorem dX11_fog_176 : decode cX11_fog 176 = .ok (.iload 7, 2) := by decide +kernel
theorem dX11_fog_178 : decode cX11_fog 178 = .ok (.iload 9, 2) := by decide +kernel
theorem dX11_fog_180 : decode cX11_fog 180 = .ok (.isub, 1) := by decide +kernel
theorem dX11_fog_181 : decode cX11_fog 181 = .ok (.invokestatic 286, 3) := by decide +kernel
theorem dX11_fog_184 : decode cX11_fog 184 = .ok (.istore 16, 2) := by decide +kernel
theorem dX11_fog_186 : decode cX11_fog 186 = .ok (.iload 13, 2) := by decide +kernel
theorem dX11_fog_188 : decode cX11_fog 188 = .ok (.ifCond .ne 13, 3) := by decide +kernel
theorem dX11_fog_191 : decode cX11_fog 191 = .ok (.iload 15, 2) := by decide +kernel
theorem dX11_fog_193 : decode cX11_fog 193 = .ok (.ifCond .ne 8, 3) := by decide +kernel
theorem dX11_fog_196 : decode cX11_fog 196 = .ok (.iload 16, 2) := by decide +kernel
theorem dX11_fog_198 : decode cX11_fog 198 = .ok (.ifCond .ne 7, 3) := by decide +kernel
theorem dX11_fog_201 : decode cX11_fog 201 = .ok (.iconst 1, 1) := by decide +kernel
theorem dX11_fog_202 : decode cX11_fog 202 = .ok (.goto 4, 3) := by decide +kernel
theorem dX11_fog_205 : decode cX11_fog 205 = .ok (.iconst 0, 1) := by decide +kernel
theorem dX11_fog_206 : decode cX11_fog 206 = .ok (.istore 13, 2) := by decide +kernel
theorem dX11_fog_208 : decode cX11_fog 208 = .ok (.iload 16, 2) := by decide +kernel
theorem dX11_fog_210 : decode cX11_fog 210 = .ok (.iload 11, 2) := by decide +kernel
theorem dX11_fog_212 : decode cX11_fog 212 = .ok (.if_icmp .ge 11, 3) := by decide +kernel
theorem dX11_fog_215 : decode cX11_fog 215 = .ok (.iload 16, 2) := by decide +kernel
theorem dX11_fog_217 : decode cX11_fog 217 = .ok (.istore 11, 2) := by decide +kernel
theorem dX11_fog_219 : decode cX11_fog 219 = .ok (.iload 14, 2) := by decide +kernel
theorem dX11_fog_221 : decode cX11_fog 221 = .ok (.istore 12, 2) := by decide +kernel
theorem dX11_fog_223 : decode cX11_fog 223 = .ok (.iload 14, 2) := by decide +kernel
theorem dX11_fog_225 : decode cX11_fog 225 = .ok (.iload 5, 2) := by decide +kernel
theorem dX11_fog_227 : decode cX11_fog 227 = .ok (.irem, 1) := by decide +kernel
theorem dX11_fog_228 : decode cX11_fog 228 = .ok (.ifCond .ne 13, 3) := by decide +kernel
theorem dX11_fog_231 : decode cX11_fog 231 = .ok (.iload 16, 2) := by decide +kernel
theorem dX11_fog_233 : decode cX11_fog 233 = .ok (.iload 6, 2) := by decide +kernel
theorem dX11_fog_235 : decode cX11_fog 235 = .ok (.if_icmp .gt 6, 3) := by decide +kernel
theorem dX11_fog_238 : decode cX11_fog 238 = .ok (.iconst 0, 1) := by decide +kernel
theorem dX11_fog_239 : decode cX11_fog 239 = .ok (.istore 10, 2) := by decide +kernel
theorem dX11_fog_241 : decode cX11_fog 241 = .ok (.iinc 14 1, 3) := by decide +kernel
theorem dX11_fog_244 : decode cX11_fog 244 = .ok (.goto (-134), 3) := by decide +kernel
theorem dX11_fog_247 : decode cX11_fog 247 = .ok (.iload 4, 2) := by decide +kernel
theorem dX11_fog_249 : decode cX11_fog 249 = .ok (.ifCond .ne 8, 3) := by decide +kernel
theorem dX11_fog_252 : decode cX11_fog 252 = .ok (.iload 11, 2) := by decide +kernel
theorem dX11_fog_254 : decode cX11_fog 254 = .ok (.goto 24, 3) := by decide +kernel
theorem dX11_fog_257 : decode cX11_fog 257 = .ok (.iload 4, 2) := by decide +kernel
theorem dX11_fog_259 : decode cX11_fog 259 = .ok (.iconst 1, 1) := by decide +kernel
theorem dX11_fog_260 : decode cX11_fog 260 = .ok (.if_icmp .ne 8, 3) := by decide +kernel
theorem dX11_fog_263 : decode cX11_fog 263 = .ok (.iload 12, 2) := by decide +kernel
theorem dX11_fog_265 : decode cX11_fog 265 = .ok (.goto 13, 3) := by decide +kernel
theorem dX11_fog_268 : decode cX11_fog 268 = .ok (.iload 13, 2) := by decide +kernel
theorem dX11_fog_270 : decode cX11_fog 270 = .ok (.ifCond .eq 7, 3) := by decide +kernel
theorem dX11_fog_273 : decode cX11_fog 273 = .ok (.iconst 1, 1) := by decide +kernel
theorem dX11_fog_274 : decode cX11_fog 274 = .ok (.goto 4, 3) := by decide +kernel
theorem dX11_fog_277 : decode cX11_fog 277 = .ok (.iconst 0, 1) := by decide +kernel
theorem dX11_fog_278 : decode cX11_fog 278 = .ok (.ireturn, 1) := by decide +kernel
theorem dX11_isABoat_0 : decode cX11_isABoat 0 = .ok (.iload_n 0, 1) := by decide +kernel
theorem dX11_isABoat_1 : decode cX11_isABoat 1 = .ok (.iconst 0, 1) := by decide +kernel
theorem dX11_isABoat_2 : decode cX11_isABoat 2 = .ok (.sipush 639, 3) := by decide +kernel
theorem dX11_isABoat_5 : decode cX11_isABoat 5 = .ok (.invokestatic 66, 3) := by decide +kernel
theorem dX11_isABoat_8 : decode cX11_isABoat 8 = .ok (.ifCond .eq 15, 3) := by decide +kernel
theorem dX11_isABoat_11 : decode cX11_isABoat 11 = .ok (.iload_n 0, 1) := by decide +kernel
theorem dX11_isABoat_12 : decode cX11_isABoat 12 = .ok (.bipush 10, 2) := by decide +kernel
theorem dX11_isABoat_14 : decode cX11_isABoat 14 = .ok (.irem, 1) := by decide +kernel
theorem dX11_isABoat_15 : decode cX11_isABoat 15 = .ok (.iconst 2, 1) := by decide +kernel
theorem dX11_isABoat_16 : decode cX11_isABoat 16 = .ok (.if_icmp .gt 7, 3) := by decide +kernel
theorem dX11_isABoat_19 : decode cX11_isABoat 19 = .ok (.iconst 1, 1) := by decide +kernel
theorem dX11_isABoat_20 : decode cX11_isABoat 20 = .ok (.goto 4, 3) := by decide +kernel
theorem dX11_isABoat_23 : decode cX11_isABoat 23 = .ok (.iconst 0, 1) := by decide +kernel
theorem dX11_isABoat_24 : decode cX11_isABoat 24 = .ok (.ireturn, 1) := by decide +kernel
theorem dX11_turnedAbout_0 : decode cX11_turnedAbout 0 = .ok (.iload_n 0, 1) := by decide +kernel
theorem dX11_turnedAbout_1 : decode cX11_turnedAbout 1 = .ok (.iload_n 1, 1) := by decide +kernel
theorem dX11_turnedAbout_2 : decode cX11_turnedAbout 2 = .ok (.iadd, 1) := by decide +kernel
theorem dX11_turnedAbout_3 : decode cX11_turnedAbout 3 = .ok (.iconst 0, 1) := by decide +kernel
theorem dX11_turnedAbout_4 : decode cX11_turnedAbout 4 = .ok (.bipush 63, 2) := by decide +kernel
theorem dX11_turnedAbout_6 : decode cX11_turnedAbout 6 = .ok (.invokestatic 66, 3) := by decide +kernel
theorem dX11_turnedAbout_9 : decode cX11_turnedAbout 9 = .ok (.ifCond .eq 7, 3) := by decide +kernel
theorem dX11_turnedAbout_12 : decode cX11_turnedAbout 12 = .ok (.iload_n 1, 1) := by decide +kernel
theorem dX11_turnedAbout_13 : decode cX11_turnedAbout 13 = .ok (.goto 5, 3) := by decide +kernel
theorem dX11_turnedAbout_16 : decode cX11_turnedAbout 16 = .ok (.iload_n 1, 1) := by decide +kernel
theorem dX11_turnedAbout_17 : decode cX11_turnedAbout 17 = .ok (.ineg, 1) := by decide +kernel
theorem dX11_turnedAbout_18 : decode cX11_turnedAbout 18 = .ok (.ireturn, 1) := by decide +kernel
theorem dX11_box_0 : decode cX11_box 0 = .ok (.iload_n 1, 1) := by decide +kernel
theorem dX11_box_1 : decode cX11_box 1 = .ok (.ifCond .lt 54, 3) := by decide +kernel
theorem dX11_box_4 : decode cX11_box 4 = .ok (.iload_n 1, 1) := by decide +kernel
theorem dX11_box_5 : decode cX11_box 5 = .ok (.sipush 1000, 3) := by decide +kernel
theorem dX11_box_8 : decode cX11_box 8 = .ok (.idiv, 1) := by decide +kernel
theorem dX11_box_9 : decode cX11_box 9 = .ok (.sipush 198, 3) := by decide +kernel
theorem dX11_box_12 : decode cX11_box 12 = .ok (.if_icmp .gt 43, 3) := by decide +kernel
theorem dX11_box_15 : decode cX11_box 15 = .ok (.iload_n 1, 1) := by decide +kernel
theorem dX11_box_16 : decode cX11_box 16 = .ok (.sipush 1000, 3) := by decide +kernel
theorem dX11_box_19 : decode cX11_box 19 = .ok (.irem, 1) := by decide +kernel
theorem dX11_box_20 : decode cX11_box 20 = .ok (.sipush 198, 3) := by decide +kernel
theorem dX11_box_23 : decode cX11_box 23 = .ok (.if_icmp .gt 32, 3) := by decide +kernel
theorem dX11_box_26 : decode cX11_box 26 = .ok (.iload_n 2, 1) := by decide +kernel
theorem dX11_box_27 : decode cX11_box 27 = .ok (.iconst 0, 1) := by decide +kernel
theorem dX11_box_28 : decode cX11_box 28 = .ok (.bipush 9, 2) := by decide +kernel
theorem dX11_box_30 : decode cX11_box 30 = .ok (.invokestatic 66, 3) := by decide +kernel
theorem dX11_box_33 : decode cX11_box 33 = .ok (.ifCond .eq 22, 3) := by decide +kernel
theorem dX11_box_36 : decode cX11_box 36 = .ok (.iload_n 3, 1) := by decide +kernel
theorem dX11_box_37 : decode cX11_box 37 = .ok (.iconst 0, 1) := by decide +kernel
theorem dX11_box_38 : decode cX11_box 38 = .ok (.ldc_w 292, 3) := by decide +kernel
theorem dX11_box_41 : decode cX11_box 41 = .ok (.invokestatic 66, 3) := by decide +kernel
theorem dX11_box_44 : decode cX11_box 44 = .ok (.ifCond .eq 11, 3) := by decide +kernel
theorem dX11_box_47 : decode cX11_box 47 = .ok (.iload 4, 2) := by decide +kernel
theorem dX11_box_49 : decode cX11_box 49 = .ok (.invokestatic 138, 3) := by decide +kernel
theorem dX11_box_52 : decode cX11_box 52 = .ok (.ifCond .ne 6, 3) := by decide +kernel
theorem dX11_box_55 : decode cX11_box 55 = .ok (.bipush (-2), 2) := by decide +kernel
theorem dX11_box_57 : decode cX11_box 57 = .ok (.ireturn, 1) := by decide +kernel
theorem dX11_box_58 : decode cX11_box 58 = .ok (.aload_n 0, 1) := by decide +kernel
theorem dX11_box_59 : decode cX11_box 59 = .ok (.iconst 1, 1) := by decide +kernel
theorem dX11_box_60 : decode cX11_box 60 = .ok (.iload 4, 2) := by decide +kernel
theorem dX11_box_62 : decode cX11_box 62 = .ok (.invokevirtual 293, 3) := by decide +kernel
theorem dX11_box_65 : decode cX11_box 65 = .ok (.istore 5, 2) := by decide +kernel
theorem dX11_box_67 : decode cX11_box 67 = .ok (.aload_n 0, 1) := by decide +kernel
theorem dX11_box_68 : decode cX11_box 68 = .ok (.iconst 0, 1) := by decide +kernel
theorem dX11_box_69 : decode cX11_box 69 = .ok (.iload 4, 2) := by decide +kernel
theorem dX11_box_71 : decode cX11_box 71 = .ok (.invokevirtual 293, 3) := by decide +kernel
theorem dX11_box_74 : decode cX11_box 74 = .ok (.istore 6, 2) := by decide +kernel
theorem dX11_box_76 : decode cX11_box 76 = .ok (.iload_n 1, 1) := by decide +kernel
theorem dX11_box_77 : decode cX11_box 77 = .ok (.sipush 1000, 3) := by decide +kernel
theorem dX11_box_80 : decode cX11_box 80 = .ok (.idiv, 1) := by decide +kernel
theorem dX11_box_81 : decode cX11_box 81 = .ok (.iload_n 1, 1) := by decide +kernel
theorem dX11_box_82 : decode cX11_box 82 = .ok (.sipush 1000, 3) := by decide +kernel
theorem dX11_box_85 : decode cX11_box 85 = .ok (.irem, 1) := by decide +kernel
theorem dX11_box_86 : decode cX11_box 86 = .ok (.invokestatic 189, 3) := by decide +kernel
theorem dX11_box_89 : decode cX11_box 89 = .ok (.iload_n 2, 1) := by decide +kernel
theorem dX11_box_90 : decode cX11_box 90 = .ok (.isub, 1) := by decide +kernel
theorem dX11_box_91 : decode cX11_box 91 = .ok (.istore 7, 2) := by decide +kernel
theorem dX11_box_93 : decode cX11_box 93 = .ok (.iload_n 1, 1) := by decide +kernel
theorem dX11_box_94 : decode cX11_box 94 = .ok (.sipush 1000, 3) := by decide +kernel
theorem dX11_box_97 : decode cX11_box 97 = .ok (.idiv, 1) := by decide +kernel
theorem dX11_box_98 : decode cX11_box 98 = .ok (.iload_n 1, 1) := by decide +kernel
theorem dX11_box_99 : decode cX11_box 99 = .ok (.sipush 1000, 3) := by decide +kernel
theorem dX11_box_102 : decode cX11_box 102 = .ok (.irem, 1) := by decide +kernel
theorem dX11_box_103 : decode cX11_box 103 = .ok (.invokestatic 194, 3) := by decide +kernel
theorem dX11_box_106 : decode cX11_box 106 = .ok (.iload_n 2, 1) := by decide +kernel
theorem dX11_box_107 : decode cX11_box 107 = .ok (.iadd, 1) := by decide +kernel
theorem dX11_box_108 : decode cX11_box 108 = .ok (.istore 8, 2) := by decide +kernel
theorem dX11_box_110 : decode cX11_box 110 = .ok (.iconst 0, 1) := by decide +kernel
theorem dX11_box_111 : decode cX11_box 111 = .ok (.istore 9, 2) := by decide +kernel
theorem dX11_box_113 : decode cX11_box 113 = .ok (.iconst 0, 1) := by decide +kernel
theorem dX11_box_114 : decode cX11_box 114 = .ok (.istore 10, 2) := by decide +kernel
theorem dX11_box_116 : decode cX11_box 116 = .ok (.iload 10, 2) := by decide +kernel
theorem dX11_box_118 : decode cX11_box 118 = .ok (.bipush 99, 2) := by decide +kernel
theorem dX11_box_120 : decode cX11_box 120 = .ok (.if_icmp .gt 63, 3) := by decide +kernel
theorem dX11_box_123 : decode cX11_box 123 = .ok (.bipush 99, 2) := by decide +kernel
theorem dX11_box_125 : decode cX11_box 125 = .ok (.iload 8, 2) := by decide +kernel
theorem dX11_box_127 : decode cX11_box 127 = .ok (.iload 10, 2) := by decide +kernel
theorem dX11_box_129 : decode cX11_box 129 = .ok (.isub, 1) := by decide +kernel
theorem dX11_box_130 : decode cX11_box 130 = .ok (.invokestatic 194, 3) := by decide +kernel
theorem dX11_box_133 : decode cX11_box 133 = .ok (.istore 11, 2) := by decide +kernel
theorem dX11_box_135 : decode cX11_box 135 = .ok (.iconst 0, 1) := by decide +kernel
theorem dX11_box_136 : decode cX11_box 136 = .ok (.iload 7, 2) := by decide +kernel
theorem dX11_box_138 : decode cX11_box 138 = .ok (.iload 10, 2) := by decide +kernel
theorem dX11_box_140 : decode cX11_box 140 = .ok (.isub, 1) := by decide +kernel
theorem dX11_box_141 : decode cX11_box 141 = .ok (.invokestatic 189, 3) := by decide +kernel
theorem dX11_box_144 : decode cX11_box 144 = .ok (.istore 12, 2) := by decide +kernel
theorem dX11_box_146 : decode cX11_box 146 = .ok (.iload 12, 2) := by decide +kernel
theorem dX11_box_148 : decode cX11_box 148 = .ok (.iload 11, 2) := by decide +kernel
theorem dX11_box_150 : decode cX11_box 150 = .ok (.if_icmp .gt 27, 3) := by decide +kernel
theorem dX11_box_153 : decode cX11_box 153 = .ok (.iload 10, 2) := by decide +kernel
theorem dX11_box_155 : decode cX11_box 155 = .ok (.iload 5, 2) := by decide +kernel
theorem dX11_box_157 : decode cX11_box 157 = .ok (.imul, 1) := by decide +kernel
theorem dX11_box_158 : decode cX11_box 158 = .ok (.iload 12, 2) := by decide +kernel
theorem dX11_box_160 : decode cX11_box 160 = .ok (.iload 6, 2) := by decide +kernel
theorem dX11_box_162 : decode cX11_box 162 = .ok (.imul, 1) := by decide +kernel
theorem dX11_box_163 : decode cX11_box 163 = .ok (.iadd, 1) := by decide +kernel
theorem dX11_box_164 : decode cX11_box 164 = .ok (.iload_n 3, 1) := by decide +kernel
theorem dX11_box_165 : decode cX11_box 165 = .ok (.if_icmp .ne 6, 3) := by decide +kernel
theorem dX11_box_168 : decode cX11_box 168 = .ok (.iinc 9 1, 3) := by decide +kernel
theorem dX11_box_171 : decode cX11_box 171 = .ok (.iinc 12 1, 3) := by decide +kernel
theorem dX11_box_174 : decode cX11_box 174 = .ok (.goto (-28), 3) := by decide +kernel
theorem dX11_box_177 : decode cX11_box 177 = .ok (.iinc 10 1, 3) := by decide +kernel
theorem dX11_box_180 : decode cX11_box 180 = .ok (.goto (-64), 3) := by decide +kernel
theorem dX11_box_183 : decode cX11_box 183 = .ok (.iload 9, 2) := by decide +kernel
theorem dX11_box_185 : decode cX11_box 185 = .ok (.ireturn, 1) := by decide +kernel
theorem dX11_shares_0 : decode cX11_shares 0 = .ok (.aload_n 0, 1) := by decide +kernel
theorem dX11_shares_1 : decode cX11_shares 1 = .ok (.iload_n 3, 1) := by decide +kernel
theorem dX11_shares_2 : decode cX11_shares 2 = .ok (.invokevirtual 106, 3) := by decide +kernel
theorem dX11_shares_5 : decode cX11_shares 5 = .ok (.astore 4, 2) := by decide +kernel
theorem dX11_shares_7 : decode cX11_shares 7 = .ok (.aload 4, 2) := by decide +kernel
theorem dX11_shares_9 : decode cX11_shares 9 = .ok (.ifnonnull 16, 3) := by decide +kernel
theorem dX11_shares_12 : decode cX11_shares 12 = .ok (.iload_n 3, 1) := by decide +kernel
theorem dX11_shares_13 : decode cX11_shares 13 = .ok (.iconst (-1), 1) := by decide +kernel
theorem dX11_shares_14 : decode cX11_shares 14 = .ok (.if_icmp .ne 7, 3) := by decide +kernel
theorem dX11_shares_17 : decode cX11_shares 17 = .ok (.iconst 1, 1) := by decide +kernel
theorem dX11_shares_18 : decode cX11_shares 18 = .ok (.goto 21, 3) := by decide +kernel
theorem dX11_shares_21 : decode cX11_shares 21 = .ok (.iconst 0, 1) := by decide +kernel
theorem dX11_shares_22 : decode cX11_shares 22 = .ok (.goto 17, 3) := by decide +kernel
theorem dX11_shares_25 : decode cX11_shares 25 = .ok (.aload 4, 2) := by decide +kernel
theorem dX11_shares_27 : decode cX11_shares 27 = .ok (.getfield 151, 3) := by decide +kernel
theorem dX11_shares_30 : decode cX11_shares 30 = .ok (.iload_n 1, 1) := by decide +kernel
theorem dX11_shares_31 : decode cX11_shares 31 = .ok (.if_icmp .ne 7, 3) := by decide +kernel
theorem dX11_shares_34 : decode cX11_shares 34 = .ok (.iconst 1, 1) := by decide +kernel
theorem dX11_shares_35 : decode cX11_shares 35 = .ok (.goto 4, 3) := by decide +kernel
theorem dX11_shares_38 : decode cX11_shares 38 = .ok (.iconst 0, 1) := by decide +kernel
theorem dX11_shares_39 : decode cX11_shares 39 = .ok (.istore 5, 2) := by decide +kernel
theorem dX11_shares_41 : decode cX11_shares 41 = .ok (.aload_n 0, 1) := by decide +kernel
theorem dX11_shares_42 : decode cX11_shares 42 = .ok (.iload_n 1, 1) := by decide +kernel
theorem dX11_shares_43 : decode cX11_shares 43 = .ok (.i2l, 1) := by decide +kernel
theorem dX11_shares_44 : decode cX11_shares 44 = .ok (.invokevirtual 87, 3) := by decide +kernel
theorem dX11_shares_47 : decode cX11_shares 47 = .ok (.ifnull 19, 3) := by decide +kernel
theorem dX11_shares_50 : decode cX11_shares 50 = .ok (.iload_n 2, 1) := by decide +kernel
theorem dX11_shares_51 : decode cX11_shares 51 = .ok (.iconst 0, 1) := by decide +kernel
theorem dX11_shares_52 : decode cX11_shares 52 = .ok (.ldc_w 292, 3) := by decide +kernel
theorem dX11_shares_55 : decode cX11_shares 55 = .ok (.invokestatic 66, 3) := by decide +kernel
theorem dX11_shares_58 : decode cX11_shares 58 = .ok (.ifCond .eq 8, 3) := by decide +kernel
theorem dX11_shares_61 : decode cX11_shares 61 = .ok (.iload 5, 2) := by decide +kernel
theorem dX11_shares_63 : decode cX11_shares 63 = .ok (.ifCond .ne 6, 3) := by decide +kernel
theorem dX11_shares_66 : decode cX11_shares 66 = .ok (.bipush (-2), 2) := by decide +kernel
theorem dX11_shares_68 : decode cX11_shares 68 = .ok (.ireturn, 1) := by decide +kernel
theorem dX11_shares_69 : decode cX11_shares 69 = .ok (.iconst 0, 1) := by decide +kernel
theorem dX11_shares_70 : decode cX11_shares 70 = .ok (.istore 6, 2) := by decide +kernel
theorem dX11_shares_72 : decode cX11_shares 72 = .ok (.iconst 0, 1) := by decide +kernel
theorem dX11_shares_73 : decode cX11_shares 73 = .ok (.istore 7, 2) := by decide +kernel
theorem dX11_shares_75 : decode cX11_shares 75 = .ok (.iload 7, 2) := by decide +kernel
theorem dX11_shares_77 : decode cX11_shares 77 = .ok (.aload_n 0, 1) := by decide +kernel
theorem dX11_shares_78 : decode cX11_shares 78 = .ok (.getfield 110, 3) := by decide +kernel
theorem dX11_shares_81 : decode cX11_shares 81 = .ok (.if_icmp .ge 42, 3) := by decide +kernel
theorem dX11_shares_84 : decode cX11_shares 84 = .ok (.iload 6, 2) := by decide +kernel
theorem dX11_shares_86 : decode cX11_shares 86 = .ok (.aload_n 0, 1) := by decide +kernel
theorem dX11_shares_87 : decode cX11_shares 87 = .ok (.getfield 17, 3) := by decide +kernel
theorem dX11_shares_90 : decode cX11_shares 90 = .ok (.iload 7, 2) := by decide +kernel
theorem dX11_shares_92 : decode cX11_shares 92 = .ok (.aaload, 1) := by decide +kernel
theorem dX11_shares_93 : decode cX11_shares 93 = .ok (.getfield 151, 3) := by decide +kernel
theorem dX11_shares_96 : decode cX11_shares 96 = .ok (.iload_n 1, 1) := by decide +kernel
theorem dX11_shares_97 : decode cX11_shares 97 = .ok (.if_icmp .ne 16, 3) := by decide +kernel
theorem dX11_shares_100 : decode cX11_shares 100 = .ok (.aload_n 0, 1) := by decide +kernel
theorem dX11_shares_101 : decode cX11_shares 101 = .ok (.getfield 17, 3) := by decide +kernel
theorem dX11_shares_104 : decode cX11_shares 104 = .ok (.iload 7, 2) := by decide +kernel
theorem dX11_shares_106 : decode cX11_shares 106 = .ok (.aaload, 1) := by decide +kernel
theorem dX11_shares_107 : decode cX11_shares 107 = .ok (.invokevirtual 166, 3) := by decide +kernel
theorem dX11_shares_110 : decode cX11_shares 110 = .ok (.goto 4, 3) := by decide +kernel
theorem dX11_shares_113 : decode cX11_shares 113 = .ok (.iconst 0, 1) := by decide +kernel
theorem dX11_shares_114 : decode cX11_shares 114 = .ok (.iadd, 1) := by decide +kernel
theorem dX11_shares_115 : decode cX11_shares 115 = .ok (.istore 6, 2) := by decide +kernel
theorem dX11_shares_117 : decode cX11_shares 117 = .ok (.iinc 7 1, 3) := by decide +kernel
theorem dX11_shares_120 : decode cX11_shares 120 = .ok (.goto (-45), 3) := by decide +kernel
theorem dX11_shares_123 : decode cX11_shares 123 = .ok (.aload 4, 2) := by decide +kernel
theorem dX11_shares_125 : decode cX11_shares 125 = .ok (.ifnull 12, 3) := by decide +kernel
theorem dX11_shares_128 : decode cX11_shares 128 = .ok (.aload 4, 2) := by decide +kernel
theorem dX11_shares_130 : decode cX11_shares 130 = .ok (.iload_n 2, 1) := by decide +kernel
theorem dX11_shares_131 : decode cX11_shares 131 = .ok (.iload 6, 2) := by decide +kernel
theorem dX11_shares_133 : decode cX11_shares 133 = .ok (.invokestatic 296, 3) := by decide +kernel
theorem dX11_shares_136 : decode cX11_shares 136 = .ok (.ireturn, 1) := by decide +kernel
theorem dX11_shares_137 : decode cX11_shares 137 = .ok (.iload_n 2, 1) := by decide +kernel
theorem dX11_shares_138 : decode cX11_shares 138 = .ok (.istore 7, 2) := by decide +kernel
theorem dX11_shares_140 : decode cX11_shares 140 = .ok (.iconst 0, 1) := by decide +kernel
theorem dX11_shares_141 : decode cX11_shares 141 = .ok (.istore 8, 2) := by decide +kernel
theorem dX11_shares_143 : decode cX11_shares 143 = .ok (.iload 8, 2) := by decide +kernel
theorem dX11_shares_145 : decode cX11_shares 145 = .ok (.aload_n 0, 1) := by decide +kernel
theorem dX11_shares_146 : decode cX11_shares 146 = .ok (.getfield 110, 3) := by decide +kernel
theorem dX11_shares_149 : decode cX11_shares 149 = .ok (.if_icmp .ge 45, 3) := by decide +kernel
theorem dX11_shares_152 : decode cX11_shares 152 = .ok (.iload 7, 2) := by decide +kernel
theorem dX11_shares_154 : decode cX11_shares 154 = .ok (.aload_n 0, 1) := by decide +kernel
theorem dX11_shares_155 : decode cX11_shares 155 = .ok (.getfield 17, 3) := by decide +kernel
theorem dX11_shares_158 : decode cX11_shares 158 = .ok (.iload 8, 2) := by decide +kernel
theorem dX11_shares_160 : decode cX11_shares 160 = .ok (.aaload, 1) := by decide +kernel
theorem dX11_shares_161 : decode cX11_shares 161 = .ok (.getfield 151, 3) := by decide +kernel
theorem dX11_shares_164 : decode cX11_shares 164 = .ok (.iload_n 1, 1) := by decide +kernel
theorem dX11_shares_165 : decode cX11_shares 165 = .ok (.if_icmp .ne 19, 3) := by decide +kernel
theorem dX11_shares_168 : decode cX11_shares 168 = .ok (.aload_n 0, 1) := by decide +kernel
theorem dX11_shares_169 : decode cX11_shares 169 = .ok (.getfield 17, 3) := by decide +kernel
theorem dX11_shares_172 : decode cX11_shares 172 = .ok (.iload 8, 2) := by decide +kernel
theorem dX11_shares_174 : decode cX11_shares 174 = .ok (.aaload, 1) := by decide +kernel
theorem dX11_shares_175 : decode cX11_shares 175 = .ok (.iload_n 2, 1) := by decide +kernel
theorem dX11_shares_176 : decode cX11_shares 176 = .ok (.iload 6, 2) := by decide +kernel
theorem dX11_shares_178 : decode cX11_shares 178 = .ok (.invokestatic 296, 3) := by decide +kernel
theorem dX11_shares_181 : decode cX11_shares 181 = .ok (.goto 4, 3) := by decide +kernel
theorem dX11_shares_184 : decode cX11_shares 184 = .ok (.iconst 0, 1) := by decide +kernel
theorem dX11_shares_185 : decode cX11_shares 185 = .ok (.isub, 1) := by decide +kernel
theorem dX11_shares_186 : decode cX11_shares 186 = .ok (.istore 7, 2) := by decide +kernel
theorem dX11_shares_188 : decode cX11_shares 188 = .ok (.iinc 8 1, 3) := by decide +kernel
theorem dX11_shares_191 : decode cX11_shares 191 = .ok (.goto (-48), 3) := by decide +kernel
theorem dX11_shares_194 : decode cX11_shares 194 = .ok (.iload 7, 2) := by decide +kernel
theorem dX11_shares_196 : decode cX11_shares 196 = .ok (.ireturn, 1) := by decide +kernel
theorem dX11_shareOf_0 : decode cX11_shareOf 0 = .ok (.iload_n 2, 1) := by decide +kernel
theorem dX11_shareOf_1 : decode cX11_shareOf 1 = .ok (.iconst 1, 1) := by decide +kernel
theorem dX11_shareOf_2 : decode cX11_shareOf 2 = .ok (.if_icmp .ge 7, 3) := by decide +kernel
theorem dX11_shareOf_5 : decode cX11_shareOf 5 = .ok (.iconst 0, 1) := by decide +kernel
theorem dX11_shareOf_6 : decode cX11_shareOf 6 = .ok (.goto 11, 3) := by decide +kernel
theorem dX11_shareOf_9 : decode cX11_shareOf 9 = .ok (.iload_n 1, 1) := by decide +kernel
theorem dX11_shareOf_10 : decode cX11_shareOf 10 = .ok (.aload_n 0, 1) := by decide +kernel
theorem dX11_shareOf_11 : decode cX11_shareOf 11 = .ok (.invokevirtual 166, 3) := by decide +kernel
theorem dX11_shareOf_14 : decode cX11_shareOf 14 = .ok (.imul, 1) := by decide +kernel
theorem dX11_shareOf_15 : decode cX11_shareOf 15 = .ok (.iload_n 2, 1) := by decide +kernel
theorem dX11_shareOf_16 : decode cX11_shareOf 16 = .ok (.idiv, 1) := by decide +kernel
theorem dX11_shareOf_17 : decode cX11_shareOf 17 = .ok (.ireturn, 1) := by decide +kernel
theorem dX11_bridge_0 : decode cX11_bridge 0 = .ok (.aload_n 0, 1) := by decide +kernel
theorem dX11_bridge_1 : decode cX11_bridge 1 = .ok (.iload_n 1, 1) := by decide +kernel
theorem dX11_bridge_2 : decode cX11_bridge 2 = .ok (.i2l, 1) := by decide +kernel
theorem dX11_bridge_3 : decode cX11_bridge 3 = .ok (.invokevirtual 87, 3) := by decide +kernel
theorem dX11_bridge_6 : decode cX11_bridge 6 = .ok (.astore_n 3, 1) := by decide +kernel
theorem dX11_bridge_7 : decode cX11_bridge 7 = .ok (.aload_n 3, 1) := by decide +kernel
theorem dX11_bridge_8 : decode cX11_bridge 8 = .ok (.ifnull 28, 3) := by decide +kernel
theorem dX11_bridge_11 : decode cX11_bridge 11 = .ok (.iload_n 2, 1) := by decide +kernel
theorem dX11_bridge_12 : decode cX11_bridge 12 = .ok (.iconst 0, 1) := by decide +kernel
theorem dX11_bridge_13 : decode cX11_bridge 13 = .ok (.bipush 100, 2) := by decide +kernel
theorem dX11_bridge_15 : decode cX11_bridge 15 = .ok (.invokestatic 66, 3) := by decide +kernel
theorem dX11_bridge_18 : decode cX11_bridge 18 = .ok (.ifCond .eq 18, 3) := by decide +kernel
theorem dX11_bridge_21 : decode cX11_bridge 21 = .ok (.aload_n 3, 1) := by decide +kernel
theorem dX11_bridge_22 : decode cX11_bridge 22 = .ok (.getfield 259, 3) := by decide +kernel
theorem dX11_bridge_25 : decode cX11_bridge 25 = .ok (.bipush 100, 2) := by decide +kernel
theorem dX11_bridge_27 : decode cX11_bridge 27 = .ok (.iload_n 2, 1) := by decide +kernel
theorem dX11_bridge_28 : decode cX11_bridge 28 = .ok (.isub, 1) := by decide +kernel
theorem dX11_bridge_29 : decode cX11_bridge 29 = .ok (.imul, 1) := by decide +kernel
theorem dX11_bridge_30 : decode cX11_bridge 30 = .ok (.bipush 100, 2) := by decide +kernel
theorem dX11_bridge_32 : decode cX11_bridge 32 = .ok (.idiv, 1) := by decide +kernel
theorem dX11_bridge_33 : decode cX11_bridge 33 = .ok (.goto 5, 3) := by decide +kernel
theorem dX11_bridge_36 : decode cX11_bridge 36 = .ok (.bipush (-2), 2) := by decide +kernel
theorem dX11_bridge_38 : decode cX11_bridge 38 = .ok (.ireturn, 1) := by decide +kernel
theorem dX11_image_0 : decode cX11_image 0 = .ok (.aload_n 0, 1) := by decide +kernel
theorem dX11_image_1 : decode cX11_image 1 = .ok (.aload_n 0, 1) := by decide +kernel
theorem dX11_image_2 : decode cX11_image 2 = .ok (.getfield 100, 3) := by decide +kernel
theorem dX11_image_5 : decode cX11_image 5 = .ok (.putfield 300, 3) := by decide +kernel
theorem dX11_image_8 : decode cX11_image 8 = .ok (.aload_n 0, 1) := by decide +kernel
theorem dX11_image_9 : decode cX11_image 9 = .ok (.aload_n 0, 1) := by decide +kernel
theorem dX11_image_10 : decode cX11_image 10 = .ok (.getfield 103, 3) := by decide +kernel
theorem dX11_image_13 : decode cX11_image 13 = .ok (.putfield 303, 3) := by decide +kernel
theorem dX11_image_16 : decode cX11_image 16 = .ok (.aload_n 0, 1) := by decide +kernel
theorem dX11_image_17 : decode cX11_image 17 = .ok (.aload_n 0, 1) := by decide +kernel
theorem dX11_image_18 : decode cX11_image 18 = .ok (.getfield 24, 3) := by decide +kernel
theorem dX11_image_21 : decode cX11_image 21 = .ok (.getfield 180, 3) := by decide +kernel
theorem dX11_image_24 : decode cX11_image 24 = .ok (.putfield 306, 3) := by decide +kernel
theorem dX11_image_27 : decode cX11_image 27 = .ok (.aload_n 0, 1) := by decide +kernel
theorem dX11_image_28 : decode cX11_image 28 = .ok (.aload_n 0, 1) := by decide +kernel
theorem dX11_image_29 : decode cX11_image 29 = .ok (.getfield 74, 3) := by decide +kernel
theorem dX11_image_32 : decode cX11_image 32 = .ok (.putfield 309, 3) := by decide +kernel
theorem dX11_image_35 : decode cX11_image 35 = .ok (.aload_n 0, 1) := by decide +kernel
theorem dX11_image_36 : decode cX11_image 36 = .ok (.aload_n 0, 1) := by decide +kernel
theorem dX11_image_37 : decode cX11_image 37 = .ok (.getfield 110, 3) := by decide +kernel
theorem dX11_image_40 : decode cX11_image 40 = .ok (.putfield 312, 3) := by decide +kernel
theorem dX11_image_43 : decode cX11_image 43 = .ok (.iconst 0, 1) := by decide +kernel
theorem dX11_image_44 : decode cX11_image 44 = .ok (.istore_n 1, 1) := by decide +kernel
theorem dX11_image_45 : decode cX11_image 45 = .ok (.iload_n 1, 1) := by decide +kernel
theorem dX11_image_46 : decode cX11_image 46 = .ok (.aload_n 0, 1) := by decide +kernel
theorem dX11_image_47 : decode cX11_image 47 = .ok (.getfield 74, 3) := by decide +kernel
theorem dX11_image_50 : decode cX11_image 50 = .ok (.if_icmp .ge 18, 3) := by decide +kernel
theorem dX11_image_53 : decode cX11_image 53 = .ok (.aload_n 0, 1) := by decide +kernel
theorem dX11_image_54 : decode cX11_image 54 = .ok (.getfield 11, 3) := by decide +kernel
theorem dX11_image_57 : decode cX11_image 57 = .ok (.iload_n 1, 1) := by decide +kernel
theorem dX11_image_58 : decode cX11_image 58 = .ok (.aaload, 1) := by decide +kernel
theorem dX11_image_59 : decode cX11_image 59 = .ok (.invokevirtual 315, 3) := by decide +kernel
theorem dX11_image_62 : decode cX11_image 62 = .ok (.iinc 1 1, 3) := by decide +kernel
theorem dX11_image_65 : decode cX11_image 65 = .ok (.goto (-20), 3) := by decide +kernel
theorem dX11_image_68 : decode cX11_image 68 = .ok (.iconst 0, 1) := by decide +kernel
theorem dX11_image_69 : decode cX11_image 69 = .ok (.istore_n 1, 1) := by decide +kernel
theorem dX11_image_70 : decode cX11_image 70 = .ok (.iload_n 1, 1) := by decide +kernel
theorem dX11_image_71 : decode cX11_image 71 = .ok (.aload_n 0, 1) := by decide +kernel
theorem dX11_image_72 : decode cX11_image 72 = .ok (.getfield 110, 3) := by decide +kernel
theorem dX11_image_75 : decode cX11_image 75 = .ok (.if_icmp .ge 18, 3) := by decide +kernel
theorem dX11_image_78 : decode cX11_image 78 = .ok (.aload_n 0, 1) := by decide +kernel
theorem dX11_image_79 : decode cX11_image 79 = .ok (.getfield 17, 3) := by decide +kernel
theorem dX11_image_82 : decode cX11_image 82 = .ok (.iload_n 1, 1) := by decide +kernel
theorem dX11_image_83 : decode cX11_image 83 = .ok (.aaload, 1) := by decide +kernel
theorem dX11_image_84 : decode cX11_image 84 = .ok (.invokevirtual 318, 3) := by decide +kernel
theorem dX11_image_87 : decode cX11_image 87 = .ok (.iinc 1 1, 3) := by decide +kernel
theorem dX11_image_90 : decode cX11_image 90 = .ok (.goto (-20), 3) := by decide +kernel
theorem dX11_image_93 : decode cX11_image 93 = .ok (.aload_n 0, 1) := by decide +kernel
theorem dX11_image_94 : decode cX11_image 94 = .ok (.getfield 42, 3) := by decide +kernel
theorem dX11_image_97 : decode cX11_image 97 = .ok (.invokevirtual 319, 3) := by decide +kernel
theorem dX11_image_100 : decode cX11_image 100 = .ok (.aload_n 0, 1) := by decide +kernel
theorem dX11_image_101 : decode cX11_image 101 = .ok (.iconst 1, 1) := by decide +kernel
theorem dX11_image_102 : decode cX11_image 102 = .ok (.putfield 320, 3) := by decide +kernel
theorem dX11_image_105 : decode cX11_image 105 = .ok (.aload_n 0, 1) := by decide +kernel
theorem dX11_image_106 : decode cX11_image 106 = .ok (.getfield 110, 3) := by decide +kernel
theorem dX11_image_109 : decode cX11_image 109 = .ok (.ireturn, 1) := by decide +kernel
theorem dX11_back_0 : decode cX11_back 0 = .ok (.aload_n 0, 1) := by decide +kernel
theorem dX11_back_1 : decode cX11_back 1 = .ok (.getfield 320, 3) := by decide +kernel
theorem dX11_back_4 : decode cX11_back 4 = .ok (.ifCond .ne 6, 3) := by decide +kernel
theorem dX11_back_7 : decode cX11_back 7 = .ok (.bipush (-3), 2) := by decide +kernel
theorem dX11_back_9 : decode cX11_back 9 = .ok (.ireturn, 1) := by decide +kernel
theorem dX11_back_10 : decode cX11_back 10 = .ok (.aload_n 0, 1) := by decide +kernel
theorem dX11_back_11 : decode cX11_back 11 = .ok (.aload_n 0, 1) := by decide +kernel
theorem dX11_back_12 : decode cX11_back 12 = .ok (.getfield 300, 3) := by decide +kernel
theorem dX11_back_15 : decode cX11_back 15 = .ok (.putfield 100, 3) := by decide +kernel
theorem dX11_back_18 : decode cX11_back 18 = .ok (.aload_n 0, 1) := by decide +kernel
theorem dX11_back_19 : decode cX11_back 19 = .ok (.aload_n 0, 1) := by decide +kernel
theorem dX11_back_20 : decode cX11_back 20 = .ok (.getfield 303, 3) := by decide +kernel
theorem dX11_back_23 : decode cX11_back 23 = .ok (.putfield 103, 3) := by decide +kernel
theorem dX11_back_26 : decode cX11_back 26 = .ok (.aload_n 0, 1) := by decide +kernel
theorem dX11_back_27 : decode cX11_back 27 = .ok (.getfield 24, 3) := by decide +kernel
theorem dX11_back_30 : decode cX11_back 30 = .ok (.aload_n 0, 1) := by decide +kernel
theorem dX11_back_31 : decode cX11_back 31 = .ok (.getfield 306, 3) := by decide +kernel
theorem dX11_back_34 : decode cX11_back 34 = .ok (.putfield 180, 3) := by decide +kernel
theorem dX11_back_37 : decode cX11_back 37 = .ok (.iconst 0, 1) := by decide +kernel
theorem dX11_back_38 : decode cX11_back 38 = .ok (.istore_n 1, 1) := by decide +kernel
theorem dX11_back_39 : decode cX11_back 39 = .ok (.iload_n 1, 1) := by decide +kernel
theorem dX11_back_40 : decode cX11_back 40 = .ok (.aload_n 0, 1) := by decide +kernel
theorem dX11_back_41 : decode cX11_back 41 = .ok (.getfield 309, 3) := by decide +kernel
theorem dX11_back_44 : decode cX11_back 44 = .ok (.if_icmp .ge 18, 3) := by decide +kernel
theorem dX11_back_47 : decode cX11_back 47 = .ok (.aload_n 0, 1) := by decide +kernel
theorem dX11_back_48 : decode cX11_back 48 = .ok (.getfield 11, 3) := by decide +kernel
theorem dX11_back_51 : decode cX11_back 51 = .ok (.iload_n 1, 1) := by decide +kernel
theorem dX11_back_52 : decode cX11_back 52 = .ok (.aaload, 1) := by decide +kernel
theorem dX11_back_53 : decode cX11_back 53 = .ok (.invokevirtual 324, 3) := by decide +kernel
theorem dX11_back_56 : decode cX11_back 56 = .ok (.iinc 1 1, 3) := by decide +kernel
theorem dX11_back_59 : decode cX11_back 59 = .ok (.goto (-20), 3) := by decide +kernel
theorem dX11_back_62 : decode cX11_back 62 = .ok (.iconst 0, 1) := by decide +kernel
theorem dX11_back_63 : decode cX11_back 63 = .ok (.istore_n 1, 1) := by decide +kernel
theorem dX11_back_64 : decode cX11_back 64 = .ok (.iload_n 1, 1) := by decide +kernel
theorem dX11_back_65 : decode cX11_back 65 = .ok (.aload_n 0, 1) := by decide +kernel
theorem dX11_back_66 : decode cX11_back 66 = .ok (.getfield 312, 3) := by decide +kernel
theorem dX11_back_69 : decode cX11_back 69 = .ok (.if_icmp .ge 18, 3) := by decide +kernel
theorem dX11_back_72 : decode cX11_back 72 = .ok (.aload_n 0, 1) := by decide +kernel
theorem dX11_back_73 : decode cX11_back 73 = .ok (.getfield 17, 3) := by decide +kernel
theorem dX11_back_76 : decode cX11_back 76 = .ok (.iload_n 1, 1) := by decide +kernel
theorem dX11_back_77 : decode cX11_back 77 = .ok (.aaload, 1) := by decide +kernel
theorem dX11_back_78 : decode cX11_back 78 = .ok (.invokevirtual 327, 3) := by decide +kernel
theorem dX11_back_81 : decode cX11_back 81 = .ok (.iinc 1 1, 3) := by decide +kernel
theorem dX11_back_84 : decode cX11_back 84 = .ok (.goto (-20), 3) := by decide +kernel
theorem dX11_back_87 : decode cX11_back 87 = .ok (.aload_n 0, 1) := by decide +kernel
theorem dX11_back_88 : decode cX11_back 88 = .ok (.getfield 42, 3) := by decide +kernel
theorem dX11_back_91 : decode cX11_back 91 = .ok (.invokevirtual 328, 3) := by decide +kernel
theorem dX11_back_94 : decode cX11_back 94 = .ok (.aload_n 0, 1) := by decide +kernel
theorem dX11_back_95 : decode cX11_back 95 = .ok (.getfield 110, 3) := by decide +kernel
theorem dX11_back_98 : decode cX11_back 98 = .ok (.ireturn, 1) := by decide +kernel
theorem dX11_count_0 : decode cX11_count 0 = .ok (.iload_n 1, 1) := by decide +kernel
theorem dX11_count_1 : decode cX11_count 1 = .ok (.tableswitch 96 0 7 #[47, 52, 57, 62, 67, 72, 80, 88], 47) := by decide +kernel
theorem dX11_count_48 : decode cX11_count 48 = .ok (.aload_n 0, 1) := by decide +kernel
theorem dX11_count_49 : decode cX11_count 49 = .ok (.getfield 74, 3) := by decide +kernel
theorem dX11_count_52 : decode cX11_count 52 = .ok (.ireturn, 1) := by decide +kernel
theorem dX11_count_53 : decode cX11_count 53 = .ok (.aload_n 0, 1) := by decide +kernel
theorem dX11_count_54 : decode cX11_count 54 = .ok (.getfield 110, 3) := by decide +kernel
theorem dX11_count_57 : decode cX11_count 57 = .ok (.ireturn, 1) := by decide +kernel
theorem dX11_count_58 : decode cX11_count 58 = .ok (.aload_n 0, 1) := by decide +kernel
theorem dX11_count_59 : decode cX11_count 59 = .ok (.invokevirtual 329, 3) := by decide +kernel
theorem dX11_count_62 : decode cX11_count 62 = .ok (.ireturn, 1) := by decide +kernel
theorem dX11_count_63 : decode cX11_count 63 = .ok (.aload_n 0, 1) := by decide +kernel
theorem dX11_count_64 : decode cX11_count 64 = .ok (.invokevirtual 332, 3) := by decide +kernel
theorem dX11_count_67 : decode cX11_count 67 = .ok (.ireturn, 1) := by decide +kernel
theorem dX11_count_68 : decode cX11_count 68 = .ok (.aload_n 0, 1) := by decide +kernel
theorem dX11_count_69 : decode cX11_count 69 = .ok (.invokevirtual 335, 3) := by decide +kernel
theorem dX11_count_72 : decode cX11_count 72 = .ok (.ireturn, 1) := by decide +kernel
theorem dX11_count_73 : decode cX11_count 73 = .ok (.aload_n 0, 1) := by decide +kernel
theorem dX11_count_74 : decode cX11_count 74 = .ok (.getfield 24, 3) := by decide +kernel
theorem dX11_count_77 : decode cX11_count 77 = .ok (.getfield 177, 3) := by decide +kernel
theorem dX11_count_80 : decode cX11_count 80 = .ok (.ireturn, 1) := by decide +kernel
theorem dX11_count_81 : decode cX11_count 81 = .ok (.aload_n 0, 1) := by decide +kernel
theorem dX11_count_82 : decode cX11_count 82 = .ok (.getfield 24, 3) := by decide +kernel
theorem dX11_count_85 : decode cX11_count 85 = .ok (.getfield 338, 3) := by decide +kernel
theorem dX11_count_88 : decode cX11_count 88 = .ok (.ireturn, 1) := by decide +kernel
theorem dX11_count_89 : decode cX11_count 89 = .ok (.aload_n 0, 1) := by decide +kernel
theorem dX11_count_90 : decode cX11_count 90 = .ok (.getfield 24, 3) := by decide +kernel
theorem dX11_count_93 : decode cX11_count 93 = .ok (.getfield 180, 3) := by decide +kernel
theorem dX11_count_96 : decode cX11_count 96 = .ok (.ireturn, 1) := by decide +kernel
theorem dX11_count_97 : decode cX11_count 97 = .ok (.bipush (-2), 2) := by decide +kernel
theorem dX11_count_99 : decode cX11_count 99 = .ok (.ireturn, 1) := by decide +kernel
theorem dX11_openOnes_0 : decode cX11_openOnes 0 = .ok (.iconst 0, 1) := by decide +kernel
theorem dX11_openOnes_1 : decode cX11_openOnes 1 = .ok (.istore_n 1, 1) := by decide +kernel
theorem dX11_openOnes_2 : decode cX11_openOnes 2 = .ok (.iconst 0, 1) := by decide +kernel
theorem dX11_openOnes_3 : decode cX11_openOnes 3 = .ok (.istore_n 2, 1) := by decide +kernel
theorem dX11_openOnes_4 : decode cX11_openOnes 4 = .ok (.iload_n 2, 1) := by decide +kernel
theorem dX11_openOnes_5 : decode cX11_openOnes 5 = .ok (.aload_n 0, 1) := by decide +kernel
theorem dX11_openOnes_6 : decode cX11_openOnes 6 = .ok (.getfield 74, 3) := by decide +kernel
theorem dX11_openOnes_9 : decode cX11_openOnes 9 = .ok (.if_icmp .ge 21, 3) := by decide +kernel
theorem dX11_openOnes_12 : decode cX11_openOnes 12 = .ok (.iload_n 1, 1) := by decide +kernel
theorem dX11_openOnes_13 : decode cX11_openOnes 13 = .ok (.aload_n 0, 1) := by decide +kernel
theorem dX11_openOnes_14 : decode cX11_openOnes 14 = .ok (.getfield 11, 3) := by decide +kernel
theorem dX11_openOnes_17 : decode cX11_openOnes 17 = .ok (.iload_n 2, 1) := by decide +kernel
theorem dX11_openOnes_18 : decode cX11_openOnes 18 = .ok (.aaload, 1) := by decide +kernel
theorem dX11_openOnes_19 : decode cX11_openOnes 19 = .ok (.getfield 339, 3) := by decide +kernel
theorem dX11_openOnes_22 : decode cX11_openOnes 22 = .ok (.iadd, 1) := by decide +kernel
theorem dX11_openOnes_23 : decode cX11_openOnes 23 = .ok (.istore_n 1, 1) := by decide +kernel
theorem dX11_openOnes_24 : decode cX11_openOnes 24 = .ok (.iinc 2 1, 3) := by decide +kernel
theorem dX11_openOnes_27 : decode cX11_openOnes 27 = .ok (.goto (-23), 3) := by decide +kernel
theorem dX11_openOnes_30 : decode cX11_openOnes 30 = .ok (.iload_n 1, 1) := by decide +kernel
theorem dX11_openOnes_31 : decode cX11_openOnes 31 = .ok (.ireturn, 1) := by decide +kernel
theorem dX11_illOnes_0 : decode cX11_illOnes 0 = .ok (.iconst 0, 1) := by decide +kernel
theorem dX11_illOnes_1 : decode cX11_illOnes 1 = .ok (.istore_n 1, 1) := by decide +kernel
theorem dX11_illOnes_2 : decode cX11_illOnes 2 = .ok (.iconst 0, 1) := by decide +kernel
theorem dX11_illOnes_3 : decode cX11_illOnes 3 = .ok (.istore_n 2, 1) := by decide +kernel
theorem dX11_illOnes_4 : decode cX11_illOnes 4 = .ok (.iload_n 2, 1) := by decide +kernel
theorem dX11_illOnes_5 : decode cX11_illOnes 5 = .ok (.aload_n 0, 1) := by decide +kernel
theorem dX11_illOnes_6 : decode cX11_illOnes 6 = .ok (.getfield 110, 3) := by decide +kernel
theorem dX11_illOnes_9 : decode cX11_illOnes 9 = .ok (.if_icmp .ge 21, 3) := by decide +kernel
theorem dX11_illOnes_12 : decode cX11_illOnes 12 = .ok (.iload_n 1, 1) := by decide +kernel
theorem dX11_illOnes_13 : decode cX11_illOnes 13 = .ok (.aload_n 0, 1) := by decide +kernel
theorem dX11_illOnes_14 : decode cX11_illOnes 14 = .ok (.getfield 17, 3) := by decide +kernel
theorem dX11_illOnes_17 : decode cX11_illOnes 17 = .ok (.iload_n 2, 1) := by decide +kernel
theorem dX11_illOnes_18 : decode cX11_illOnes 18 = .ok (.aaload, 1) := by decide +kernel
theorem dX11_illOnes_19 : decode cX11_illOnes 19 = .ok (.getfield 135, 3) := by decide +kernel
theorem dX11_illOnes_22 : decode cX11_illOnes 22 = .ok (.iadd, 1) := by decide +kernel
theorem dX11_illOnes_23 : decode cX11_illOnes 23 = .ok (.istore_n 1, 1) := by decide +kernel
theorem dX11_illOnes_24 : decode cX11_illOnes 24 = .ok (.iinc 2 1, 3) := by decide +kernel
theorem dX11_illOnes_27 : decode cX11_illOnes 27 = .ok (.goto (-23), 3) := by decide +kernel
theorem dX11_illOnes_30 : decode cX11_illOnes 30 = .ok (.iload_n 1, 1) := by decide +kernel
theorem dX11_illOnes_31 : decode cX11_illOnes 31 = .ok (.ireturn, 1) := by decide +kernel
theorem dX11_turnsInAll_0 : decode cX11_turnsInAll 0 = .ok (.iconst 0, 1) := by decide +kernel
theorem dX11_turnsInAll_1 : decode cX11_turnsInAll 1 = .ok (.istore_n 1, 1) := by decide +kernel
theorem dX11_turnsInAll_2 : decode cX11_turnsInAll 2 = .ok (.iconst 0, 1) := by decide +kernel
theorem dX11_turnsInAll_3 : decode cX11_turnsInAll 3 = .ok (.istore_n 2, 1) := by decide +kernel
theorem dX11_turnsInAll_4 : decode cX11_turnsInAll 4 = .ok (.iload_n 2, 1) := by decide +kernel
theorem dX11_turnsInAll_5 : decode cX11_turnsInAll 5 = .ok (.aload_n 0, 1) := by decide +kernel
theorem dX11_turnsInAll_6 : decode cX11_turnsInAll 6 = .ok (.getfield 110, 3) := by decide +kernel
theorem dX11_turnsInAll_9 : decode cX11_turnsInAll 9 = .ok (.if_icmp .ge 21, 3) := by decide +kernel
theorem dX11_turnsInAll_12 : decode cX11_turnsInAll 12 = .ok (.iload_n 1, 1) := by decide +kernel
theorem dX11_turnsInAll_13 : decode cX11_turnsInAll 13 = .ok (.aload_n 0, 1) := by decide +kernel
theorem dX11_turnsInAll_14 : decode cX11_turnsInAll 14 = .ok (.getfield 17, 3) := by decide +kernel
theorem dX11_turnsInAll_17 : decode cX11_turnsInAll 17 = .ok (.iload_n 2, 1) := by decide +kernel
theorem dX11_turnsInAll_18 : decode cX11_turnsInAll 18 = .ok (.aaload, 1) := by decide +kernel
theorem dX11_turnsInAll_19 : decode cX11_turnsInAll 19 = .ok (.getfield 157, 3) := by decide +kernel
theorem dX11_turnsInAll_22 : decode cX11_turnsInAll 22 = .ok (.iadd, 1) := by decide +kernel
theorem dX11_turnsInAll_23 : decode cX11_turnsInAll 23 = .ok (.istore_n 1, 1) := by decide +kernel
theorem dX11_turnsInAll_24 : decode cX11_turnsInAll 24 = .ok (.iinc 2 1, 3) := by decide +kernel
theorem dX11_turnsInAll_27 : decode cX11_turnsInAll 27 = .ok (.goto (-23), 3) := by decide +kernel
theorem dX11_turnsInAll_30 : decode cX11_turnsInAll 30 = .ok (.iload_n 1, 1) := by decide +kernel
theorem dX11_turnsInAll_31 : decode cX11_turnsInAll 31 = .ok (.ireturn, 1) := by decide +kernel
theorem dX11_sheet_0 : decode cX11_sheet 0 = .ok (.aload_n 0, 1) := by decide +kernel
theorem dX11_sheet_1 : decode cX11_sheet 1 = .ok (.iload_n 1, 1) := by decide +kernel
theorem dX11_sheet_2 : decode cX11_sheet 2 = .ok (.invokevirtual 204, 3) := by decide +kernel
theorem dX11_sheet_5 : decode cX11_sheet 5 = .ok (.astore 4, 2) := by decide +kernel
theorem dX11_sheet_7 : decode cX11_sheet 7 = .ok (.aload 4, 2) := by decide +kernel
theorem dX11_sheet_9 : decode cX11_sheet 9 = .ok (.ifnull 23, 3) := by decide +kernel
theorem dX11_sheet_12 : decode cX11_sheet 12 = .ok (.iload_n 2, 1) := by decide +kernel
theorem dX11_sheet_13 : decode cX11_sheet 13 = .ok (.iconst (-1), 1) := by decide +kernel
theorem dX11_sheet_14 : decode cX11_sheet 14 = .ok (.iconst 2, 1) := by decide +kernel
theorem dX11_sheet_15 : decode cX11_sheet 15 = .ok (.invokestatic 66, 3) := by decide +kernel
theorem dX11_sheet_18 : decode cX11_sheet 18 = .ok (.ifCond .eq 14, 3) := by decide +kernel
theorem dX11_sheet_21 : decode cX11_sheet 21 = .ok (.iload_n 2, 1) := by decide +kernel
theorem dX11_sheet_22 : decode cX11_sheet 22 = .ok (.iconst (-1), 1) := by decide +kernel
theorem dX11_sheet_23 : decode cX11_sheet 23 = .ok (.if_icmp .eq 12, 3) := by decide +kernel
theorem dX11_sheet_26 : decode cX11_sheet 26 = .ok (.iload_n 3, 1) := by decide +kernel
theorem dX11_sheet_27 : decode cX11_sheet 27 = .ok (.bipush 40, 2) := by decide +kernel
theorem dX11_sheet_29 : decode cX11_sheet 29 = .ok (.if_icmp .le 6, 3) := by decide +kernel
theorem dX11_sheet_32 : decode cX11_sheet 32 = .ok (.bipush (-2), 2) := by decide +kernel
theorem dX11_sheet_34 : decode cX11_sheet 34 = .ok (.ireturn, 1) := by decide +kernel
theorem dX11_sheet_35 : decode cX11_sheet 35 = .ok (.iload_n 2, 1) := by decide +kernel
theorem dX11_sheet_36 : decode cX11_sheet 36 = .ok (.iconst (-1), 1) := by decide +kernel
theorem dX11_sheet_37 : decode cX11_sheet 37 = .ok (.if_icmp .eq 10, 3) := by decide +kernel
theorem dX11_sheet_40 : decode cX11_sheet 40 = .ok (.iload_n 3, 1) := by decide +kernel
theorem dX11_sheet_41 : decode cX11_sheet 41 = .ok (.ifCond .ge 6, 3) := by decide +kernel
theorem dX11_sheet_44 : decode cX11_sheet 44 = .ok (.bipush (-14), 2) := by decide +kernel
theorem dX11_sheet_46 : decode cX11_sheet 46 = .ok (.ireturn, 1) := by decide +kernel
theorem dX11_sheet_47 : decode cX11_sheet 47 = .ok (.aload 4, 2) := by decide +kernel
theorem dX11_sheet_49 : decode cX11_sheet 49 = .ok (.iload_n 2, 1) := by decide +kernel
theorem dX11_sheet_50 : decode cX11_sheet 50 = .ok (.iload_n 3, 1) := by decide +kernel
theorem dX11_sheet_51 : decode cX11_sheet 51 = .ok (.invokevirtual 342, 3) := by decide +kernel
theorem dX11_sheet_54 : decode cX11_sheet 54 = .ok (.iconst 1, 1) := by decide +kernel
theorem dX11_sheet_55 : decode cX11_sheet 55 = .ok (.ireturn, 1) := by decide +kernel
theorem dX11_cell_0 : decode cX11_cell 0 = .ok (.aload_n 0, 1) := by decide +kernel
theorem dX11_cell_1 : decode cX11_cell 1 = .ok (.iload_n 1, 1) := by decide +kernel
theorem dX11_cell_2 : decode cX11_cell 2 = .ok (.invokevirtual 204, 3) := by decide +kernel
theorem dX11_cell_5 : decode cX11_cell 5 = .ok (.astore 4, 2) := by decide +kernel
theorem dX11_cell_7 : decode cX11_cell 7 = .ok (.aload 4, 2) := by decide +kernel
theorem dX11_cell_9 : decode cX11_cell 9 = .ok (.ifnonnull 6, 3) := by decide +kernel
theorem dX11_cell_12 : decode cX11_cell 12 = .ok (.bipush (-2), 2) := by decide +kernel
theorem dX11_cell_14 : decode cX11_cell 14 = .ok (.ireturn, 1) := by decide +kernel
theorem dX11_cell_15 : decode cX11_cell 15 = .ok (.aload 4, 2) := by decide +kernel
theorem dX11_cell_17 : decode cX11_cell 17 = .ok (.invokevirtual 208, 3) := by decide +kernel
theorem dX11_cell_20 : decode cX11_cell 20 = .ok (.ifCond .eq 6, 3) := by decide +kernel
theorem dX11_cell_23 : decode cX11_cell 23 = .ok (.bipush (-11), 2) := by decide +kernel
theorem dX11_cell_25 : decode cX11_cell 25 = .ok (.ireturn, 1) := by decide +kernel
theorem dX11_cell_26 : decode cX11_cell 26 = .ok (.aload 4, 2) := by decide +kernel
theorem dX11_cell_28 : decode cX11_cell 28 = .ok (.iload_n 2, 1) := by decide +kernel
theorem dX11_cell_29 : decode cX11_cell 29 = .ok (.iload_n 3, 1) := by decide +kernel
theorem dX11_cell_30 : decode cX11_cell 30 = .ok (.invokevirtual 344, 3) := by decide +kernel
theorem dX11_cell_33 : decode cX11_cell 33 = .ok (.ifCond .eq 7, 3) := by decide +kernel
theorem dX11_cell_36 : decode cX11_cell 36 = .ok (.iconst 1, 1) := by decide +kernel
theorem dX11_cell_37 : decode cX11_cell 37 = .ok (.goto 5, 3) := by decide +kernel
theorem dX11_cell_40 : decode cX11_cell 40 = .ok (.bipush (-12), 2) := by decide +kernel
theorem dX11_cell_42 : decode cX11_cell 42 = .ok (.ireturn, 1) := by decide +kernel
theorem dX11_copy_0 : decode cX11_copy 0 = .ok (.aload_n 0, 1) := by decide +kernel
theorem dX11_copy_1 : decode cX11_copy 1 = .ok (.iload_n 1, 1) := by decide +kernel
theorem dX11_copy_2 : decode cX11_copy 2 = .ok (.invokevirtual 204, 3) := by decide +kernel
theorem dX11_copy_5 : decode cX11_copy 5 = .ok (.astore 6, 2) := by decide +kernel
theorem dX11_copy_7 : decode cX11_copy 7 = .ok (.aload_n 0, 1) := by decide +kernel
theorem dX11_copy_8 : decode cX11_copy 8 = .ok (.iload_n 3, 1) := by decide +kernel
theorem dX11_copy_9 : decode cX11_copy 9 = .ok (.invokevirtual 204, 3) := by decide +kernel
theorem dX11_copy_12 : decode cX11_copy 12 = .ok (.astore 7, 2) := by decide +kernel
theorem dX11_copy_14 : decode cX11_copy 14 = .ok (.aload 6, 2) := by decide +kernel
theorem dX11_copy_16 : decode cX11_copy 16 = .ok (.ifnull 8, 3) := by decide +kernel
theorem dX11_copy_19 : decode cX11_copy 19 = .ok (.aload 7, 2) := by decide +kernel
theorem dX11_copy_21 : decode cX11_copy 21 = .ok (.ifnonnull 6, 3) := by decide +kernel
theorem dX11_copy_24 : decode cX11_copy 24 = .ok (.bipush (-2), 2) := by decide +kernel
theorem dX11_copy_26 : decode cX11_copy 26 = .ok (.ireturn, 1) := by decide +kernel
theorem dX11_copy_27 : decode cX11_copy 27 = .ok (.aload 6, 2) := by decide +kernel
theorem dX11_copy_29 : decode cX11_copy 29 = .ok (.invokevirtual 208, 3) := by decide +kernel
theorem dX11_copy_32 : decode cX11_copy 32 = .ok (.ifCond .ne 11, 3) := by decide +kernel
theorem dX11_copy_35 : decode cX11_copy 35 = .ok (.aload 7, 2) := by decide +kernel
theorem dX11_copy_37 : decode cX11_copy 37 = .ok (.invokevirtual 208, 3) := by decide +kernel
theorem dX11_copy_40 : decode cX11_copy 40 = .ok (.ifCond .eq 6, 3) := by decide +kernel
theorem dX11_copy_43 : decode cX11_copy 43 = .ok (.bipush (-11), 2) := by decide +kernel
theorem dX11_copy_45 : decode cX11_copy 45 = .ok (.ireturn, 1) := by decide +kernel
theorem dX11_copy_46 : decode cX11_copy 46 = .ok (.aload 6, 2) := by decide +kernel
theorem dX11_copy_48 : decode cX11_copy 48 = .ok (.getfield 348, 3) := by decide +kernel
theorem dX11_copy_51 : decode cX11_copy 51 = .ok (.aload 7, 2) := by decide +kernel
theorem dX11_copy_53 : decode cX11_copy 53 = .ok (.getfield 348, 3) := by decide +kernel
theorem dX11_copy_56 : decode cX11_copy 56 = .ok (.if_icmp .eq 6, 3) := by decide +kernel
theorem dX11_copy_59 : decode cX11_copy 59 = .ok (.bipush (-13), 2) := by decide +kernel
theorem dX11_copy_61 : decode cX11_copy 61 = .ok (.ireturn, 1) := by decide +kernel
theorem dX11_copy_62 : decode cX11_copy 62 = .ok (.aload 6, 2) := by decide +kernel
theorem dX11_copy_64 : decode cX11_copy 64 = .ok (.iload_n 2, 1) := by decide +kernel
theorem dX11_copy_65 : decode cX11_copy 65 = .ok (.iload 5, 2) := by decide +kernel
theorem dX11_copy_67 : decode cX11_copy 67 = .ok (.invokevirtual 351, 3) := by decide +kernel
theorem dX11_copy_70 : decode cX11_copy 70 = .ok (.ifCond .eq 15, 3) := by decide +kernel
theorem dX11_copy_73 : decode cX11_copy 73 = .ok (.aload 7, 2) := by decide +kernel
theorem dX11_copy_75 : decode cX11_copy 75 = .ok (.iload 4, 2) := by decide +kernel
theorem dX11_copy_77 : decode cX11_copy 77 = .ok (.iload 5, 2) := by decide +kernel
theorem dX11_copy_79 : decode cX11_copy 79 = .ok (.invokevirtual 351, 3) := by decide +kernel
theorem dX11_copy_82 : decode cX11_copy 82 = .ok (.ifCond .ne 6, 3) := by decide +kernel
theorem dX11_copy_85 : decode cX11_copy 85 = .ok (.bipush (-12), 2) := by decide +kernel
theorem dX11_copy_87 : decode cX11_copy 87 = .ok (.ireturn, 1) := by decide +kernel
theorem dX11_copy_88 : decode cX11_copy 88 = .ok (.aload 6, 2) := by decide +kernel
theorem dX11_copy_90 : decode cX11_copy 90 = .ok (.getfield 354, 3) := by decide +kernel
theorem dX11_copy_93 : decode cX11_copy 93 = .ok (.iload_n 2, 1) := by decide +kernel
theorem dX11_copy_94 : decode cX11_copy 94 = .ok (.aload 7, 2) := by decide +kernel
theorem dX11_copy_96 : decode cX11_copy 96 = .ok (.getfield 354, 3) := by decide +kernel
theorem dX11_copy_99 : decode cX11_copy 99 = .ok (.iload 4, 2) := by decide +kernel
theorem dX11_copy_101 : decode cX11_copy 101 = .ok (.iload 5, 2) := by decide +kernel
theorem dX11_copy_103 : decode cX11_copy 103 = .ok (.invokestatic 357, 3) := by decide +kernel
theorem dX11_copy_106 : decode cX11_copy 106 = .ok (.iload 5, 2) := by decide +kernel
theorem dX11_copy_108 : decode cX11_copy 108 = .ok (.ireturn, 1) := by decide +kernel
theorem dX11_rowers_0 : decode cX11_rowers 0 = .ok (.aload_n 0, 1) := by decide +kernel
theorem dX11_rowers_1 : decode cX11_rowers 1 = .ok (.iload_n 1, 1) := by decide +kernel
theorem dX11_rowers_2 : decode cX11_rowers 2 = .ok (.invokevirtual 204, 3) := by decide +kernel
theorem dX11_rowers_5 : decode cX11_rowers 5 = .ok (.astore 5, 2) := by decide +kernel
theorem dX11_rowers_7 : decode cX11_rowers 7 = .ok (.aload 5, 2) := by decide +kernel
theorem dX11_rowers_9 : decode cX11_rowers 9 = .ok (.ifnull 23, 3) := by decide +kernel
theorem dX11_rowers_12 : decode cX11_rowers 12 = .ok (.iload_n 2, 1) := by decide +kernel
theorem dX11_rowers_13 : decode cX11_rowers 13 = .ok (.iconst 0, 1) := by decide +kernel
theorem dX11_rowers_14 : decode cX11_rowers 14 = .ok (.iconst 2, 1) := by decide +kernel
theorem dX11_rowers_15 : decode cX11_rowers 15 = .ok (.invokestatic 66, 3) := by decide +kernel
theorem dX11_rowers_18 : decode cX11_rowers 18 = .ok (.ifCond .eq 14, 3) := by decide +kernel
theorem dX11_rowers_21 : decode cX11_rowers 21 = .ok (.iload 4, 2) := by decide +kernel
theorem dX11_rowers_23 : decode cX11_rowers 23 = .ok (.iconst 0, 1) := by decide +kernel
theorem dX11_rowers_24 : decode cX11_rowers 24 = .ok (.bipush 12, 2) := by decide +kernel
theorem dX11_rowers_26 : decode cX11_rowers 26 = .ok (.invokestatic 66, 3) := by decide +kernel
theorem dX11_rowers_29 : decode cX11_rowers 29 = .ok (.ifCond .ne 6, 3) := by decide +kernel
theorem dX11_rowers_32 : decode cX11_rowers 32 = .ok (.bipush (-2), 2) := by decide +kernel
theorem dX11_rowers_34 : decode cX11_rowers 34 = .ok (.ireturn, 1) := by decide +kernel
theorem dX11_rowers_35 : decode cX11_rowers 35 = .ok (.aload 5, 2) := by decide +kernel
theorem dX11_rowers_37 : decode cX11_rowers 37 = .ok (.invokevirtual 208, 3) := by decide +kernel
theorem dX11_rowers_40 : decode cX11_rowers 40 = .ok (.ifCond .eq 6, 3) := by decide +kernel
theorem dX11_rowers_43 : decode cX11_rowers 43 = .ok (.bipush (-11), 2) := by decide +kernel
theorem dX11_rowers_45 : decode cX11_rowers 45 = .ok (.ireturn, 1) := by decide +kernel
theorem dX11_rowers_46 : decode cX11_rowers 46 = .ok (.aload 5, 2) := by decide +kernel
theorem dX11_rowers_48 : decode cX11_rowers 48 = .ok (.getfield 348, 3) := by decide +kernel
theorem dX11_rowers_51 : decode cX11_rowers 51 = .ok (.iload_n 2, 1) := by decide +kernel
theorem dX11_rowers_52 : decode cX11_rowers 52 = .ok (.if_icmp .eq 6, 3) := by decide +kernel
theorem dX11_rowers_55 : decode cX11_rowers 55 = .ok (.bipush (-13), 2) := by decide +kernel
theorem dX11_rowers_57 : decode cX11_rowers 57 = .ok (.ireturn, 1) := by decide +kernel
theorem dX11_rowers_58 : decode cX11_rowers 58 = .ok (.iconst 0, 1) := by decide +kernel
theorem dX11_rowers_59 : decode cX11_rowers 59 = .ok (.istore 6, 2) := by decide +kernel
theorem dX11_rowers_61 : decode cX11_rowers 61 = .ok (.iconst 0, 1) := by decide +kernel
theorem dX11_rowers_62 : decode cX11_rowers 62 = .ok (.istore 7, 2) := by decide +kernel
theorem dX11_rowers_64 : decode cX11_rowers 64 = .ok (.iload 7, 2) := by decide +kernel
theorem dX11_rowers_66 : decode cX11_rowers 66 = .ok (.iload 4, 2) := by decide +kernel
theorem dX11_rowers_68 : decode cX11_rowers 68 = .ok (.if_icmp .ge 73, 3) := by decide +kernel
theorem dX11_rowers_71 : decode cX11_rowers 71 = .ok (.iload_n 3, 1) := by decide +kernel
theorem dX11_rowers_72 : decode cX11_rowers 72 = .ok (.iconst 3, 1) := by decide +kernel
theorem dX11_rowers_73 : decode cX11_rowers 73 = .ok (.iload 7, 2) := by decide +kernel
theorem dX11_rowers_75 : decode cX11_rowers 75 = .ok (.imul, 1) := by decide +kernel
theorem dX11_rowers_76 : decode cX11_rowers 76 = .ok (.iadd, 1) := by decide +kernel
theorem dX11_rowers_77 : decode cX11_rowers 77 = .ok (.istore 8, 2) := by decide +kernel
theorem dX11_rowers_79 : decode cX11_rowers 79 = .ok (.aload 5, 2) := by decide +kernel
theorem dX11_rowers_81 : decode cX11_rowers 81 = .ok (.iload 8, 2) := by decide +kernel
theorem dX11_rowers_83 : decode cX11_rowers 83 = .ok (.iconst 3, 1) := by decide +kernel
theorem dX11_rowers_84 : decode cX11_rowers 84 = .ok (.invokevirtual 351, 3) := by decide +kernel
theorem dX11_rowers_87 : decode cX11_rowers 87 = .ok (.ifCond .ne 6, 3) := by decide +kernel
theorem dX11_rowers_90 : decode cX11_rowers 90 = .ok (.bipush (-12), 2) := by decide +kernel
theorem dX11_rowers_92 : decode cX11_rowers 92 = .ok (.ireturn, 1) := by decide +kernel
theorem dX11_rowers_93 : decode cX11_rowers 93 = .ok (.iload 6, 2) := by decide +kernel
theorem dX11_rowers_95 : decode cX11_rowers 95 = .ok (.aload_n 0, 1) := by decide +kernel
theorem dX11_rowers_96 : decode cX11_rowers 96 = .ok (.aload 5, 2) := by decide +kernel
theorem dX11_rowers_98 : decode cX11_rowers 98 = .ok (.iload 8, 2) := by decide +kernel
theorem dX11_rowers_100 : decode cX11_rowers 100 = .ok (.invokevirtual 244, 3) := by decide +kernel
theorem dX11_rowers_103 : decode cX11_rowers 103 = .ok (.aload 5, 2) := by decide +kernel
theorem dX11_rowers_105 : decode cX11_rowers 105 = .ok (.iload 8, 2) := by decide +kernel
theorem dX11_rowers_107 : decode cX11_rowers 107 = .ok (.iconst 1, 1) := by decide +kernel
theorem dX11_rowers_108 : decode cX11_rowers 108 = .ok (.iadd, 1) := by decide +kernel
theorem dX11_rowers_109 : decode cX11_rowers 109 = .ok (.invokevirtual 244, 3) := by decide +kernel
theorem dX11_rowers_112 : decode cX11_rowers 112 = .ok (.aload 5, 2) := by decide +kernel
theorem dX11_rowers_114 : decode cX11_rowers 114 = .ok (.iload 8, 2) := by decide +kernel
theorem dX11_rowers_116 : decode cX11_rowers 116 = .ok (.iconst 2, 1) := by decide +kernel
theorem dX11_rowers_117 : decode cX11_rowers 117 = .ok (.iadd, 1) := by decide +kernel
theorem dX11_rowers_118 : decode cX11_rowers 118 = .ok (.invokevirtual 244, 3) := by decide +kernel
theorem dX11_rowers_121 : decode cX11_rowers 121 = .ok (.invokevirtual 363, 3) := by decide +kernel
theorem dX11_rowers_124 : decode cX11_rowers 124 = .ok (.ifCond .lt 7, 3) := by decide +kernel
theorem dX11_rowers_127 : decode cX11_rowers 127 = .ok (.iconst 1, 1) := by decide +kernel
theorem dX11_rowers_128 : decode cX11_rowers 128 = .ok (.goto 4, 3) := by decide +kernel
theorem dX11_rowers_131 : decode cX11_rowers 131 = .ok (.iconst 0, 1) := by decide +kernel
theorem dX11_rowers_132 : decode cX11_rowers 132 = .ok (.iadd, 1) := by decide +kernel
theorem dX11_rowers_133 : decode cX11_rowers 133 = .ok (.istore 6, 2) := by decide +kernel
theorem dX11_rowers_135 : decode cX11_rowers 135 = .ok (.iinc 7 1, 3) := by decide +kernel
theorem dX11_rowers_138 : decode cX11_rowers 138 = .ok (.goto (-74), 3) := by decide +kernel
theorem dX11_rowers_141 : decode cX11_rowers 141 = .ok (.iload 6, 2) := by decide +kernel
theorem dX11_rowers_143 : decode cX11_rowers 143 = .ok (.ireturn, 1) := by decide +kernel
theorem dX11_taken_0 : decode cX11_taken 0 = .ok (.iload_n 2, 1) := by decide +kernel
theorem dX11_taken_1 : decode cX11_taken 1 = .ok (.iconst 0, 1) := by decide +kernel
theorem dX11_taken_2 : decode cX11_taken 2 = .ok (.iconst 5, 1) := by decide +kernel
theorem dX11_taken_3 : decode cX11_taken 3 = .ok (.invokestatic 66, 3) := by decide +kernel
theorem dX11_taken_6 : decode cX11_taken 6 = .ok (.ifCond .ne 6, 3) := by decide +kernel
theorem dX11_taken_9 : decode cX11_taken 9 = .ok (.bipush (-2), 2) := by decide +kernel
theorem dX11_taken_11 : decode cX11_taken 11 = .ok (.ireturn, 1) := by decide +kernel
theorem dX11_taken_12 : decode cX11_taken 12 = .ok (.aload_n 0, 1) := by decide +kernel
theorem dX11_taken_13 : decode cX11_taken 13 = .ok (.iload_n 1, 1) := by decide +kernel
theorem dX11_taken_14 : decode cX11_taken 14 = .ok (.invokevirtual 106, 3) := by decide +kernel
theorem dX11_taken_17 : decode cX11_taken 17 = .ok (.astore_n 3, 1) := by decide +kernel
theorem dX11_taken_18 : decode cX11_taken 18 = .ok (.aload_n 3, 1) := by decide +kernel
theorem dX11_taken_19 : decode cX11_taken 19 = .ok (.ifnonnull 6, 3) := by decide +kernel
theorem dX11_taken_22 : decode cX11_taken 22 = .ok (.bipush (-11), 2) := by decide +kernel
theorem dX11_taken_24 : decode cX11_taken 24 = .ok (.ireturn, 1) := by decide +kernel
theorem dX11_taken_25 : decode cX11_taken 25 = .ok (.aload_n 3, 1) := by decide +kernel
theorem dX11_taken_26 : decode cX11_taken 26 = .ok (.iload_n 2, 1) := by decide +kernel
theorem dX11_taken_27 : decode cX11_taken 27 = .ok (.invokestatic 367, 3) := by decide +kernel
theorem dX11_taken_30 : decode cX11_taken 30 = .ok (.ifCond .eq 10, 3) := by decide +kernel
theorem dX11_taken_33 : decode cX11_taken 33 = .ok (.aload_n 3, 1) := by decide +kernel
theorem dX11_taken_34 : decode cX11_taken 34 = .ok (.getfield 148, 3) := by decide +kernel
theorem dX11_taken_37 : decode cX11_taken 37 = .ok (.goto 5, 3) := by decide +kernel
theorem dX11_taken_40 : decode cX11_taken 40 = .ok (.bipush (-13), 2) := by decide +kernel
theorem dX11_taken_42 : decode cX11_taken 42 = .ok (.ireturn, 1) := by decide +kernel
theorem dX11_isUnder_0 : decode cX11_isUnder 0 = .ok (.iload_n 1, 1) := by decide +kernel
theorem dX11_isUnder_1 : decode cX11_isUnder 1 = .ok (.tableswitch 66 0 5 #[39, 41, 46, 51, 56, 61], 39) := by decide +kernel
theorem dX11_isUnder_40 : decode cX11_isUnder 40 = .ok (.iconst 1, 1) := by decide +kernel
theorem dX11_isUnder_41 : decode cX11_isUnder 41 = .ok (.ireturn, 1) := by decide +kernel
theorem dX11_isUnder_42 : decode cX11_isUnder 42 = .ok (.aload_n 0, 1) := by decide +kernel
theorem dX11_isUnder_43 : decode cX11_isUnder 43 = .ok (.instanceof 117, 3) := by decide +kernel
theorem dX11_isUnder_46 : decode cX11_isUnder 46 = .ok (.ireturn, 1) := by decide +kernel
theorem dX11_isUnder_47 : decode cX11_isUnder 47 = .ok (.aload_n 0, 1) := by decide +kernel
theorem dX11_isUnder_48 : decode cX11_isUnder 48 = .ok (.instanceof 122, 3) := by decide +kernel
theorem dX11_isUnder_51 : decode cX11_isUnder 51 = .ok (.ireturn, 1) := by decide +kernel
theorem dX11_isUnder_52 : decode cX11_isUnder 52 = .ok (.aload_n 0, 1) := by decide +kernel
theorem dX11_isUnder_53 : decode cX11_isUnder 53 = .ok (.instanceof 125, 3) := by decide +kernel
theorem dX11_isUnder_56 : decode cX11_isUnder 56 = .ok (.ireturn, 1) := by decide +kernel
theorem dX11_isUnder_57 : decode cX11_isUnder 57 = .ok (.aload_n 0, 1) := by decide +kernel
theorem dX11_isUnder_58 : decode cX11_isUnder 58 = .ok (.instanceof 128, 3) := by decide +kernel
theorem dX11_isUnder_61 : decode cX11_isUnder 61 = .ok (.ireturn, 1) := by decide +kernel
theorem dX11_isUnder_62 : decode cX11_isUnder 62 = .ok (.aload_n 0, 1) := by decide +kernel
theorem dX11_isUnder_63 : decode cX11_isUnder 63 = .ok (.instanceof 131, 3) := by decide +kernel
theorem dX11_isUnder_66 : decode cX11_isUnder 66 = .ok (.ireturn, 1) := by decide +kernel
theorem dX11_isUnder_67 : decode cX11_isUnder 67 = .ok (.iconst 0, 1) := by decide +kernel
theorem dX11_isUnder_68 : decode cX11_isUnder 68 = .ok (.ireturn, 1) := by decide +kernel
theorem dX11_within_0 : decode cX11_within 0 = .ok (.iload_n 0, 1) := by decide +kernel
theorem dX11_within_1 : decode cX11_within 1 = .ok (.iload_n 1, 1) := by decide +kernel
theorem dX11_within_2 : decode cX11_within 2 = .ok (.if_icmp .lt 12, 3) := by decide +kernel
theorem dX11_within_5 : decode cX11_within 5 = .ok (.iload_n 0, 1) := by decide +kernel
theorem dX11_within_6 : decode cX11_within 6 = .ok (.iload_n 2, 1) := by decide +kernel
theorem dX11_within_7 : decode cX11_within 7 = .ok (.if_icmp .gt 7, 3) := by decide +kernel
theorem dX11_within_10 : decode cX11_within 10 = .ok (.iconst 1, 1) := by decide +kernel
theorem dX11_within_11 : decode cX11_within 11 = .ok (.goto 4, 3) := by decide +kernel
theorem dX11_within_14 : decode cX11_within 14 = .ok (.iconst 0, 1) := by decide +kernel
theorem dX11_within_15 : decode cX11_within 15 = .ok (.ireturn, 1) := by decide +kernel
theorem dX11_isHour_0 : decode cX11_isHour 0 = .ok (.iload_n 0, 1) := by decide +kernel
theorem dX11_isHour_1 : decode cX11_isHour 1 = .ok (.iconst 0, 1) := by decide +kernel
theorem dX11_isHour_2 : decode cX11_isHour 2 = .ok (.bipush 23, 2) := by decide +kernel
theorem dX11_isHour_4 : decode cX11_isHour 4 = .ok (.invokestatic 66, 3) := by decide +kernel
theorem dX11_isHour_7 : decode cX11_isHour 7 = .ok (.ireturn, 1) := by decide +kernel
theorem dX11_crossingAt_0 : decode cX11_crossingAt 0 = .ok (.lload_n 1, 1) := by decide +kernel
theorem dX11_crossingAt_1 : decode cX11_crossingAt 1 = .ok (.lconst 0, 1) := by decide +kernel
theorem dX11_crossingAt_2 : decode cX11_crossingAt 2 = .ok (.lcmp, 1) := by decide +kernel
theorem dX11_crossingAt_3 : decode cX11_crossingAt 3 = .ok (.ifCond .lt 23, 3) := by decide +kernel
theorem dX11_crossingAt_6 : decode cX11_crossingAt 6 = .ok (.lload_n 1, 1) := by decide +kernel
theorem dX11_crossingAt_7 : decode cX11_crossingAt 7 = .ok (.aload_n 0, 1) := by decide +kernel
theorem dX11_crossingAt_8 : decode cX11_crossingAt 8 = .ok (.getfield 74, 3) := by decide +kernel
theorem dX11_crossingAt_11 : decode cX11_crossingAt 11 = .ok (.i2l, 1) := by decide +kernel
theorem dX11_crossingAt_12 : decode cX11_crossingAt 12 = .ok (.lcmp, 1) := by decide +kernel
theorem dX11_crossingAt_13 : decode cX11_crossingAt 13 = .ok (.ifCond .ge 13, 3) := by decide +kernel
theorem dX11_crossingAt_16 : decode cX11_crossingAt 16 = .ok (.aload_n 0, 1) := by decide +kernel
theorem dX11_crossingAt_17 : decode cX11_crossingAt 17 = .ok (.getfield 11, 3) := by decide +kernel
theorem dX11_crossingAt_20 : decode cX11_crossingAt 20 = .ok (.lload_n 1, 1) := by decide +kernel
theorem dX11_crossingAt_21 : decode cX11_crossingAt 21 = .ok (.l2i, 1) := by decide +kernel
theorem dX11_crossingAt_22 : decode cX11_crossingAt 22 = .ok (.aaload, 1) := by decide +kernel
theorem dX11_crossingAt_23 : decode cX11_crossingAt 23 = .ok (.goto 4, 3) := by decide +kernel
theorem dX11_crossingAt_26 : decode cX11_crossingAt 26 = .ok (.aconst_null, 1) := by decide +kernel
theorem dX11_crossingAt_27 : decode cX11_crossingAt 27 = .ok (.areturn, 1) := by decide +kernel
theorem dX11_rowerAt_0 : decode cX11_rowerAt 0 = .ok (.iload_n 1, 1) := by decide +kernel
theorem dX11_rowerAt_1 : decode cX11_rowerAt 1 = .ok (.ifCond .lt 20, 3) := by decide +kernel
theorem dX11_rowerAt_4 : decode cX11_rowerAt 4 = .ok (.iload_n 1, 1) := by decide +kernel
theorem dX11_rowerAt_5 : decode cX11_rowerAt 5 = .ok (.aload_n 0, 1) := by decide +kernel
theorem dX11_rowerAt_6 : decode cX11_rowerAt 6 = .ok (.getfield 110, 3) := by decide +kernel
theorem dX11_rowerAt_9 : decode cX11_rowerAt 9 = .ok (.if_icmp .ge 12, 3) := by decide +kernel
theorem dX11_rowerAt_12 : decode cX11_rowerAt 12 = .ok (.aload_n 0, 1) := by decide +kernel
theorem dX11_rowerAt_13 : decode cX11_rowerAt 13 = .ok (.getfield 17, 3) := by decide +kernel
theorem dX11_rowerAt_16 : decode cX11_rowerAt 16 = .ok (.iload_n 1, 1) := by decide +kernel
theorem dX11_rowerAt_17 : decode cX11_rowerAt 17 = .ok (.aaload, 1) := by decide +kernel
theorem dX11_rowerAt_18 : decode cX11_rowerAt 18 = .ok (.goto 4, 3) := by decide +kernel
theorem dX11_rowerAt_21 : decode cX11_rowerAt 21 = .ok (.aconst_null, 1) := by decide +kernel
theorem dX11_rowerAt_22 : decode cX11_rowerAt 22 = .ok (.areturn, 1) := by decide +kernel
theorem dX11_oneOf_0 : decode cX11_oneOf 0 = .ok (.iload_n 1, 1) := by decide +kernel
theorem dX11_oneOf_1 : decode cX11_oneOf 1 = .ok (.ifCond .ge 7, 3) := by decide +kernel
theorem dX11_oneOf_4 : decode cX11_oneOf 4 = .ok (.aconst_null, 1) := by decide +kernel
theorem dX11_oneOf_5 : decode cX11_oneOf 5 = .ok (.goto 11, 3) := by decide +kernel
theorem dX11_oneOf_8 : decode cX11_oneOf 8 = .ok (.aload_n 0, 1) := by decide +kernel
theorem dX11_oneOf_9 : decode cX11_oneOf 9 = .ok (.iload_n 1, 1) := by decide +kernel
theorem dX11_oneOf_10 : decode cX11_oneOf 10 = .ok (.bipush 20, 2) := by decide +kernel
theorem dX11_oneOf_12 : decode cX11_oneOf 12 = .ok (.idiv, 1) := by decide +kernel
theorem dX11_oneOf_13 : decode cX11_oneOf 13 = .ok (.invokevirtual 106, 3) := by decide +kernel
theorem dX11_oneOf_16 : decode cX11_oneOf 16 = .ok (.areturn, 1) := by decide +kernel
theorem dX11_otherOf_0 : decode cX11_otherOf 0 = .ok (.iload_n 1, 1) := by decide +kernel
theorem dX11_otherOf_1 : decode cX11_otherOf 1 = .ok (.ifCond .ge 7, 3) := by decide +kernel
theorem dX11_otherOf_4 : decode cX11_otherOf 4 = .ok (.aconst_null, 1) := by decide +kernel
theorem dX11_otherOf_5 : decode cX11_otherOf 5 = .ok (.goto 11, 3) := by decide +kernel
theorem dX11_otherOf_8 : decode cX11_otherOf 8 = .ok (.aload_n 0, 1) := by decide +kernel
theorem dX11_otherOf_9 : decode cX11_otherOf 9 = .ok (.iload_n 1, 1) := by decide +kernel
theorem dX11_otherOf_10 : decode cX11_otherOf 10 = .ok (.bipush 20, 2) := by decide +kernel
theorem dX11_otherOf_12 : decode cX11_otherOf 12 = .ok (.irem, 1) := by decide +kernel
theorem dX11_otherOf_13 : decode cX11_otherOf 13 = .ok (.invokevirtual 106, 3) := by decide +kernel
theorem dX11_otherOf_16 : decode cX11_otherOf 16 = .ok (.areturn, 1) := by decide +kernel
theorem dX11_sheetAt_0 : decode cX11_sheetAt 0 = .ok (.iload_n 1, 1) := by decide +kernel
theorem dX11_sheetAt_1 : decode cX11_sheetAt 1 = .ok (.ifCond .lt 17, 3) := by decide +kernel
theorem dX11_sheetAt_4 : decode cX11_sheetAt 4 = .ok (.iload_n 1, 1) := by decide +kernel
theorem dX11_sheetAt_5 : decode cX11_sheetAt 5 = .ok (.iconst 4, 1) := by decide +kernel
theorem dX11_sheetAt_6 : decode cX11_sheetAt 6 = .ok (.if_icmp .ge 12, 3) := by decide +kernel
theorem dX11_sheetAt_9 : decode cX11_sheetAt 9 = .ok (.aload_n 0, 1) := by decide +kernel
theorem dX11_sheetAt_10 : decode cX11_sheetAt 10 = .ok (.getfield 48, 3) := by decide +kernel
theorem dX11_sheetAt_13 : decode cX11_sheetAt 13 = .ok (.iload_n 1, 1) := by decide +kernel
theorem dX11_sheetAt_14 : decode cX11_sheetAt 14 = .ok (.aaload, 1) := by decide +kernel
theorem dX11_sheetAt_15 : decode cX11_sheetAt 15 = .ok (.goto 4, 3) := by decide +kernel
theorem dX11_sheetAt_18 : decode cX11_sheetAt 18 = .ok (.aconst_null, 1) := by decide +kernel
theorem dX11_sheetAt_19 : decode cX11_sheetAt 19 = .ok (.areturn, 1) := by decide +kernel
end
section
theorem dX12_in_0 : decode cX12_in 0 = .ok (.lload_n 0, 1) := by decide +kernel
theorem dX12_in_1 : decode cX12_in 1 = .ok (.lload_n 2, 1) := by decide +kernel
theorem dX12_in_2 : decode cX12_in 2 = .ok (.lcmp, 1) := by decide +kernel
theorem dX12_in_3 : decode cX12_in 3 = .ok (.ifCond .lt 14, 3) := by decide +kernel
theorem dX12_in_6 : decode cX12_in 6 = .ok (.lload_n 0, 1) := by decide +kernel
theorem dX12_in_7 : decode cX12_in 7 = .ok (.lload 4, 2) := by decide +kernel
theorem dX12_in_9 : decode cX12_in 9 = .ok (.lcmp, 1) := by decide +kernel
theorem dX12_in_10 : decode cX12_in 10 = .ok (.ifCond .gt 7, 3) := by decide +kernel
theorem dX12_in_13 : decode cX12_in 13 = .ok (.iconst 1, 1) := by decide +kernel
theorem dX12_in_14 : decode cX12_in 14 = .ok (.goto 4, 3) := by decide +kernel
theorem dX12_in_17 : decode cX12_in 17 = .ok (.iconst 0, 1) := by decide +kernel
theorem dX12_in_18 : decode cX12_in 18 = .ok (.ireturn, 1) := by decide +kernel
theorem dX12_init_0 : decode cX12_init 0 = .ok (.aload_n 0, 1) := by decide +kernel
theorem dX12_init_1 : decode cX12_init 1 = .ok (.invokespecial 7, 3) := by decide +kernel
theorem dX12_init_4 : decode cX12_init 4 = .ok (.aload_n 0, 1) := by decide +kernel
theorem dX12_init_5 : decode cX12_init 5 = .ok (.sipush 960, 3) := by decide +kernel
theorem dX12_init_8 : decode cX12_init 8 = .ok (.newarray .int, 2) := by decide +kernel
theorem dX12_init_10 : decode cX12_init 10 = .ok (.putfield 13, 3) := by decide +kernel
theorem dX12_init_13 : decode cX12_init 13 = .ok (.aload_n 0, 1) := by decide +kernel
theorem dX12_init_14 : decode cX12_init 14 = .ok (.bipush 6, 2) := by decide +kernel
theorem dX12_init_16 : decode cX12_init 16 = .ok (.newarray .int, 2) := by decide +kernel
theorem dX12_init_18 : decode cX12_init 18 = .ok (.putfield 17, 3) := by decide +kernel
theorem dX12_init_21 : decode cX12_init 21 = .ok (.aload_n 0, 1) := by decide +kernel
theorem dX12_init_22 : decode cX12_init 22 = .ok (.sipush 160, 3) := by decide +kernel
theorem dX12_init_25 : decode cX12_init 25 = .ok (.newarray .int, 2) := by decide +kernel
theorem dX12_init_27 : decode cX12_init 27 = .ok (.putfield 20, 3) := by decide +kernel
theorem dX12_init_30 : decode cX12_init 30 = .ok (.aload_n 0, 1) := by decide +kernel
theorem dX12_init_31 : decode cX12_init 31 = .ok (.bipush 7, 2) := by decide +kernel
theorem dX12_init_33 : decode cX12_init 33 = .ok (.newarray .int, 2) := by decide +kernel
theorem dX12_init_35 : decode cX12_init 35 = .ok (.putfield 23, 3) := by decide +kernel
theorem dX12_init_38 : decode cX12_init 38 = .ok (.aload_n 0, 1) := by decide +kernel
theorem dX12_init_39 : decode cX12_init 39 = .ok (.bipush 7, 2) := by decide +kernel
theorem dX12_init_41 : decode cX12_init 41 = .ok (.newarray .int, 2) := by decide +kernel
theorem dX12_init_43 : decode cX12_init 43 = .ok (.putfield 26, 3) := by decide +kernel
theorem dX12_init_46 : decode cX12_init 46 = .ok (.aload_n 0, 1) := by decide +kernel
theorem dX12_init_47 : decode cX12_init 47 = .ok (.bipush 7, 2) := by decide +kernel
theorem dX12_init_49 : decode cX12_init 49 = .ok (.newarray .int, 2) := by decide +kernel
theorem dX12_init_51 : decode cX12_init 51 = .ok (.putfield 29, 3) := by decide +kernel
theorem dX12_init_54 : decode cX12_init 54 = .ok (.aload_n 0, 1) := by decide +kernel
theorem dX12_init_55 : decode cX12_init 55 = .ok (.bipush 7, 2) := by decide +kernel
theorem dX12_init_57 : decode cX12_init 57 = .ok (.newarray .int, 2) := by decide +kernel
theorem dX12_init_59 : decode cX12_init 59 = .ok (.putfield 32, 3) := by decide +kernel
theorem dX12_init_62 : decode cX12_init 62 = .ok (.aload_n 0, 1) := by decide +kernel
theorem dX12_init_63 : decode cX12_init 63 = .ok (.bipush 14, 2) := by decide +kernel
theorem dX12_init_65 : decode cX12_init 65 = .ok (.newarray .int, 2) := by decide +kernel
theorem dX12_init_67 : decode cX12_init 67 = .ok (.putfield 35, 3) := by decide +kernel
theorem dX12_init_70 : decode cX12_init 70 = .ok (.aload_n 0, 1) := by decide +kernel
theorem dX12_init_71 : decode cX12_init 71 = .ok (.bipush 14, 2) := by decide +kernel
theorem dX12_init_73 : decode cX12_init 73 = .ok (.newarray .int, 2) := by decide +kernel
theorem dX12_init_75 : decode cX12_init 75 = .ok (.putfield 38, 3) := by decide +kernel
theorem dX12_init_78 : decode cX12_init 78 = .ok (.aload_n 0, 1) := by decide +kernel
theorem dX12_init_79 : decode cX12_init 79 = .ok (.bipush 14, 2) := by decide +kernel
theorem dX12_init_81 : decode cX12_init 81 = .ok (.newarray .int, 2) := by decide +kernel
theorem dX12_init_83 : decode cX12_init 83 = .ok (.putfield 41, 3) := by decide +kernel
theorem dX12_init_86 : decode cX12_init 86 = .ok (.aload_n 0, 1) := by decide +kernel
theorem dX12_init_87 : decode cX12_init 87 = .ok (.bipush 14, 2) := by decide +kernel
theorem dX12_init_89 : decode cX12_init 89 = .ok (.newarray .int, 2) := by decide +kernel
theorem dX12_init_91 : decode cX12_init 91 = .ok (.putfield 44, 3) := by decide +kernel
theorem dX12_init_94 : decode cX12_init 94 = .ok (.aload_n 0, 1) := by decide +kernel
theorem dX12_init_95 : decode cX12_init 95 = .ok (.bipush 14, 2) := by decide +kernel
theorem dX12_init_97 : decode cX12_init 97 = .ok (.newarray .int, 2) := by decide +kernel
theorem dX12_init_99 : decode cX12_init 99 = .ok (.putfield 47, 3) := by decide +kernel
theorem dX12_init_102 : decode cX12_init 102 = .ok (.aload_n 0, 1) := by decide +kernel
theorem dX12_init_103 : decode cX12_init 103 = .ok (.bipush 14, 2) := by decide +kernel
theorem dX12_init_105 : decode cX12_init 105 = .ok (.newarray .int, 2) := by decide +kernel
theorem dX12_init_107 : decode cX12_init 107 = .ok (.putfield 50, 3) := by decide +kernel
theorem dX12_init_110 : decode cX12_init 110 = .ok (.aload_n 0, 1) := by decide +kernel
theorem dX12_init_111 : decode cX12_init 111 = .ok (.bipush 14, 2) := by decide +kernel
theorem dX12_init_113 : decode cX12_init 113 = .ok (.newarray .int, 2) := by decide +kernel
theorem dX12_init_115 : decode cX12_init 115 = .ok (.putfield 53, 3) := by decide +kernel
theorem dX12_init_118 : decode cX12_init 118 = .ok (.aload_n 0, 1) := by decide +kernel
theorem dX12_init_119 : decode cX12_init 119 = .ok (.sipush 8658, 3) := by decide +kernel
theorem dX12_init_122 : decode cX12_init 122 = .ok (.newarray .int, 2) := by decide +kernel
theorem dX12_init_124 : decode cX12_init 124 = .ok (.putfield 56, 3) := by decide +kernel
theorem dX12_init_127 : decode cX12_init 127 = .ok (.aload_n 0, 1) := by decide +kernel
theorem dX12_init_128 : decode cX12_init 128 = .ok (.sipush 8658, 3) := by decide +kernel
theorem dX12_init_131 : decode cX12_init 131 = .ok (.newarray .int, 2) := by decide +kernel
theorem dX12_init_133 : decode cX12_init 133 = .ok (.putfield 59, 3) := by decide +kernel
theorem dX12_init_136 : decode cX12_init 136 = .ok (.aload_n 0, 1) := by decide +kernel
theorem dX12_init_137 : decode cX12_init 137 = .ok (.sipush 8658, 3) := by decide +kernel
theorem dX12_init_140 : decode cX12_init 140 = .ok (.newarray .int, 2) := by decide +kernel
theorem dX12_init_142 : decode cX12_init 142 = .ok (.putfield 62, 3) := by decide +kernel
theorem dX12_init_145 : decode cX12_init 145 = .ok (.aload_n 0, 1) := by decide +kernel
theorem dX12_init_146 : decode cX12_init 146 = .ok (.sipush 8658, 3) := by decide +kernel
theorem dX12_init_149 : decode cX12_init 149 = .ok (.newarray .int, 2) := by decide +kernel
theorem dX12_init_151 : decode cX12_init 151 = .ok (.putfield 65, 3) := by decide +kernel
theorem dX12_init_154 : decode cX12_init 154 = .ok (.aload_n 0, 1) := by decide +kernel
theorem dX12_init_155 : decode cX12_init 155 = .ok (.bipush 14, 2) := by decide +kernel
theorem dX12_init_157 : decode cX12_init 157 = .ok (.newarray .int, 2) := by decide +kernel
theorem dX12_init_159 : decode cX12_init 159 = .ok (.putfield 68, 3) := by decide +kernel
theorem dX12_init_162 : decode cX12_init 162 = .ok (.aload_n 0, 1) := by decide +kernel
theorem dX12_init_163 : decode cX12_init 163 = .ok (.bipush 100, 2) := by decide +kernel
theorem dX12_init_165 : decode cX12_init 165 = .ok (.newarray .int, 2) := by decide +kernel
theorem dX12_init_167 : decode cX12_init 167 = .ok (.putfield 71, 3) := by decide +kernel
theorem dX12_init_170 : decode cX12_init 170 = .ok (.aload_n 0, 1) := by decide +kernel
theorem dX12_init_171 : decode cX12_init 171 = .ok (.bipush 100, 2) := by decide +kernel
theorem dX12_init_173 : decode cX12_init 173 = .ok (.newarray .int, 2) := by decide +kernel
theorem dX12_init_175 : decode cX12_init 175 = .ok (.putfield 74, 3) := by decide +kernel
theorem dX12_init_178 : decode cX12_init 178 = .ok (.aload_n 0, 1) := by decide +kernel
theorem dX12_init_179 : decode cX12_init 179 = .ok (.bipush 100, 2) := by decide +kernel
theorem dX12_init_181 : decode cX12_init 181 = .ok (.newarray .int, 2) := by decide +kernel
theorem dX12_init_183 : decode cX12_init 183 = .ok (.putfield 77, 3) := by decide +kernel
theorem dX12_init_186 : decode cX12_init 186 = .ok (.aload_n 0, 1) := by decide +kernel
theorem dX12_init_187 : decode cX12_init 187 = .ok (.bipush 7, 2) := by decide +kernel
theorem dX12_init_189 : decode cX12_init 189 = .ok (.newarray .int, 2) := by decide +kernel
theorem dX12_init_191 : decode cX12_init 191 = .ok (.putfield 80, 3) := by decide +kernel
theorem dX12_init_194 : decode cX12_init 194 = .ok (.aload_n 0, 1) := by decide +kernel
theorem dX12_init_195 : decode cX12_init 195 = .ok (.bipush 7, 2) := by decide +kernel
theorem dX12_init_197 : decode cX12_init 197 = .ok (.newarray .int, 2) := by decide +kernel
theorem dX12_init_199 : decode cX12_init 199 = .ok (.putfield 83, 3) := by decide +kernel
theorem dX12_init_202 : decode cX12_init 202 = .ok (.aload_n 0, 1) := by decide +kernel
theorem dX12_init_203 : decode cX12_init 203 = .ok (.bipush 14, 2) := by decide +kernel
theorem dX12_init_205 : decode cX12_init 205 = .ok (.newarray .int, 2) := by decide +kernel
theorem dX12_init_207 : decode cX12_init 207 = .ok (.putfield 86, 3) := by decide +kernel
theorem dX12_init_210 : decode cX12_init 210 = .ok (.aload_n 0, 1) := by decide +kernel
theorem dX12_init_211 : decode cX12_init 211 = .ok (.bipush 14, 2) := by decide +kernel
theorem dX12_init_213 : decode cX12_init 213 = .ok (.newarray .int, 2) := by decide +kernel
theorem dX12_init_215 : decode cX12_init 215 = .ok (.putfield 89, 3) := by decide +kernel
theorem dX12_init_218 : decode cX12_init 218 = .ok (.aload_n 0, 1) := by decide +kernel
theorem dX12_init_219 : decode cX12_init 219 = .ok (.bipush 100, 2) := by decide +kernel
theorem dX12_init_221 : decode cX12_init 221 = .ok (.newarray .int, 2) := by decide +kernel
theorem dX12_init_223 : decode cX12_init 223 = .ok (.putfield 92, 3) := by decide +kernel
theorem dX12_init_226 : decode cX12_init 226 = .ok (.aload_n 0, 1) := by decide +kernel
theorem dX12_init_227 : decode cX12_init 227 = .ok (.iconst 4, 1) := by decide +kernel
theorem dX12_init_228 : decode cX12_init 228 = .ok (.newarray .boolean, 2) := by decide +kernel
theorem dX12_init_230 : decode cX12_init 230 = .ok (.putfield 95, 3) := by decide +kernel
theorem dX12_init_233 : decode cX12_init 233 = .ok (.aload_n 0, 1) := by decide +kernel
theorem dX12_init_234 : decode cX12_init 234 = .ok (.iconst 4, 1) := by decide +kernel
theorem dX12_init_235 : decode cX12_init 235 = .ok (.newarray .int, 2) := by decide +kernel
theorem dX12_init_237 : decode cX12_init 237 = .ok (.putfield 99, 3) := by decide +kernel
theorem dX12_init_240 : decode cX12_init 240 = .ok (.aload_n 0, 1) := by decide +kernel
theorem dX12_init_241 : decode cX12_init 241 = .ok (.iconst 4, 1) := by decide +kernel
theorem dX12_init_242 : decode cX12_init 242 = .ok (.newarray .int, 2) := by decide +kernel
theorem dX12_init_244 : decode cX12_init 244 = .ok (.putfield 102, 3) := by decide +kernel
theorem dX12_init_247 : decode cX12_init 247 = .ok (.aload_n 0, 1) := by decide +kernel
theorem dX12_init_248 : decode cX12_init 248 = .ok (.sipush 160, 3) := by decide +kernel
theorem dX12_init_251 : decode cX12_init 251 = .ok (.newarray .int, 2) := by decide +kernel
theorem dX12_init_253 : decode cX12_init 253 = .ok (.putfield 105, 3) := by decide +kernel
theorem dX12_init_256 : decode cX12_init 256 = .ok (.aload_n 0, 1) := by decide +kernel
theorem dX12_init_257 : decode cX12_init 257 = .ok (.iconst 0, 1) := by decide +kernel
theorem dX12_init_258 : decode cX12_init 258 = .ok (.ldc2_w 108, 3) := by decide +kernel
theorem dX12_init_261 : decode cX12_init 261 = .ok (.invokevirtual 110, 3) := by decide +kernel
theorem dX12_init_264 : decode cX12_init 264 = .ok (.aload_n 0, 1) := by decide +kernel
theorem dX12_init_265 : decode cX12_init 265 = .ok (.bipush 8, 2) := by decide +kernel
theorem dX12_init_267 : decode cX12_init 267 = .ok (.ldc2_w 114, 3) := by decide +kernel
theorem dX12_init_270 : decode cX12_init 270 = .ok (.invokevirtual 110, 3) := by decide +kernel
theorem dX12_init_273 : decode cX12_init 273 = .ok (.aload_n 0, 1) := by decide +kernel
theorem dX12_init_274 : decode cX12_init 274 = .ok (.bipush 16, 2) := by decide +kernel
theorem dX12_init_276 : decode cX12_init 276 = .ok (.ldc2_w 116, 3) := by decide +kernel
theorem dX12_init_279 : decode cX12_init 279 = .ok (.invokevirtual 110, 3) := by decide +kernel
theorem dX12_init_282 : decode cX12_init 282 = .ok (.aload_n 0, 1) := by decide +kernel
theorem dX12_init_283 : decode cX12_init 283 = .ok (.bipush 24, 2) := by decide +kernel
theorem dX12_init_285 : decode cX12_init 285 = .ok (.ldc2_w 118, 3) := by decide +kernel
theorem dX12_init_288 : decode cX12_init 288 = .ok (.invokevirtual 110, 3) := by decide +kernel
theorem dX12_init_291 : decode cX12_init 291 = .ok (.aload_n 0, 1) := by decide +kernel
theorem dX12_init_292 : decode cX12_init 292 = .ok (.bipush 32, 2) := by decide +kernel
theorem dX12_init_294 : decode cX12_init 294 = .ok (.ldc2_w 120, 3) := by decide +kernel
theorem dX12_init_297 : decode cX12_init 297 = .ok (.invokevirtual 110, 3) := by decide +kernel
theorem dX12_init_300 : decode cX12_init 300 = .ok (.aload_n 0, 1) := by decide +kernel
theorem dX12_init_301 : decode cX12_init 301 = .ok (.bipush 40, 2) := by decide +kernel
theorem dX12_init_303 : decode cX12_init 303 = .ok (.ldc2_w 122, 3) := by decide +kernel
theorem dX12_init_306 : decode cX12_init 306 = .ok (.invokevirtual 110, 3) := by decide +kernel
theorem dX12_init_309 : decode cX12_init 309 = .ok (.aload_n 0, 1) := by decide +kernel
theorem dX12_init_310 : decode cX12_init 310 = .ok (.bipush 48, 2) := by decide +kernel
theorem dX12_init_312 : decode cX12_init 312 = .ok (.ldc2_w 124, 3) := by decide +kernel
theorem dX12_init_315 : decode cX12_init 315 = .ok (.invokevirtual 110, 3) := by decide +kernel
theorem dX12_init_318 : decode cX12_init 318 = .ok (.aload_n 0, 1) := by decide +kernel
theorem dX12_init_319 : decode cX12_init 319 = .ok (.getfield 17, 3) := by decide +kernel
theorem dX12_init_322 : decode cX12_init 322 = .ok (.iconst 0, 1) := by decide +kernel
theorem dX12_init_323 : decode cX12_init 323 = .ok (.bipush 56, 2) := by decide +kernel
theorem dX12_init_325 : decode cX12_init 325 = .ok (.iastore, 1) := by decide +kernel
theorem dX12_init_326 : decode cX12_init 326 = .ok (.aload_n 0, 1) := by decide +kernel
theorem dX12_init_327 : decode cX12_init 327 = .ok (.iconst 1, 1) := by decide +kernel
theorem dX12_init_328 : decode cX12_init 328 = .ok (.putfield 126, 3) := by decide +kernel
theorem dX12_init_331 : decode cX12_init 331 = .ok (.return_, 1) := by decide +kernel
theorem dX12_spell_0 : decode cX12_spell 0 = .ok (.iconst 0, 1) := by decide +kernel
theorem dX12_spell_1 : decode cX12_spell 1 = .ok (.istore 4, 2) := by decide +kernel
theorem dX12_spell_3 : decode cX12_spell 3 = .ok (.iload 4, 2) := by decide +kernel
theorem dX12_spell_5 : decode cX12_spell 5 = .ok (.bipush 8, 2) := by decide +kernel
theorem dX12_spell_7 : decode cX12_spell 7 = .ok (.if_icmp .ge 33, 3) := by decide +kernel
theorem dX12_spell_10 : decode cX12_spell 10 = .ok (.aload_n 0, 1) := by decide +kernel
theorem dX12_spell_11 : decode cX12_spell 11 = .ok (.getfield 13, 3) := by decide +kernel
theorem dX12_spell_14 : decode cX12_spell 14 = .ok (.iload_n 1, 1) := by decide +kernel
theorem dX12_spell_15 : decode cX12_spell 15 = .ok (.iload 4, 2) := by decide +kernel
theorem dX12_spell_17 : decode cX12_spell 17 = .ok (.iadd, 1) := by decide +kernel
theorem dX12_spell_18 : decode cX12_spell 18 = .ok (.lload_n 2, 1) := by decide +kernel
theorem dX12_spell_19 : decode cX12_spell 19 = .ok (.bipush 56, 2) := by decide +kernel
theorem dX12_spell_21 : decode cX12_spell 21 = .ok (.bipush 8, 2) := by decide +kernel
theorem dX12_spell_23 : decode cX12_spell 23 = .ok (.iload 4, 2) := by decide +kernel
theorem dX12_spell_25 : decode cX12_spell 25 = .ok (.imul, 1) := by decide +kernel
theorem dX12_spell_26 : decode cX12_spell 26 = .ok (.isub, 1) := by decide +kernel
theorem dX12_spell_27 : decode cX12_spell 27 = .ok (.lshr, 1) := by decide +kernel
theorem dX12_spell_28 : decode cX12_spell 28 = .ok (.ldc2_w 129, 3) := by decide +kernel
theorem dX12_spell_31 : decode cX12_spell 31 = .ok (.land, 1) := by decide +kernel
theorem dX12_spell_32 : decode cX12_spell 32 = .ok (.l2i, 1) := by decide +kernel
theorem dX12_spell_33 : decode cX12_spell 33 = .ok (.iastore, 1) := by decide +kernel
theorem dX12_spell_34 : decode cX12_spell 34 = .ok (.iinc 4 1, 3) := by decide +kernel
theorem dX12_spell_37 : decode cX12_spell 37 = .ok (.goto (-34), 3) := by decide +kernel
theorem dX12_spell_40 : decode cX12_spell 40 = .ok (.return_, 1) := by decide +kernel
theorem dX12_isCrossing_0 : decode cX12_isCrossing 0 = .ok (.iload_n 1, 1) := by decide +kernel
theorem dX12_isCrossing_1 : decode cX12_isCrossing 1 = .ok (.i2l, 1) := by decide +kernel
theorem dX12_isCrossing_2 : decode cX12_isCrossing 2 = .ok (.lconst 0, 1) := by decide +kernel
theorem dX12_isCrossing_3 : decode cX12_isCrossing 3 = .ok (.aload_n 0, 1) := by decide +kernel
theorem dX12_isCrossing_4 : decode cX12_isCrossing 4 = .ok (.getfield 131, 3) := by decide +kernel
theorem dX12_isCrossing_7 : decode cX12_isCrossing 7 = .ok (.iconst 1, 1) := by decide +kernel
theorem dX12_isCrossing_8 : decode cX12_isCrossing 8 = .ok (.isub, 1) := by decide +kernel
theorem dX12_isCrossing_9 : decode cX12_isCrossing 9 = .ok (.i2l, 1) := by decide +kernel
theorem dX12_isCrossing_10 : decode cX12_isCrossing 10 = .ok (.invokestatic 134, 3) := by decide +kernel
theorem dX12_isCrossing_13 : decode cX12_isCrossing 13 = .ok (.ireturn, 1) := by decide +kernel
theorem dX12_isRower_0 : decode cX12_isRower 0 = .ok (.iload_n 1, 1) := by decide +kernel
theorem dX12_isRower_1 : decode cX12_isRower 1 = .ok (.i2l, 1) := by decide +kernel
theorem dX12_isRower_2 : decode cX12_isRower 2 = .ok (.lconst 0, 1) := by decide +kernel
theorem dX12_isRower_3 : decode cX12_isRower 3 = .ok (.aload_n 0, 1) := by decide +kernel
theorem dX12_isRower_4 : decode cX12_isRower 4 = .ok (.getfield 138, 3) := by decide +kernel
theorem dX12_isRower_7 : decode cX12_isRower 7 = .ok (.iconst 1, 1) := by decide +kernel
theorem dX12_isRower_8 : decode cX12_isRower 8 = .ok (.isub, 1) := by decide +kernel
theorem dX12_isRower_9 : decode cX12_isRower 9 = .ok (.i2l, 1) := by decide +kernel
theorem dX12_isRower_10 : decode cX12_isRower 10 = .ok (.invokestatic 134, 3) := by decide +kernel
theorem dX12_isRower_13 : decode cX12_isRower 13 = .ok (.ireturn, 1) := by decide +kernel
theorem dX12_isHour_0 : decode cX12_isHour 0 = .ok (.iload_n 0, 1) := by decide +kernel
theorem dX12_isHour_1 : decode cX12_isHour 1 = .ok (.i2l, 1) := by decide +kernel
theorem dX12_isHour_2 : decode cX12_isHour 2 = .ok (.lconst 0, 1) := by decide +kernel
theorem dX12_isHour_3 : decode cX12_isHour 3 = .ok (.ldc2_w 141, 3) := by decide +kernel
theorem dX12_isHour_6 : decode cX12_isHour 6 = .ok (.invokestatic 134, 3) := by decide +kernel
theorem dX12_isHour_9 : decode cX12_isHour 9 = .ok (.ireturn, 1) := by decide +kernel
theorem dX12_areLandings_0 : decode cX12_areLandings 0 = .ok (.iload_n 0, 1) := by decide +kernel
theorem dX12_areLandings_1 : decode cX12_areLandings 1 = .ok (.i2l, 1) := by decide +kernel
theorem dX12_areLandings_2 : decode cX12_areLandings 2 = .ok (.lconst 0, 1) := by decide +kernel
theorem dX12_areLandings_3 : decode cX12_areLandings 3 = .ok (.ldc2_w 143, 3) := by decide +kernel
theorem dX12_areLandings_6 : decode cX12_areLandings 6 = .ok (.invokestatic 134, 3) := by decide +kernel
theorem dX12_areLandings_9 : decode cX12_areLandings 9 = .ok (.ifCond .eq 18, 3) := by decide +kernel
theorem dX12_areLandings_12 : decode cX12_areLandings 12 = .ok (.iload_n 0, 1) := by decide +kernel
theorem dX12_areLandings_13 : decode cX12_areLandings 13 = .ok (.bipush 10, 2) := by decide +kernel
theorem dX12_areLandings_15 : decode cX12_areLandings 15 = .ok (.idiv, 1) := by decide +kernel
theorem dX12_areLandings_16 : decode cX12_areLandings 16 = .ok (.iload_n 0, 1) := by decide +kernel
theorem dX12_areLandings_17 : decode cX12_areLandings 17 = .ok (.bipush 10, 2) := by decide +kernel
theorem dX12_areLandings_19 : decode cX12_areLandings 19 = .ok (.irem, 1) := by decide +kernel
theorem dX12_areLandings_20 : decode cX12_areLandings 20 = .ok (.if_icmp .eq 7, 3) := by decide +kernel
theorem dX12_areLandings_23 : decode cX12_areLandings 23 = .ok (.iconst 1, 1) := by decide +kernel
theorem dX12_areLandings_24 : decode cX12_areLandings 24 = .ok (.goto 4, 3) := by decide +kernel
theorem dX12_areLandings_27 : decode cX12_areLandings 27 = .ok (.iconst 0, 1) := by decide +kernel
theorem dX12_areLandings_28 : decode cX12_areLandings 28 = .ok (.ireturn, 1) := by decide +kernel
theorem dX12_crossing_0 : decode cX12_crossing 0 = .ok (.iload_n 1, 1) := by decide +kernel
theorem dX12_crossing_1 : decode cX12_crossing 1 = .ok (.i2l, 1) := by decide +kernel
theorem dX12_crossing_2 : decode cX12_crossing 2 = .ok (.lconst 1, 1) := by decide +kernel
theorem dX12_crossing_3 : decode cX12_crossing 3 = .ok (.ldc2_w 145, 3) := by decide +kernel
theorem dX12_crossing_6 : decode cX12_crossing 6 = .ok (.invokestatic 134, 3) := by decide +kernel
theorem dX12_crossing_9 : decode cX12_crossing 9 = .ok (.ifCond .eq 10, 3) := by decide +kernel
theorem dX12_crossing_12 : decode cX12_crossing 12 = .ok (.iload_n 2, 1) := by decide +kernel
theorem dX12_crossing_13 : decode cX12_crossing 13 = .ok (.invokestatic 147, 3) := by decide +kernel
theorem dX12_crossing_16 : decode cX12_crossing 16 = .ok (.ifCond .ne 6, 3) := by decide +kernel
theorem dX12_crossing_19 : decode cX12_crossing 19 = .ok (.bipush (-2), 2) := by decide +kernel
theorem dX12_crossing_21 : decode cX12_crossing 21 = .ok (.ireturn, 1) := by decide +kernel
theorem dX12_crossing_22 : decode cX12_crossing 22 = .ok (.aload_n 0, 1) := by decide +kernel
theorem dX12_crossing_23 : decode cX12_crossing 23 = .ok (.getfield 131, 3) := by decide +kernel
theorem dX12_crossing_26 : decode cX12_crossing 26 = .ok (.bipush 7, 2) := by decide +kernel
theorem dX12_crossing_28 : decode cX12_crossing 28 = .ok (.if_icmp .ne 6, 3) := by decide +kernel
theorem dX12_crossing_31 : decode cX12_crossing 31 = .ok (.bipush (-4), 2) := by decide +kernel
theorem dX12_crossing_33 : decode cX12_crossing 33 = .ok (.ireturn, 1) := by decide +kernel
theorem dX12_crossing_34 : decode cX12_crossing 34 = .ok (.aload_n 0, 1) := by decide +kernel
theorem dX12_crossing_35 : decode cX12_crossing 35 = .ok (.getfield 23, 3) := by decide +kernel
theorem dX12_crossing_38 : decode cX12_crossing 38 = .ok (.aload_n 0, 1) := by decide +kernel
theorem dX12_crossing_39 : decode cX12_crossing 39 = .ok (.getfield 131, 3) := by decide +kernel
theorem dX12_crossing_42 : decode cX12_crossing 42 = .ok (.iload_n 1, 1) := by decide +kernel
theorem dX12_crossing_43 : decode cX12_crossing 43 = .ok (.iastore, 1) := by decide +kernel
theorem dX12_crossing_44 : decode cX12_crossing 44 = .ok (.aload_n 0, 1) := by decide +kernel
theorem dX12_crossing_45 : decode cX12_crossing 45 = .ok (.getfield 26, 3) := by decide +kernel
theorem dX12_crossing_48 : decode cX12_crossing 48 = .ok (.aload_n 0, 1) := by decide +kernel
theorem dX12_crossing_49 : decode cX12_crossing 49 = .ok (.getfield 131, 3) := by decide +kernel
theorem dX12_crossing_52 : decode cX12_crossing 52 = .ok (.iload_n 2, 1) := by decide +kernel
theorem dX12_crossing_53 : decode cX12_crossing 53 = .ok (.iastore, 1) := by decide +kernel
theorem dX12_crossing_54 : decode cX12_crossing 54 = .ok (.aload_n 0, 1) := by decide +kernel
theorem dX12_crossing_55 : decode cX12_crossing 55 = .ok (.getfield 29, 3) := by decide +kernel
theorem dX12_crossing_58 : decode cX12_crossing 58 = .ok (.aload_n 0, 1) := by decide +kernel
theorem dX12_crossing_59 : decode cX12_crossing 59 = .ok (.getfield 131, 3) := by decide +kernel
theorem dX12_crossing_62 : decode cX12_crossing 62 = .ok (.iconst 1, 1) := by decide +kernel
theorem dX12_crossing_63 : decode cX12_crossing 63 = .ok (.iastore, 1) := by decide +kernel
theorem dX12_crossing_64 : decode cX12_crossing 64 = .ok (.aload_n 0, 1) := by decide +kernel
theorem dX12_crossing_65 : decode cX12_crossing 65 = .ok (.getfield 32, 3) := by decide +kernel
theorem dX12_crossing_68 : decode cX12_crossing 68 = .ok (.aload_n 0, 1) := by decide +kernel
theorem dX12_crossing_69 : decode cX12_crossing 69 = .ok (.getfield 131, 3) := by decide +kernel
theorem dX12_crossing_72 : decode cX12_crossing 72 = .ok (.iconst 0, 1) := by decide +kernel
theorem dX12_crossing_73 : decode cX12_crossing 73 = .ok (.iastore, 1) := by decide +kernel
theorem dX12_crossing_74 : decode cX12_crossing 74 = .ok (.aload_n 0, 1) := by decide +kernel
theorem dX12_crossing_75 : decode cX12_crossing 75 = .ok (.dup, 1) := by decide +kernel
theorem dX12_crossing_76 : decode cX12_crossing 76 = .ok (.getfield 131, 3) := by decide +kernel
theorem dX12_crossing_79 : decode cX12_crossing 79 = .ok (.iconst 1, 1) := by decide +kernel
theorem dX12_crossing_80 : decode cX12_crossing 80 = .ok (.iadd, 1) := by decide +kernel
theorem dX12_crossing_81 : decode cX12_crossing 81 = .ok (.putfield 131, 3) := by decide +kernel
theorem dX12_crossing_84 : decode cX12_crossing 84 = .ok (.aload_n 0, 1) := by decide +kernel
theorem dX12_crossing_85 : decode cX12_crossing 85 = .ok (.getfield 131, 3) := by decide +kernel
theorem dX12_crossing_88 : decode cX12_crossing 88 = .ok (.iconst 1, 1) := by decide +kernel
theorem dX12_crossing_89 : decode cX12_crossing 89 = .ok (.isub, 1) := by decide +kernel
theorem dX12_crossing_90 : decode cX12_crossing 90 = .ok (.ireturn, 1) := by decide +kernel
theorem dX12_set_0 : decode cX12_set 0 = .ok (.sipush (-1000), 3) := by decide +kernel
theorem dX12_set_3 : decode cX12_set 3 = .ok (.istore_n 3, 1) := by decide +kernel
theorem dX12_set_4 : decode cX12_set 4 = .ok (.iload_n 1, 1) := by decide +kernel
theorem dX12_set_5 : decode cX12_set 5 = .ok (.i2l, 1) := by decide +kernel
theorem dX12_set_6 : decode cX12_set 6 = .ok (.lconst 0, 1) := by decide +kernel
theorem dX12_set_7 : decode cX12_set 7 = .ok (.lconst 1, 1) := by decide +kernel
theorem dX12_set_8 : decode cX12_set 8 = .ok (.invokestatic 134, 3) := by decide +kernel
theorem dX12_set_11 : decode cX12_set 11 = .ok (.ifCond .eq 48, 3) := by decide +kernel
theorem dX12_set_14 : decode cX12_set 14 = .ok (.iload_n 2, 1) := by decide +kernel
theorem dX12_set_15 : decode cX12_set 15 = .ok (.i2l, 1) := by decide +kernel
theorem dX12_set_16 : decode cX12_set 16 = .ok (.lconst 0, 1) := by decide +kernel
theorem dX12_set_17 : decode cX12_set 17 = .ok (.ldc2_w 151, 3) := by decide +kernel
theorem dX12_set_20 : decode cX12_set 20 = .ok (.invokestatic 134, 3) := by decide +kernel
theorem dX12_set_23 : decode cX12_set 23 = .ok (.ifCond .eq 36, 3) := by decide +kernel
theorem dX12_set_26 : decode cX12_set 26 = .ok (.iload_n 1, 1) := by decide +kernel
theorem dX12_set_27 : decode cX12_set 27 = .ok (.ifCond .ne 10, 3) := by decide +kernel
theorem dX12_set_30 : decode cX12_set 30 = .ok (.aload_n 0, 1) := by decide +kernel
theorem dX12_set_31 : decode cX12_set 31 = .ok (.getfield 153, 3) := by decide +kernel
theorem dX12_set_34 : decode cX12_set 34 = .ok (.goto 7, 3) := by decide +kernel
theorem dX12_set_37 : decode cX12_set 37 = .ok (.aload_n 0, 1) := by decide +kernel
theorem dX12_set_38 : decode cX12_set 38 = .ok (.getfield 156, 3) := by decide +kernel
theorem dX12_set_41 : decode cX12_set 41 = .ok (.istore_n 3, 1) := by decide +kernel
theorem dX12_set_42 : decode cX12_set 42 = .ok (.iload_n 1, 1) := by decide +kernel
theorem dX12_set_43 : decode cX12_set 43 = .ok (.ifCond .ne 11, 3) := by decide +kernel
theorem dX12_set_46 : decode cX12_set 46 = .ok (.aload_n 0, 1) := by decide +kernel
theorem dX12_set_47 : decode cX12_set 47 = .ok (.iload_n 2, 1) := by decide +kernel
theorem dX12_set_48 : decode cX12_set 48 = .ok (.putfield 153, 3) := by decide +kernel
theorem dX12_set_51 : decode cX12_set 51 = .ok (.goto 8, 3) := by decide +kernel
theorem dX12_set_54 : decode cX12_set 54 = .ok (.aload_n 0, 1) := by decide +kernel
theorem dX12_set_55 : decode cX12_set 55 = .ok (.iload_n 2, 1) := by decide +kernel
theorem dX12_set_56 : decode cX12_set 56 = .ok (.putfield 156, 3) := by decide +kernel
theorem dX12_set_59 : decode cX12_set 59 = .ok (.aload_n 0, 1) := by decide +kernel
theorem dX12_set_60 : decode cX12_set 60 = .ok (.iload_n 1, 1) := by decide +kernel
theorem dX12_set_61 : decode cX12_set 61 = .ok (.bipush 10, 2) := by decide +kernel
theorem dX12_set_63 : decode cX12_set 63 = .ok (.isub, 1) := by decide +kernel
theorem dX12_set_64 : decode cX12_set 64 = .ok (.invokevirtual 159, 3) := by decide +kernel
theorem dX12_set_67 : decode cX12_set 67 = .ok (.ifCond .eq 33, 3) := by decide +kernel
theorem dX12_set_70 : decode cX12_set 70 = .ok (.iload_n 2, 1) := by decide +kernel
theorem dX12_set_71 : decode cX12_set 71 = .ok (.i2l, 1) := by decide +kernel
theorem dX12_set_72 : decode cX12_set 72 = .ok (.lconst 0, 1) := by decide +kernel
theorem dX12_set_73 : decode cX12_set 73 = .ok (.lconst 1, 1) := by decide +kernel
theorem dX12_set_74 : decode cX12_set 74 = .ok (.invokestatic 134, 3) := by decide +kernel
theorem dX12_set_77 : decode cX12_set 77 = .ok (.ifCond .eq 23, 3) := by decide +kernel
theorem dX12_set_80 : decode cX12_set 80 = .ok (.aload_n 0, 1) := by decide +kernel
theorem dX12_set_81 : decode cX12_set 81 = .ok (.getfield 29, 3) := by decide +kernel
theorem dX12_set_84 : decode cX12_set 84 = .ok (.iload_n 1, 1) := by decide +kernel
theorem dX12_set_85 : decode cX12_set 85 = .ok (.bipush 10, 2) := by decide +kernel
theorem dX12_set_87 : decode cX12_set 87 = .ok (.isub, 1) := by decide +kernel
theorem dX12_set_88 : decode cX12_set 88 = .ok (.iaload, 1) := by decide +kernel
theorem dX12_set_89 : decode cX12_set 89 = .ok (.istore_n 3, 1) := by decide +kernel
theorem dX12_set_90 : decode cX12_set 90 = .ok (.aload_n 0, 1) := by decide +kernel
theorem dX12_set_91 : decode cX12_set 91 = .ok (.getfield 29, 3) := by decide +kernel
theorem dX12_set_94 : decode cX12_set 94 = .ok (.iload_n 1, 1) := by decide +kernel
theorem dX12_set_95 : decode cX12_set 95 = .ok (.bipush 10, 2) := by decide +kernel
theorem dX12_set_97 : decode cX12_set 97 = .ok (.isub, 1) := by decide +kernel
theorem dX12_set_98 : decode cX12_set 98 = .ok (.iload_n 2, 1) := by decide +kernel
theorem dX12_set_99 : decode cX12_set 99 = .ok (.iastore, 1) := by decide +kernel
theorem dX12_set_100 : decode cX12_set 100 = .ok (.aload_n 0, 1) := by decide +kernel
theorem dX12_set_101 : decode cX12_set 101 = .ok (.iload_n 1, 1) := by decide +kernel
theorem dX12_set_102 : decode cX12_set 102 = .ok (.bipush 20, 2) := by decide +kernel
theorem dX12_set_104 : decode cX12_set 104 = .ok (.isub, 1) := by decide +kernel
theorem dX12_set_105 : decode cX12_set 105 = .ok (.invokevirtual 159, 3) := by decide +kernel
theorem dX12_set_108 : decode cX12_set 108 = .ok (.ifCond .eq 35, 3) := by decide +kernel
theorem dX12_set_111 : decode cX12_set 111 = .ok (.iload_n 2, 1) := by decide +kernel
theorem dX12_set_112 : decode cX12_set 112 = .ok (.i2l, 1) := by decide +kernel
theorem dX12_set_113 : decode cX12_set 113 = .ok (.lconst 0, 1) := by decide +kernel
theorem dX12_set_114 : decode cX12_set 114 = .ok (.ldc2_w 162, 3) := by decide +kernel
theorem dX12_set_117 : decode cX12_set 117 = .ok (.invokestatic 134, 3) := by decide +kernel
theorem dX12_set_120 : decode cX12_set 120 = .ok (.ifCond .eq 23, 3) := by decide +kernel
theorem dX12_set_123 : decode cX12_set 123 = .ok (.aload_n 0, 1) := by decide +kernel
theorem dX12_set_124 : decode cX12_set 124 = .ok (.getfield 32, 3) := by decide +kernel
theorem dX12_set_127 : decode cX12_set 127 = .ok (.iload_n 1, 1) := by decide +kernel
theorem dX12_set_128 : decode cX12_set 128 = .ok (.bipush 20, 2) := by decide +kernel
theorem dX12_set_130 : decode cX12_set 130 = .ok (.isub, 1) := by decide +kernel
theorem dX12_set_131 : decode cX12_set 131 = .ok (.iaload, 1) := by decide +kernel
theorem dX12_set_132 : decode cX12_set 132 = .ok (.istore_n 3, 1) := by decide +kernel
theorem dX12_set_133 : decode cX12_set 133 = .ok (.aload_n 0, 1) := by decide +kernel
theorem dX12_set_134 : decode cX12_set 134 = .ok (.getfield 32, 3) := by decide +kernel
theorem dX12_set_137 : decode cX12_set 137 = .ok (.iload_n 1, 1) := by decide +kernel
theorem dX12_set_138 : decode cX12_set 138 = .ok (.bipush 20, 2) := by decide +kernel
theorem dX12_set_140 : decode cX12_set 140 = .ok (.isub, 1) := by decide +kernel
theorem dX12_set_141 : decode cX12_set 141 = .ok (.iload_n 2, 1) := by decide +kernel
theorem dX12_set_142 : decode cX12_set 142 = .ok (.iastore, 1) := by decide +kernel
theorem dX12_set_143 : decode cX12_set 143 = .ok (.iload_n 3, 1) := by decide +kernel
theorem dX12_set_144 : decode cX12_set 144 = .ok (.ireturn, 1) := by decide +kernel
theorem dX12_rower_0 : decode cX12_rower 0 = .ok (.iload_n 1, 1) := by decide +kernel
theorem dX12_rower_1 : decode cX12_rower 1 = .ok (.i2l, 1) := by decide +kernel
theorem dX12_rower_2 : decode cX12_rower 2 = .ok (.lconst 0, 1) := by decide +kernel
theorem dX12_rower_3 : decode cX12_rower 3 = .ok (.ldc2_w 164, 3) := by decide +kernel
theorem dX12_rower_6 : decode cX12_rower 6 = .ok (.invokestatic 134, 3) := by decide +kernel
theorem dX12_rower_9 : decode cX12_rower 9 = .ok (.ifCond .eq 41, 3) := by decide +kernel
theorem dX12_rower_12 : decode cX12_rower 12 = .ok (.iload_n 2, 1) := by decide +kernel
theorem dX12_rower_13 : decode cX12_rower 13 = .ok (.i2l, 1) := by decide +kernel
theorem dX12_rower_14 : decode cX12_rower 14 = .ok (.ldc2_w 166, 3) := by decide +kernel
theorem dX12_rower_17 : decode cX12_rower 17 = .ok (.ldc2_w 168, 3) := by decide +kernel
theorem dX12_rower_20 : decode cX12_rower 20 = .ok (.invokestatic 134, 3) := by decide +kernel
theorem dX12_rower_23 : decode cX12_rower 23 = .ok (.ifCond .eq 27, 3) := by decide +kernel
theorem dX12_rower_26 : decode cX12_rower 26 = .ok (.aload_n 0, 1) := by decide +kernel
theorem dX12_rower_27 : decode cX12_rower 27 = .ok (.iload_n 2, 1) := by decide +kernel
theorem dX12_rower_28 : decode cX12_rower 28 = .ok (.bipush 10, 2) := by decide +kernel
theorem dX12_rower_30 : decode cX12_rower 30 = .ok (.irem, 1) := by decide +kernel
theorem dX12_rower_31 : decode cX12_rower 31 = .ok (.invokevirtual 159, 3) := by decide +kernel
theorem dX12_rower_34 : decode cX12_rower 34 = .ok (.ifCond .eq 16, 3) := by decide +kernel
theorem dX12_rower_37 : decode cX12_rower 37 = .ok (.iload_n 3, 1) := by decide +kernel
theorem dX12_rower_38 : decode cX12_rower 38 = .ok (.iconst (-1), 1) := by decide +kernel
theorem dX12_rower_39 : decode cX12_rower 39 = .ok (.if_icmp .eq 14, 3) := by decide +kernel
theorem dX12_rower_42 : decode cX12_rower 42 = .ok (.aload_n 0, 1) := by decide +kernel
theorem dX12_rower_43 : decode cX12_rower 43 = .ok (.iload_n 3, 1) := by decide +kernel
theorem dX12_rower_44 : decode cX12_rower 44 = .ok (.invokevirtual 170, 3) := by decide +kernel
theorem dX12_rower_47 : decode cX12_rower 47 = .ok (.ifCond .ne 6, 3) := by decide +kernel
theorem dX12_rower_50 : decode cX12_rower 50 = .ok (.bipush (-2), 2) := by decide +kernel
theorem dX12_rower_52 : decode cX12_rower 52 = .ok (.ireturn, 1) := by decide +kernel
theorem dX12_rower_53 : decode cX12_rower 53 = .ok (.aload_n 0, 1) := by decide +kernel
theorem dX12_rower_54 : decode cX12_rower 54 = .ok (.getfield 138, 3) := by decide +kernel
theorem dX12_rower_57 : decode cX12_rower 57 = .ok (.bipush 14, 2) := by decide +kernel
theorem dX12_rower_59 : decode cX12_rower 59 = .ok (.if_icmp .ne 6, 3) := by decide +kernel
theorem dX12_rower_62 : decode cX12_rower 62 = .ok (.bipush (-4), 2) := by decide +kernel
theorem dX12_rower_64 : decode cX12_rower 64 = .ok (.ireturn, 1) := by decide +kernel
theorem dX12_rower_65 : decode cX12_rower 65 = .ok (.aload_n 0, 1) := by decide +kernel
theorem dX12_rower_66 : decode cX12_rower 66 = .ok (.getfield 35, 3) := by decide +kernel
theorem dX12_rower_69 : decode cX12_rower 69 = .ok (.aload_n 0, 1) := by decide +kernel
theorem dX12_rower_70 : decode cX12_rower 70 = .ok (.getfield 138, 3) := by decide +kernel
theorem dX12_rower_73 : decode cX12_rower 73 = .ok (.iload_n 1, 1) := by decide +kernel
theorem dX12_rower_74 : decode cX12_rower 74 = .ok (.iastore, 1) := by decide +kernel
theorem dX12_rower_75 : decode cX12_rower 75 = .ok (.aload_n 0, 1) := by decide +kernel
theorem dX12_rower_76 : decode cX12_rower 76 = .ok (.getfield 38, 3) := by decide +kernel
theorem dX12_rower_79 : decode cX12_rower 79 = .ok (.aload_n 0, 1) := by decide +kernel
theorem dX12_rower_80 : decode cX12_rower 80 = .ok (.getfield 138, 3) := by decide +kernel
theorem dX12_rower_83 : decode cX12_rower 83 = .ok (.iload_n 2, 1) := by decide +kernel
theorem dX12_rower_84 : decode cX12_rower 84 = .ok (.bipush 100, 2) := by decide +kernel
theorem dX12_rower_86 : decode cX12_rower 86 = .ok (.idiv, 1) := by decide +kernel
theorem dX12_rower_87 : decode cX12_rower 87 = .ok (.iastore, 1) := by decide +kernel
theorem dX12_rower_88 : decode cX12_rower 88 = .ok (.aload_n 0, 1) := by decide +kernel
theorem dX12_rower_89 : decode cX12_rower 89 = .ok (.getfield 41, 3) := by decide +kernel
theorem dX12_rower_92 : decode cX12_rower 92 = .ok (.aload_n 0, 1) := by decide +kernel
theorem dX12_rower_93 : decode cX12_rower 93 = .ok (.getfield 138, 3) := by decide +kernel
theorem dX12_rower_96 : decode cX12_rower 96 = .ok (.iload_n 2, 1) := by decide +kernel
theorem dX12_rower_97 : decode cX12_rower 97 = .ok (.bipush 10, 2) := by decide +kernel
theorem dX12_rower_99 : decode cX12_rower 99 = .ok (.idiv, 1) := by decide +kernel
theorem dX12_rower_100 : decode cX12_rower 100 = .ok (.bipush 10, 2) := by decide +kernel
theorem dX12_rower_102 : decode cX12_rower 102 = .ok (.irem, 1) := by decide +kernel
theorem dX12_rower_103 : decode cX12_rower 103 = .ok (.iastore, 1) := by decide +kernel
theorem dX12_rower_104 : decode cX12_rower 104 = .ok (.aload_n 0, 1) := by decide +kernel
theorem dX12_rower_105 : decode cX12_rower 105 = .ok (.getfield 44, 3) := by decide +kernel
theorem dX12_rower_108 : decode cX12_rower 108 = .ok (.aload_n 0, 1) := by decide +kernel
theorem dX12_rower_109 : decode cX12_rower 109 = .ok (.getfield 138, 3) := by decide +kernel
theorem dX12_rower_112 : decode cX12_rower 112 = .ok (.iload_n 2, 1) := by decide +kernel
theorem dX12_rower_113 : decode cX12_rower 113 = .ok (.bipush 10, 2) := by decide +kernel
theorem dX12_rower_115 : decode cX12_rower 115 = .ok (.irem, 1) := by decide +kernel
theorem dX12_rower_116 : decode cX12_rower 116 = .ok (.iastore, 1) := by decide +kernel
theorem dX12_rower_117 : decode cX12_rower 117 = .ok (.aload_n 0, 1) := by decide +kernel
theorem dX12_rower_118 : decode cX12_rower 118 = .ok (.getfield 47, 3) := by decide +kernel
theorem dX12_rower_121 : decode cX12_rower 121 = .ok (.aload_n 0, 1) := by decide +kernel
theorem dX12_rower_122 : decode cX12_rower 122 = .ok (.getfield 138, 3) := by decide +kernel
theorem dX12_rower_125 : decode cX12_rower 125 = .ok (.iload_n 3, 1) := by decide +kernel
theorem dX12_rower_126 : decode cX12_rower 126 = .ok (.iastore, 1) := by decide +kernel
theorem dX12_rower_127 : decode cX12_rower 127 = .ok (.aload_n 0, 1) := by decide +kernel
theorem dX12_rower_128 : decode cX12_rower 128 = .ok (.getfield 50, 3) := by decide +kernel
theorem dX12_rower_131 : decode cX12_rower 131 = .ok (.aload_n 0, 1) := by decide +kernel
theorem dX12_rower_132 : decode cX12_rower 132 = .ok (.getfield 138, 3) := by decide +kernel
theorem dX12_rower_135 : decode cX12_rower 135 = .ok (.iconst 0, 1) := by decide +kernel
theorem dX12_rower_136 : decode cX12_rower 136 = .ok (.iastore, 1) := by decide +kernel
theorem dX12_rower_137 : decode cX12_rower 137 = .ok (.aload_n 0, 1) := by decide +kernel
theorem dX12_rower_138 : decode cX12_rower 138 = .ok (.getfield 53, 3) := by decide +kernel
theorem dX12_rower_141 : decode cX12_rower 141 = .ok (.aload_n 0, 1) := by decide +kernel
theorem dX12_rower_142 : decode cX12_rower 142 = .ok (.getfield 138, 3) := by decide +kernel
theorem dX12_rower_145 : decode cX12_rower 145 = .ok (.iconst 0, 1) := by decide +kernel
theorem dX12_rower_146 : decode cX12_rower 146 = .ok (.iastore, 1) := by decide +kernel
theorem dX12_rower_147 : decode cX12_rower 147 = .ok (.aload_n 0, 1) := by decide +kernel
theorem dX12_rower_148 : decode cX12_rower 148 = .ok (.dup, 1) := by decide +kernel
theorem dX12_rower_149 : decode cX12_rower 149 = .ok (.getfield 138, 3) := by decide +kernel
theorem dX12_rower_152 : decode cX12_rower 152 = .ok (.iconst 1, 1) := by decide +kernel
theorem dX12_rower_153 : decode cX12_rower 153 = .ok (.iadd, 1) := by decide +kernel
theorem dX12_rower_154 : decode cX12_rower 154 = .ok (.putfield 138, 3) := by decide +kernel
theorem dX12_rower_157 : decode cX12_rower 157 = .ok (.aload_n 0, 1) := by decide +kernel
theorem dX12_rower_158 : decode cX12_rower 158 = .ok (.getfield 138, 3) := by decide +kernel
theorem dX12_rower_161 : decode cX12_rower 161 = .ok (.iconst 1, 1) := by decide +kernel
theorem dX12_rower_162 : decode cX12_rower 162 = .ok (.isub, 1) := by decide +kernel
theorem dX12_rower_163 : decode cX12_rower 163 = .ok (.ireturn, 1) := by decide +kernel
theorem dX12_ill_0 : decode cX12_ill 0 = .ok (.aload_n 0, 1) := by decide +kernel
theorem dX12_ill_1 : decode cX12_ill 1 = .ok (.iload_n 1, 1) := by decide +kernel
theorem dX12_ill_2 : decode cX12_ill 2 = .ok (.invokevirtual 170, 3) := by decide +kernel
theorem dX12_ill_5 : decode cX12_ill 5 = .ok (.ifCond .eq 13, 3) := by decide +kernel
theorem dX12_ill_8 : decode cX12_ill 8 = .ok (.iload_n 2, 1) := by decide +kernel
theorem dX12_ill_9 : decode cX12_ill 9 = .ok (.i2l, 1) := by decide +kernel
theorem dX12_ill_10 : decode cX12_ill 10 = .ok (.lconst 0, 1) := by decide +kernel
theorem dX12_ill_11 : decode cX12_ill 11 = .ok (.lconst 1, 1) := by decide +kernel
theorem dX12_ill_12 : decode cX12_ill 12 = .ok (.invokestatic 134, 3) := by decide +kernel
theorem dX12_ill_15 : decode cX12_ill 15 = .ok (.ifCond .ne 6, 3) := by decide +kernel
theorem dX12_ill_18 : decode cX12_ill 18 = .ok (.bipush (-2), 2) := by decide +kernel
theorem dX12_ill_20 : decode cX12_ill 20 = .ok (.ireturn, 1) := by decide +kernel
theorem dX12_ill_21 : decode cX12_ill 21 = .ok (.aload_n 0, 1) := by decide +kernel
theorem dX12_ill_22 : decode cX12_ill 22 = .ok (.getfield 50, 3) := by decide +kernel
theorem dX12_ill_25 : decode cX12_ill 25 = .ok (.iload_n 1, 1) := by decide +kernel
theorem dX12_ill_26 : decode cX12_ill 26 = .ok (.iaload, 1) := by decide +kernel
theorem dX12_ill_27 : decode cX12_ill 27 = .ok (.istore_n 3, 1) := by decide +kernel
theorem dX12_ill_28 : decode cX12_ill 28 = .ok (.aload_n 0, 1) := by decide +kernel
theorem dX12_ill_29 : decode cX12_ill 29 = .ok (.getfield 50, 3) := by decide +kernel
theorem dX12_ill_32 : decode cX12_ill 32 = .ok (.iload_n 1, 1) := by decide +kernel
theorem dX12_ill_33 : decode cX12_ill 33 = .ok (.iload_n 2, 1) := by decide +kernel
theorem dX12_ill_34 : decode cX12_ill 34 = .ok (.iastore, 1) := by decide +kernel
theorem dX12_ill_35 : decode cX12_ill 35 = .ok (.iload_n 3, 1) := by decide +kernel
theorem dX12_ill_36 : decode cX12_ill 36 = .ok (.ireturn, 1) := by decide +kernel
theorem dX12_paceOf_0 : decode cX12_paceOf 0 = .ok (.bipush 10, 2) := by decide +kernel
theorem dX12_paceOf_2 : decode cX12_paceOf 2 = .ok (.aload_n 0, 1) := by decide +kernel
theorem dX12_paceOf_3 : decode cX12_paceOf 3 = .ok (.getfield 38, 3) := by decide +kernel
theorem dX12_paceOf_6 : decode cX12_paceOf 6 = .ok (.iload_n 1, 1) := by decide +kernel
theorem dX12_paceOf_7 : decode cX12_paceOf 7 = .ok (.iaload, 1) := by decide +kernel
theorem dX12_paceOf_8 : decode cX12_paceOf 8 = .ok (.bipush 20, 2) := by decide +kernel
theorem dX12_paceOf_10 : decode cX12_paceOf 10 = .ok (.idiv, 1) := by decide +kernel
theorem dX12_paceOf_11 : decode cX12_paceOf 11 = .ok (.isub, 1) := by decide +kernel
theorem dX12_paceOf_12 : decode cX12_paceOf 12 = .ok (.istore_n 2, 1) := by decide +kernel
theorem dX12_paceOf_13 : decode cX12_paceOf 13 = .ok (.aload_n 0, 1) := by decide +kernel
theorem dX12_paceOf_14 : decode cX12_paceOf 14 = .ok (.getfield 35, 3) := by decide +kernel
theorem dX12_paceOf_17 : decode cX12_paceOf 17 = .ok (.iload_n 1, 1) := by decide +kernel
theorem dX12_paceOf_18 : decode cX12_paceOf 18 = .ok (.iaload, 1) := by decide +kernel
theorem dX12_paceOf_19 : decode cX12_paceOf 19 = .ok (.tableswitch 57 1 5 #[33, 36, 38, 48, 51], 33) := by decide +kernel
theorem dX12_paceOf_52 : decode cX12_paceOf 52 = .ok (.bipush 12, 2) := by decide +kernel
theorem dX12_paceOf_54 : decode cX12_paceOf 54 = .ok (.ireturn, 1) := by decide +kernel
theorem dX12_paceOf_55 : decode cX12_paceOf 55 = .ok (.iload_n 2, 1) := by decide +kernel
theorem dX12_paceOf_56 : decode cX12_paceOf 56 = .ok (.ireturn, 1) := by decide +kernel
theorem dX12_paceOf_57 : decode cX12_paceOf 57 = .ok (.bipush 12, 2) := by decide +kernel
theorem dX12_paceOf_59 : decode cX12_paceOf 59 = .ok (.aload_n 0, 1) := by decide +kernel
theorem dX12_paceOf_60 : decode cX12_paceOf 60 = .ok (.getfield 41, 3) := by decide +kernel
theorem dX12_paceOf_63 : decode cX12_paceOf 63 = .ok (.iload_n 1, 1) := by decide +kernel
theorem dX12_paceOf_64 : decode cX12_paceOf 64 = .ok (.iaload, 1) := by decide +kernel
theorem dX12_paceOf_65 : decode cX12_paceOf 65 = .ok (.iadd, 1) := by decide +kernel
theorem dX12_paceOf_66 : decode cX12_paceOf 66 = .ok (.ireturn, 1) := by decide +kernel
theorem dX12_paceOf_67 : decode cX12_paceOf 67 = .ok (.bipush 7, 2) := by decide +kernel
theorem dX12_paceOf_69 : decode cX12_paceOf 69 = .ok (.ireturn, 1) := by decide +kernel
theorem dX12_paceOf_70 : decode cX12_paceOf 70 = .ok (.iconst 2, 1) := by decide +kernel
theorem dX12_paceOf_71 : decode cX12_paceOf 71 = .ok (.iload_n 2, 1) := by decide +kernel
theorem dX12_paceOf_72 : decode cX12_paceOf 72 = .ok (.iconst 2, 1) := by decide +kernel
theorem dX12_paceOf_73 : decode cX12_paceOf 73 = .ok (.idiv, 1) := by decide +kernel
theorem dX12_paceOf_74 : decode cX12_paceOf 74 = .ok (.iadd, 1) := by decide +kernel
theorem dX12_paceOf_75 : decode cX12_paceOf 75 = .ok (.ireturn, 1) := by decide +kernel
theorem dX12_paceOf_76 : decode cX12_paceOf 76 = .ok (.bipush 10, 2) := by decide +kernel
theorem dX12_paceOf_78 : decode cX12_paceOf 78 = .ok (.ireturn, 1) := by decide +kernel
theorem dX12_may_0 : decode cX12_may 0 = .ok (.aload_n 0, 1) := by decide +kernel
theorem dX12_may_1 : decode cX12_may 1 = .ok (.getfield 50, 3) := by decide +kernel
theorem dX12_may_4 : decode cX12_may 4 = .ok (.iload_n 1, 1) := by decide +kernel
theorem dX12_may_5 : decode cX12_may 5 = .ok (.iaload, 1) := by decide +kernel
theorem dX12_may_6 : decode cX12_may 6 = .ok (.iconst 1, 1) := by decide +kernel
theorem dX12_may_7 : decode cX12_may 7 = .ok (.if_icmp .ne 5, 3) := by decide +kernel
theorem dX12_may_10 : decode cX12_may 10 = .ok (.iconst 0, 1) := by decide +kernel
theorem dX12_may_11 : decode cX12_may 11 = .ok (.ireturn, 1) := by decide +kernel
theorem dX12_may_12 : decode cX12_may 12 = .ok (.iload_n 2, 1) := by decide +kernel
theorem dX12_may_13 : decode cX12_may 13 = .ok (.i2l, 1) := by decide +kernel
theorem dX12_may_14 : decode cX12_may 14 = .ok (.ldc2_w 173, 3) := by decide +kernel
theorem dX12_may_17 : decode cX12_may 17 = .ok (.ldc2_w 175, 3) := by decide +kernel
theorem dX12_may_20 : decode cX12_may 20 = .ok (.invokestatic 134, 3) := by decide +kernel
theorem dX12_may_23 : decode cX12_may 23 = .ok (.istore_n 3, 1) := by decide +kernel
theorem dX12_may_24 : decode cX12_may 24 = .ok (.aload_n 0, 1) := by decide +kernel
theorem dX12_may_25 : decode cX12_may 25 = .ok (.getfield 35, 3) := by decide +kernel
theorem dX12_may_28 : decode cX12_may 28 = .ok (.iload_n 1, 1) := by decide +kernel
theorem dX12_may_29 : decode cX12_may 29 = .ok (.iaload, 1) := by decide +kernel
theorem dX12_may_30 : decode cX12_may 30 = .ok (.tableswitch 160 1 5 #[34, 55, 81, 112, 124], 34) := by decide +kernel
theorem dX12_may_64 : decode cX12_may 64 = .ok (.iload_n 3, 1) := by decide +kernel
theorem dX12_may_65 : decode cX12_may 65 = .ok (.ifCond .eq 18, 3) := by decide +kernel
theorem dX12_may_68 : decode cX12_may 68 = .ok (.aload_n 0, 1) := by decide +kernel
theorem dX12_may_69 : decode cX12_may 69 = .ok (.getfield 38, 3) := by decide +kernel
theorem dX12_may_72 : decode cX12_may 72 = .ok (.iload_n 1, 1) := by decide +kernel
theorem dX12_may_73 : decode cX12_may 73 = .ok (.iaload, 1) := by decide +kernel
theorem dX12_may_74 : decode cX12_may 74 = .ok (.bipush 15, 2) := by decide +kernel
theorem dX12_may_76 : decode cX12_may 76 = .ok (.if_icmp .le 7, 3) := by decide +kernel
theorem dX12_may_79 : decode cX12_may 79 = .ok (.iconst 1, 1) := by decide +kernel
theorem dX12_may_80 : decode cX12_may 80 = .ok (.goto 4, 3) := by decide +kernel
theorem dX12_may_83 : decode cX12_may 83 = .ok (.iconst 0, 1) := by decide +kernel
theorem dX12_may_84 : decode cX12_may 84 = .ok (.ireturn, 1) := by decide +kernel
theorem dX12_may_85 : decode cX12_may 85 = .ok (.iload_n 3, 1) := by decide +kernel
theorem dX12_may_86 : decode cX12_may 86 = .ok (.ifCond .eq 23, 3) := by decide +kernel
theorem dX12_may_89 : decode cX12_may 89 = .ok (.iload_n 2, 1) := by decide +kernel
theorem dX12_may_90 : decode cX12_may 90 = .ok (.iconst 2, 1) := by decide +kernel
theorem dX12_may_91 : decode cX12_may 91 = .ok (.irem, 1) := by decide +kernel
theorem dX12_may_92 : decode cX12_may 92 = .ok (.ifCond .eq 13, 3) := by decide +kernel
theorem dX12_may_95 : decode cX12_may 95 = .ok (.aload_n 0, 1) := by decide +kernel
theorem dX12_may_96 : decode cX12_may 96 = .ok (.getfield 41, 3) := by decide +kernel
theorem dX12_may_99 : decode cX12_may 99 = .ok (.iload_n 1, 1) := by decide +kernel
theorem dX12_may_100 : decode cX12_may 100 = .ok (.iaload, 1) := by decide +kernel
theorem dX12_may_101 : decode cX12_may 101 = .ok (.iconst 4, 1) := by decide +kernel
theorem dX12_may_102 : decode cX12_may 102 = .ok (.if_icmp .le 7, 3) := by decide +kernel
theorem dX12_may_105 : decode cX12_may 105 = .ok (.iconst 1, 1) := by decide +kernel
theorem dX12_may_106 : decode cX12_may 106 = .ok (.goto 4, 3) := by decide +kernel
theorem dX12_may_109 : decode cX12_may 109 = .ok (.iconst 0, 1) := by decide +kernel
theorem dX12_may_110 : decode cX12_may 110 = .ok (.ireturn, 1) := by decide +kernel
theorem dX12_may_111 : decode cX12_may 111 = .ok (.iload_n 3, 1) := by decide +kernel
theorem dX12_may_112 : decode cX12_may 112 = .ok (.ifCond .eq 14, 3) := by decide +kernel
theorem dX12_may_115 : decode cX12_may 115 = .ok (.aload_n 0, 1) := by decide +kernel
theorem dX12_may_116 : decode cX12_may 116 = .ok (.getfield 38, 3) := by decide +kernel
theorem dX12_may_119 : decode cX12_may 119 = .ok (.iload_n 1, 1) := by decide +kernel
theorem dX12_may_120 : decode cX12_may 120 = .ok (.iaload, 1) := by decide +kernel
theorem dX12_may_121 : decode cX12_may 121 = .ok (.bipush 15, 2) := by decide +kernel
theorem dX12_may_123 : decode cX12_may 123 = .ok (.if_icmp .gt 13, 3) := by decide +kernel
theorem dX12_may_126 : decode cX12_may 126 = .ok (.iload_n 2, 1) := by decide +kernel
theorem dX12_may_127 : decode cX12_may 127 = .ok (.aload_n 0, 1) := by decide +kernel
theorem dX12_may_128 : decode cX12_may 128 = .ok (.getfield 41, 3) := by decide +kernel
theorem dX12_may_131 : decode cX12_may 131 = .ok (.iload_n 1, 1) := by decide +kernel
theorem dX12_may_132 : decode cX12_may 132 = .ok (.iaload, 1) := by decide +kernel
theorem dX12_may_133 : decode cX12_may 133 = .ok (.if_icmp .ne 7, 3) := by decide +kernel
theorem dX12_may_136 : decode cX12_may 136 = .ok (.iconst 1, 1) := by decide +kernel
theorem dX12_may_137 : decode cX12_may 137 = .ok (.goto 4, 3) := by decide +kernel
theorem dX12_may_140 : decode cX12_may 140 = .ok (.iconst 0, 1) := by decide +kernel
theorem dX12_may_141 : decode cX12_may 141 = .ok (.ireturn, 1) := by decide +kernel
theorem dX12_may_142 : decode cX12_may 142 = .ok (.iload_n 2, 1) := by decide +kernel
theorem dX12_may_143 : decode cX12_may 143 = .ok (.bipush 6, 2) := by decide +kernel
theorem dX12_may_145 : decode cX12_may 145 = .ok (.if_icmp .lt 7, 3) := by decide +kernel
theorem dX12_may_148 : decode cX12_may 148 = .ok (.iconst 1, 1) := by decide +kernel
theorem dX12_may_149 : decode cX12_may 149 = .ok (.goto 4, 3) := by decide +kernel
theorem dX12_may_152 : decode cX12_may 152 = .ok (.iconst 0, 1) := by decide +kernel
theorem dX12_may_153 : decode cX12_may 153 = .ok (.ireturn, 1) := by decide +kernel
theorem dX12_may_154 : decode cX12_may 154 = .ok (.iload_n 2, 1) := by decide +kernel
theorem dX12_may_155 : decode cX12_may 155 = .ok (.i2l, 1) := by decide +kernel
theorem dX12_may_156 : decode cX12_may 156 = .ok (.ldc2_w 173, 3) := by decide +kernel
theorem dX12_may_159 : decode cX12_may 159 = .ok (.ldc2_w 177, 3) := by decide +kernel
theorem dX12_may_162 : decode cX12_may 162 = .ok (.invokestatic 134, 3) := by decide +kernel
theorem dX12_may_165 : decode cX12_may 165 = .ok (.ifCond .eq 23, 3) := by decide +kernel
theorem dX12_may_168 : decode cX12_may 168 = .ok (.iload_n 2, 1) := by decide +kernel
theorem dX12_may_169 : decode cX12_may 169 = .ok (.iconst 2, 1) := by decide +kernel
theorem dX12_may_170 : decode cX12_may 170 = .ok (.irem, 1) := by decide +kernel
theorem dX12_may_171 : decode cX12_may 171 = .ok (.ifCond .eq 13, 3) := by decide +kernel
theorem dX12_may_174 : decode cX12_may 174 = .ok (.aload_n 0, 1) := by decide +kernel
theorem dX12_may_175 : decode cX12_may 175 = .ok (.getfield 41, 3) := by decide +kernel
theorem dX12_may_178 : decode cX12_may 178 = .ok (.iload_n 1, 1) := by decide +kernel
theorem dX12_may_179 : decode cX12_may 179 = .ok (.iaload, 1) := by decide +kernel
theorem dX12_may_180 : decode cX12_may 180 = .ok (.iconst 4, 1) := by decide +kernel
theorem dX12_may_181 : decode cX12_may 181 = .ok (.if_icmp .le 7, 3) := by decide +kernel
theorem dX12_may_184 : decode cX12_may 184 = .ok (.iconst 1, 1) := by decide +kernel
theorem dX12_may_185 : decode cX12_may 185 = .ok (.goto 4, 3) := by decide +kernel
theorem dX12_may_188 : decode cX12_may 188 = .ok (.iconst 0, 1) := by decide +kernel
theorem dX12_may_189 : decode cX12_may 189 = .ok (.ireturn, 1) := by decide +kernel
theorem dX12_may_190 : decode cX12_may 190 = .ok (.iload_n 3, 1) := by decide +kernel
theorem dX12_may_191 : decode cX12_may 191 = .ok (.ireturn, 1) := by decide +kernel
theorem dX12_partsOf_0 : decode cX12_partsOf 0 = .ok (.aload_n 0, 1) := by decide +kernel
theorem dX12_partsOf_1 : decode cX12_partsOf 1 = .ok (.getfield 35, 3) := by decide +kernel
theorem dX12_partsOf_4 : decode cX12_partsOf 4 = .ok (.iload_n 1, 1) := by decide +kernel
theorem dX12_partsOf_5 : decode cX12_partsOf 5 = .ok (.iaload, 1) := by decide +kernel
theorem dX12_partsOf_6 : decode cX12_partsOf 6 = .ok (.istore_n 2, 1) := by decide +kernel
theorem dX12_partsOf_7 : decode cX12_partsOf 7 = .ok (.iload_n 2, 1) := by decide +kernel
theorem dX12_partsOf_8 : decode cX12_partsOf 8 = .ok (.iconst 1, 1) := by decide +kernel
theorem dX12_partsOf_9 : decode cX12_partsOf 9 = .ok (.if_icmp .ne 7, 3) := by decide +kernel
theorem dX12_partsOf_12 : decode cX12_partsOf 12 = .ok (.iconst 3, 1) := by decide +kernel
theorem dX12_partsOf_13 : decode cX12_partsOf 13 = .ok (.goto 32, 3) := by decide +kernel
theorem dX12_partsOf_16 : decode cX12_partsOf 16 = .ok (.iload_n 2, 1) := by decide +kernel
theorem dX12_partsOf_17 : decode cX12_partsOf 17 = .ok (.iconst 3, 1) := by decide +kernel
theorem dX12_partsOf_18 : decode cX12_partsOf 18 = .ok (.if_icmp .ne 8, 3) := by decide +kernel
theorem dX12_partsOf_21 : decode cX12_partsOf 21 = .ok (.bipush 6, 2) := by decide +kernel
theorem dX12_partsOf_23 : decode cX12_partsOf 23 = .ok (.goto 22, 3) := by decide +kernel
theorem dX12_partsOf_26 : decode cX12_partsOf 26 = .ok (.iload_n 2, 1) := by decide +kernel
theorem dX12_partsOf_27 : decode cX12_partsOf 27 = .ok (.iconst 4, 1) := by decide +kernel
theorem dX12_partsOf_28 : decode cX12_partsOf 28 = .ok (.if_icmp .ne 7, 3) := by decide +kernel
theorem dX12_partsOf_31 : decode cX12_partsOf 31 = .ok (.iconst 2, 1) := by decide +kernel
theorem dX12_partsOf_32 : decode cX12_partsOf 32 = .ok (.goto 13, 3) := by decide +kernel
theorem dX12_partsOf_35 : decode cX12_partsOf 35 = .ok (.iload_n 2, 1) := by decide +kernel
theorem dX12_partsOf_36 : decode cX12_partsOf 36 = .ok (.iconst 5, 1) := by decide +kernel
theorem dX12_partsOf_37 : decode cX12_partsOf 37 = .ok (.if_icmp .ne 7, 3) := by decide +kernel
theorem dX12_partsOf_40 : decode cX12_partsOf 40 = .ok (.iconst 5, 1) := by decide +kernel
theorem dX12_partsOf_41 : decode cX12_partsOf 41 = .ok (.goto 4, 3) := by decide +kernel
theorem dX12_partsOf_44 : decode cX12_partsOf 44 = .ok (.iconst 4, 1) := by decide +kernel
theorem dX12_partsOf_45 : decode cX12_partsOf 45 = .ok (.ireturn, 1) := by decide +kernel
theorem dX12_told_0 : decode cX12_told 0 = .ok (.aload_n 0, 1) := by decide +kernel
theorem dX12_told_1 : decode cX12_told 1 = .ok (.iload_n 1, 1) := by decide +kernel
theorem dX12_told_2 : decode cX12_told 2 = .ok (.invokevirtual 170, 3) := by decide +kernel
theorem dX12_told_5 : decode cX12_told 5 = .ok (.ifCond .eq 10, 3) := by decide +kernel
theorem dX12_told_8 : decode cX12_told 8 = .ok (.iload_n 2, 1) := by decide +kernel
theorem dX12_told_9 : decode cX12_told 9 = .ok (.invokestatic 179, 3) := by decide +kernel
theorem dX12_told_12 : decode cX12_told 12 = .ok (.ifCond .ne 6, 3) := by decide +kernel
theorem dX12_told_15 : decode cX12_told 15 = .ok (.ldc 182, 2) := by decide +kernel
theorem dX12_told_17 : decode cX12_told 17 = .ok (.ireturn, 1) := by decide +kernel
theorem dX12_told_18 : decode cX12_told 18 = .ok (.iload_n 3, 1) := by decide +kernel
theorem dX12_told_19 : decode cX12_told 19 = .ok (.tableswitch 140 0 10 #[57, 64, 71, 78, 85, 92, 99, 106, 112, 127, 133], 57) := by decide +kernel
theorem dX12_told_76 : decode cX12_told 76 = .ok (.aload_n 0, 1) := by decide +kernel
theorem dX12_told_77 : decode cX12_told 77 = .ok (.getfield 35, 3) := by decide +kernel
theorem dX12_told_80 : decode cX12_told 80 = .ok (.iload_n 1, 1) := by decide +kernel
theorem dX12_told_81 : decode cX12_told 81 = .ok (.iaload, 1) := by decide +kernel
theorem dX12_told_82 : decode cX12_told 82 = .ok (.ireturn, 1) := by decide +kernel
theorem dX12_told_83 : decode cX12_told 83 = .ok (.aload_n 0, 1) := by decide +kernel
theorem dX12_told_84 : decode cX12_told 84 = .ok (.getfield 38, 3) := by decide +kernel
theorem dX12_told_87 : decode cX12_told 87 = .ok (.iload_n 1, 1) := by decide +kernel
theorem dX12_told_88 : decode cX12_told 88 = .ok (.iaload, 1) := by decide +kernel
theorem dX12_told_89 : decode cX12_told 89 = .ok (.ireturn, 1) := by decide +kernel
theorem dX12_told_90 : decode cX12_told 90 = .ok (.aload_n 0, 1) := by decide +kernel
theorem dX12_told_91 : decode cX12_told 91 = .ok (.getfield 41, 3) := by decide +kernel
theorem dX12_told_94 : decode cX12_told 94 = .ok (.iload_n 1, 1) := by decide +kernel
theorem dX12_told_95 : decode cX12_told 95 = .ok (.iaload, 1) := by decide +kernel
theorem dX12_told_96 : decode cX12_told 96 = .ok (.ireturn, 1) := by decide +kernel
theorem dX12_told_97 : decode cX12_told 97 = .ok (.aload_n 0, 1) := by decide +kernel
theorem dX12_told_98 : decode cX12_told 98 = .ok (.getfield 44, 3) := by decide +kernel
theorem dX12_told_101 : decode cX12_told 101 = .ok (.iload_n 1, 1) := by decide +kernel
theorem dX12_told_102 : decode cX12_told 102 = .ok (.iaload, 1) := by decide +kernel
theorem dX12_told_103 : decode cX12_told 103 = .ok (.ireturn, 1) := by decide +kernel
theorem dX12_told_104 : decode cX12_told 104 = .ok (.aload_n 0, 1) := by decide +kernel
theorem dX12_told_105 : decode cX12_told 105 = .ok (.getfield 47, 3) := by decide +kernel
theorem dX12_told_108 : decode cX12_told 108 = .ok (.iload_n 1, 1) := by decide +kernel
theorem dX12_told_109 : decode cX12_told 109 = .ok (.iaload, 1) := by decide +kernel
theorem dX12_told_110 : decode cX12_told 110 = .ok (.ireturn, 1) := by decide +kernel
theorem dX12_told_111 : decode cX12_told 111 = .ok (.aload_n 0, 1) := by decide +kernel
theorem dX12_told_112 : decode cX12_told 112 = .ok (.getfield 50, 3) := by decide +kernel
theorem dX12_told_115 : decode cX12_told 115 = .ok (.iload_n 1, 1) := by decide +kernel
theorem dX12_told_116 : decode cX12_told 116 = .ok (.iaload, 1) := by decide +kernel
theorem dX12_told_117 : decode cX12_told 117 = .ok (.ireturn, 1) := by decide +kernel
theorem dX12_told_118 : decode cX12_told 118 = .ok (.aload_n 0, 1) := by decide +kernel
theorem dX12_told_119 : decode cX12_told 119 = .ok (.getfield 53, 3) := by decide +kernel
theorem dX12_told_122 : decode cX12_told 122 = .ok (.iload_n 1, 1) := by decide +kernel
theorem dX12_told_123 : decode cX12_told 123 = .ok (.iaload, 1) := by decide +kernel
theorem dX12_told_124 : decode cX12_told 124 = .ok (.ireturn, 1) := by decide +kernel
theorem dX12_told_125 : decode cX12_told 125 = .ok (.aload_n 0, 1) := by decide +kernel
theorem dX12_told_126 : decode cX12_told 126 = .ok (.iload_n 1, 1) := by decide +kernel
theorem dX12_told_127 : decode cX12_told 127 = .ok (.invokevirtual 183, 3) := by decide +kernel
theorem dX12_told_130 : decode cX12_told 130 = .ok (.ireturn, 1) := by decide +kernel
theorem dX12_told_131 : decode cX12_told 131 = .ok (.aload_n 0, 1) := by decide +kernel
theorem dX12_told_132 : decode cX12_told 132 = .ok (.iload_n 1, 1) := by decide +kernel
theorem dX12_told_133 : decode cX12_told 133 = .ok (.iload_n 2, 1) := by decide +kernel
theorem dX12_told_134 : decode cX12_told 134 = .ok (.invokevirtual 187, 3) := by decide +kernel
theorem dX12_told_137 : decode cX12_told 137 = .ok (.ifCond .eq 7, 3) := by decide +kernel
theorem dX12_told_140 : decode cX12_told 140 = .ok (.iconst 1, 1) := by decide +kernel
theorem dX12_told_141 : decode cX12_told 141 = .ok (.goto 4, 3) := by decide +kernel
theorem dX12_told_144 : decode cX12_told 144 = .ok (.iconst 0, 1) := by decide +kernel
theorem dX12_told_145 : decode cX12_told 145 = .ok (.ireturn, 1) := by decide +kernel
theorem dX12_told_146 : decode cX12_told 146 = .ok (.aload_n 0, 1) := by decide +kernel
theorem dX12_told_147 : decode cX12_told 147 = .ok (.iload_n 1, 1) := by decide +kernel
theorem dX12_told_148 : decode cX12_told 148 = .ok (.invokevirtual 191, 3) := by decide +kernel
theorem dX12_told_151 : decode cX12_told 151 = .ok (.ireturn, 1) := by decide +kernel
theorem dX12_told_152 : decode cX12_told 152 = .ok (.aload_n 0, 1) := by decide +kernel
theorem dX12_told_153 : decode cX12_told 153 = .ok (.iload_n 1, 1) := by decide +kernel
theorem dX12_told_154 : decode cX12_told 154 = .ok (.iload_n 2, 1) := by decide +kernel
theorem dX12_told_155 : decode cX12_told 155 = .ok (.invokevirtual 194, 3) := by decide +kernel
theorem dX12_told_158 : decode cX12_told 158 = .ok (.ireturn, 1) := by decide +kernel
theorem dX12_told_159 : decode cX12_told 159 = .ok (.ldc 182, 2) := by decide +kernel
theorem dX12_told_161 : decode cX12_told 161 = .ok (.ireturn, 1) := by decide +kernel
theorem dX12_feed_0 : decode cX12_feed 0 = .ok (.iload_n 1, 1) := by decide +kernel
theorem dX12_feed_1 : decode cX12_feed 1 = .ok (.i2l, 1) := by decide +kernel
theorem dX12_feed_2 : decode cX12_feed 2 = .ok (.lconst 1, 1) := by decide +kernel
theorem dX12_feed_3 : decode cX12_feed 3 = .ok (.ldc2_w 198, 3) := by decide +kernel
theorem dX12_feed_6 : decode cX12_feed 6 = .ok (.invokestatic 134, 3) := by decide +kernel
theorem dX12_feed_9 : decode cX12_feed 9 = .ok (.ifCond .ne 6, 3) := by decide +kernel
theorem dX12_feed_12 : decode cX12_feed 12 = .ok (.bipush (-2), 2) := by decide +kernel
theorem dX12_feed_14 : decode cX12_feed 14 = .ok (.ireturn, 1) := by decide +kernel
theorem dX12_feed_15 : decode cX12_feed 15 = .ok (.aload_n 0, 1) := by decide +kernel
theorem dX12_feed_16 : decode cX12_feed 16 = .ok (.getfield 200, 3) := by decide +kernel
theorem dX12_feed_19 : decode cX12_feed 19 = .ok (.iload_n 1, 1) := by decide +kernel
theorem dX12_feed_20 : decode cX12_feed 20 = .ok (.iadd, 1) := by decide +kernel
theorem dX12_feed_21 : decode cX12_feed 21 = .ok (.sipush 160, 3) := by decide +kernel
theorem dX12_feed_24 : decode cX12_feed 24 = .ok (.if_icmp .le 6, 3) := by decide +kernel
theorem dX12_feed_27 : decode cX12_feed 27 = .ok (.bipush (-4), 2) := by decide +kernel
theorem dX12_feed_29 : decode cX12_feed 29 = .ok (.ireturn, 1) := by decide +kernel
theorem dX12_feed_30 : decode cX12_feed 30 = .ok (.iconst 0, 1) := by decide +kernel
theorem dX12_feed_31 : decode cX12_feed 31 = .ok (.istore 4, 2) := by decide +kernel
theorem dX12_feed_33 : decode cX12_feed 33 = .ok (.iload 4, 2) := by decide +kernel
theorem dX12_feed_35 : decode cX12_feed 35 = .ok (.iload_n 1, 1) := by decide +kernel
theorem dX12_feed_36 : decode cX12_feed 36 = .ok (.if_icmp .ge 40, 3) := by decide +kernel
theorem dX12_feed_39 : decode cX12_feed 39 = .ok (.aload_n 0, 1) := by decide +kernel
theorem dX12_feed_40 : decode cX12_feed 40 = .ok (.getfield 20, 3) := by decide +kernel
theorem dX12_feed_43 : decode cX12_feed 43 = .ok (.aload_n 0, 1) := by decide +kernel
theorem dX12_feed_44 : decode cX12_feed 44 = .ok (.getfield 200, 3) := by decide +kernel
theorem dX12_feed_47 : decode cX12_feed 47 = .ok (.lload_n 2, 1) := by decide +kernel
theorem dX12_feed_48 : decode cX12_feed 48 = .ok (.bipush 8, 2) := by decide +kernel
theorem dX12_feed_50 : decode cX12_feed 50 = .ok (.iload 4, 2) := by decide +kernel
theorem dX12_feed_52 : decode cX12_feed 52 = .ok (.imul, 1) := by decide +kernel
theorem dX12_feed_53 : decode cX12_feed 53 = .ok (.lshr, 1) := by decide +kernel
theorem dX12_feed_54 : decode cX12_feed 54 = .ok (.ldc2_w 129, 3) := by decide +kernel
theorem dX12_feed_57 : decode cX12_feed 57 = .ok (.land, 1) := by decide +kernel
theorem dX12_feed_58 : decode cX12_feed 58 = .ok (.l2i, 1) := by decide +kernel
theorem dX12_feed_59 : decode cX12_feed 59 = .ok (.iastore, 1) := by decide +kernel
theorem dX12_feed_60 : decode cX12_feed 60 = .ok (.aload_n 0, 1) := by decide +kernel
theorem dX12_feed_61 : decode cX12_feed 61 = .ok (.dup, 1) := by decide +kernel
theorem dX12_feed_62 : decode cX12_feed 62 = .ok (.getfield 200, 3) := by decide +kernel
theorem dX12_feed_65 : decode cX12_feed 65 = .ok (.iconst 1, 1) := by decide +kernel
theorem dX12_feed_66 : decode cX12_feed 66 = .ok (.iadd, 1) := by decide +kernel
theorem dX12_feed_67 : decode cX12_feed 67 = .ok (.putfield 200, 3) := by decide +kernel
theorem dX12_feed_70 : decode cX12_feed 70 = .ok (.iinc 4 1, 3) := by decide +kernel
theorem dX12_feed_73 : decode cX12_feed 73 = .ok (.goto (-40), 3) := by decide +kernel
theorem dX12_feed_76 : decode cX12_feed 76 = .ok (.aload_n 0, 1) := by decide +kernel
theorem dX12_feed_77 : decode cX12_feed 77 = .ok (.getfield 200, 3) := by decide +kernel
theorem dX12_feed_80 : decode cX12_feed 80 = .ok (.ireturn, 1) := by decide +kernel
theorem dX12_byteAt_0 : decode cX12_byteAt 0 = .ok (.iload_n 1, 1) := by decide +kernel
theorem dX12_byteAt_1 : decode cX12_byteAt 1 = .ok (.aload_n 0, 1) := by decide +kernel
theorem dX12_byteAt_2 : decode cX12_byteAt 2 = .ok (.getfield 203, 3) := by decide +kernel
theorem dX12_byteAt_5 : decode cX12_byteAt 5 = .ok (.if_icmp .ge 17, 3) := by decide +kernel
theorem dX12_byteAt_8 : decode cX12_byteAt 8 = .ok (.aload_n 0, 1) := by decide +kernel
theorem dX12_byteAt_9 : decode cX12_byteAt 9 = .ok (.getfield 13, 3) := by decide +kernel
theorem dX12_byteAt_12 : decode cX12_byteAt 12 = .ok (.aload_n 0, 1) := by decide +kernel
theorem dX12_byteAt_13 : decode cX12_byteAt 13 = .ok (.getfield 206, 3) := by decide +kernel
theorem dX12_byteAt_16 : decode cX12_byteAt 16 = .ok (.iload_n 1, 1) := by decide +kernel
theorem dX12_byteAt_17 : decode cX12_byteAt 17 = .ok (.iadd, 1) := by decide +kernel
theorem dX12_byteAt_18 : decode cX12_byteAt 18 = .ok (.iaload, 1) := by decide +kernel
theorem dX12_byteAt_19 : decode cX12_byteAt 19 = .ok (.goto 4, 3) := by decide +kernel
theorem dX12_byteAt_22 : decode cX12_byteAt 22 = .ok (.iconst (-1), 1) := by decide +kernel
theorem dX12_byteAt_23 : decode cX12_byteAt 23 = .ok (.ireturn, 1) := by decide +kernel
theorem dX12_next_0 : decode cX12_next 0 = .ok (.aload_n 0, 1) := by decide +kernel
theorem dX12_next_1 : decode cX12_next 1 = .ok (.aload_n 0, 1) := by decide +kernel
theorem dX12_next_2 : decode cX12_next 2 = .ok (.getfield 209, 3) := by decide +kernel
theorem dX12_next_5 : decode cX12_next 5 = .ok (.invokevirtual 212, 3) := by decide +kernel
theorem dX12_next_8 : decode cX12_next 8 = .ok (.bipush 32, 2) := by decide +kernel
theorem dX12_next_10 : decode cX12_next 10 = .ok (.if_icmp .eq 16, 3) := by decide +kernel
theorem dX12_next_13 : decode cX12_next 13 = .ok (.aload_n 0, 1) := by decide +kernel
theorem dX12_next_14 : decode cX12_next 14 = .ok (.aload_n 0, 1) := by decide +kernel
theorem dX12_next_15 : decode cX12_next 15 = .ok (.getfield 209, 3) := by decide +kernel
theorem dX12_next_18 : decode cX12_next 18 = .ok (.invokevirtual 212, 3) := by decide +kernel
theorem dX12_next_21 : decode cX12_next 21 = .ok (.bipush 10, 2) := by decide +kernel
theorem dX12_next_23 : decode cX12_next 23 = .ok (.if_icmp .ne 16, 3) := by decide +kernel
theorem dX12_next_26 : decode cX12_next 26 = .ok (.aload_n 0, 1) := by decide +kernel
theorem dX12_next_27 : decode cX12_next 27 = .ok (.dup, 1) := by decide +kernel
theorem dX12_next_28 : decode cX12_next 28 = .ok (.getfield 209, 3) := by decide +kernel
theorem dX12_next_31 : decode cX12_next 31 = .ok (.iconst 1, 1) := by decide +kernel
theorem dX12_next_32 : decode cX12_next 32 = .ok (.iadd, 1) := by decide +kernel
theorem dX12_next_33 : decode cX12_next 33 = .ok (.putfield 209, 3) := by decide +kernel
theorem dX12_next_36 : decode cX12_next 36 = .ok (.goto (-36), 3) := by decide +kernel
theorem dX12_next_39 : decode cX12_next 39 = .ok (.aload_n 0, 1) := by decide +kernel
theorem dX12_next_40 : decode cX12_next 40 = .ok (.aload_n 0, 1) := by decide +kernel
theorem dX12_next_41 : decode cX12_next 41 = .ok (.getfield 209, 3) := by decide +kernel
theorem dX12_next_44 : decode cX12_next 44 = .ok (.putfield 215, 3) := by decide +kernel
theorem dX12_next_47 : decode cX12_next 47 = .ok (.aload_n 0, 1) := by decide +kernel
theorem dX12_next_48 : decode cX12_next 48 = .ok (.aload_n 0, 1) := by decide +kernel
theorem dX12_next_49 : decode cX12_next 49 = .ok (.getfield 209, 3) := by decide +kernel
theorem dX12_next_52 : decode cX12_next 52 = .ok (.invokevirtual 212, 3) := by decide +kernel
theorem dX12_next_55 : decode cX12_next 55 = .ok (.istore_n 1, 1) := by decide +kernel
theorem dX12_next_56 : decode cX12_next 56 = .ok (.aload_n 0, 1) := by decide +kernel
theorem dX12_next_57 : decode cX12_next 57 = .ok (.iconst 4, 1) := by decide +kernel
theorem dX12_next_58 : decode cX12_next 58 = .ok (.putfield 218, 3) := by decide +kernel
theorem dX12_next_61 : decode cX12_next 61 = .ok (.iload_n 1, 1) := by decide +kernel
theorem dX12_next_62 : decode cX12_next 62 = .ok (.ifCond .ge 19, 3) := by decide +kernel
theorem dX12_next_65 : decode cX12_next 65 = .ok (.aload_n 0, 1) := by decide +kernel
theorem dX12_next_66 : decode cX12_next 66 = .ok (.iconst 0, 1) := by decide +kernel
theorem dX12_next_67 : decode cX12_next 67 = .ok (.putfield 218, 3) := by decide +kernel
theorem dX12_next_70 : decode cX12_next 70 = .ok (.aload_n 0, 1) := by decide +kernel
theorem dX12_next_71 : decode cX12_next 71 = .ok (.aload_n 0, 1) := by decide +kernel
theorem dX12_next_72 : decode cX12_next 72 = .ok (.getfield 203, 3) := by decide +kernel
theorem dX12_next_75 : decode cX12_next 75 = .ok (.putfield 215, 3) := by decide +kernel
theorem dX12_next_78 : decode cX12_next 78 = .ok (.goto 294, 3) := by decide +kernel
theorem dX12_next_81 : decode cX12_next 81 = .ok (.iload_n 1, 1) := by decide +kernel
theorem dX12_next_82 : decode cX12_next 82 = .ok (.i2l, 1) := by decide +kernel
theorem dX12_next_83 : decode cX12_next 83 = .ok (.ldc2_w 221, 3) := by decide +kernel
theorem dX12_next_86 : decode cX12_next 86 = .ok (.ldc2_w 223, 3) := by decide +kernel
theorem dX12_next_89 : decode cX12_next 89 = .ok (.invokestatic 134, 3) := by decide +kernel
theorem dX12_next_92 : decode cX12_next 92 = .ok (.ifCond .eq 93, 3) := by decide +kernel
theorem dX12_next_95 : decode cX12_next 95 = .ok (.aload_n 0, 1) := by decide +kernel
theorem dX12_next_96 : decode cX12_next 96 = .ok (.iconst 1, 1) := by decide +kernel
theorem dX12_next_97 : decode cX12_next 97 = .ok (.putfield 218, 3) := by decide +kernel
theorem dX12_next_100 : decode cX12_next 100 = .ok (.aload_n 0, 1) := by decide +kernel
theorem dX12_next_101 : decode cX12_next 101 = .ok (.lconst 0, 1) := by decide +kernel
theorem dX12_next_102 : decode cX12_next 102 = .ok (.putfield 225, 3) := by decide +kernel
theorem dX12_next_105 : decode cX12_next 105 = .ok (.iconst 0, 1) := by decide +kernel
theorem dX12_next_106 : decode cX12_next 106 = .ok (.istore_n 2, 1) := by decide +kernel
theorem dX12_next_107 : decode cX12_next 107 = .ok (.aload_n 0, 1) := by decide +kernel
theorem dX12_next_108 : decode cX12_next 108 = .ok (.aload_n 0, 1) := by decide +kernel
theorem dX12_next_109 : decode cX12_next 109 = .ok (.getfield 209, 3) := by decide +kernel
theorem dX12_next_112 : decode cX12_next 112 = .ok (.invokevirtual 212, 3) := by decide +kernel
theorem dX12_next_115 : decode cX12_next 115 = .ok (.i2l, 1) := by decide +kernel
theorem dX12_next_116 : decode cX12_next 116 = .ok (.ldc2_w 221, 3) := by decide +kernel
theorem dX12_next_119 : decode cX12_next 119 = .ok (.ldc2_w 223, 3) := by decide +kernel
theorem dX12_next_122 : decode cX12_next 122 = .ok (.invokestatic 134, 3) := by decide +kernel
theorem dX12_next_125 : decode cX12_next 125 = .ok (.ifCond .eq 57, 3) := by decide +kernel
theorem dX12_next_128 : decode cX12_next 128 = .ok (.aload_n 0, 1) := by decide +kernel
theorem dX12_next_129 : decode cX12_next 129 = .ok (.iload_n 2, 1) := by decide +kernel
theorem dX12_next_130 : decode cX12_next 130 = .ok (.bipush 8, 2) := by decide +kernel
theorem dX12_next_132 : decode cX12_next 132 = .ok (.if_icmp .ge 28, 3) := by decide +kernel
theorem dX12_next_135 : decode cX12_next 135 = .ok (.ldc2_w 229, 3) := by decide +kernel
theorem dX12_next_138 : decode cX12_next 138 = .ok (.aload_n 0, 1) := by decide +kernel
theorem dX12_next_139 : decode cX12_next 139 = .ok (.getfield 225, 3) := by decide +kernel
theorem dX12_next_142 : decode cX12_next 142 = .ok (.lmul, 1) := by decide +kernel
theorem dX12_next_143 : decode cX12_next 143 = .ok (.aload_n 0, 1) := by decide +kernel
theorem dX12_next_144 : decode cX12_next 144 = .ok (.aload_n 0, 1) := by decide +kernel
theorem dX12_next_145 : decode cX12_next 145 = .ok (.getfield 209, 3) := by decide +kernel
theorem dX12_next_148 : decode cX12_next 148 = .ok (.invokevirtual 212, 3) := by decide +kernel
theorem dX12_next_151 : decode cX12_next 151 = .ok (.i2l, 1) := by decide +kernel
theorem dX12_next_152 : decode cX12_next 152 = .ok (.ladd, 1) := by decide +kernel
theorem dX12_next_153 : decode cX12_next 153 = .ok (.ldc2_w 231, 3) := by decide +kernel
theorem dX12_next_156 : decode cX12_next 156 = .ok (.lsub, 1) := by decide +kernel
theorem dX12_next_157 : decode cX12_next 157 = .ok (.goto 6, 3) := by decide +kernel
theorem dX12_next_160 : decode cX12_next 160 = .ok (.ldc2_w 233, 3) := by decide +kernel
theorem dX12_next_163 : decode cX12_next 163 = .ok (.putfield 225, 3) := by decide +kernel
theorem dX12_next_166 : decode cX12_next 166 = .ok (.iinc 2 1, 3) := by decide +kernel
theorem dX12_next_169 : decode cX12_next 169 = .ok (.aload_n 0, 1) := by decide +kernel
theorem dX12_next_170 : decode cX12_next 170 = .ok (.dup, 1) := by decide +kernel
theorem dX12_next_171 : decode cX12_next 171 = .ok (.getfield 209, 3) := by decide +kernel
theorem dX12_next_174 : decode cX12_next 174 = .ok (.iconst 1, 1) := by decide +kernel
theorem dX12_next_175 : decode cX12_next 175 = .ok (.iadd, 1) := by decide +kernel
theorem dX12_next_176 : decode cX12_next 176 = .ok (.putfield 209, 3) := by decide +kernel
theorem dX12_next_179 : decode cX12_next 179 = .ok (.goto (-72), 3) := by decide +kernel
theorem dX12_next_182 : decode cX12_next 182 = .ok (.goto 190, 3) := by decide +kernel
theorem dX12_next_185 : decode cX12_next 185 = .ok (.iload_n 1, 1) := by decide +kernel
theorem dX12_next_186 : decode cX12_next 186 = .ok (.i2l, 1) := by decide +kernel
theorem dX12_next_187 : decode cX12_next 187 = .ok (.ldc2_w 235, 3) := by decide +kernel
theorem dX12_next_190 : decode cX12_next 190 = .ok (.ldc2_w 237, 3) := by decide +kernel
theorem dX12_next_193 : decode cX12_next 193 = .ok (.invokestatic 134, 3) := by decide +kernel
theorem dX12_next_196 : decode cX12_next 196 = .ok (.ifCond .eq 107, 3) := by decide +kernel
theorem dX12_next_199 : decode cX12_next 199 = .ok (.aload_n 0, 1) := by decide +kernel
theorem dX12_next_200 : decode cX12_next 200 = .ok (.iconst 2, 1) := by decide +kernel
theorem dX12_next_201 : decode cX12_next 201 = .ok (.putfield 218, 3) := by decide +kernel
theorem dX12_next_204 : decode cX12_next 204 = .ok (.aload_n 0, 1) := by decide +kernel
theorem dX12_next_205 : decode cX12_next 205 = .ok (.lconst 0, 1) := by decide +kernel
theorem dX12_next_206 : decode cX12_next 206 = .ok (.putfield 225, 3) := by decide +kernel
theorem dX12_next_209 : decode cX12_next 209 = .ok (.iconst 0, 1) := by decide +kernel
theorem dX12_next_210 : decode cX12_next 210 = .ok (.istore_n 2, 1) := by decide +kernel
theorem dX12_next_211 : decode cX12_next 211 = .ok (.aload_n 0, 1) := by decide +kernel
theorem dX12_next_212 : decode cX12_next 212 = .ok (.aload_n 0, 1) := by decide +kernel
theorem dX12_next_213 : decode cX12_next 213 = .ok (.getfield 209, 3) := by decide +kernel
theorem dX12_next_216 : decode cX12_next 216 = .ok (.invokevirtual 212, 3) := by decide +kernel
theorem dX12_next_219 : decode cX12_next 219 = .ok (.i2l, 1) := by decide +kernel
theorem dX12_next_220 : decode cX12_next 220 = .ok (.ldc2_w 235, 3) := by decide +kernel
theorem dX12_next_223 : decode cX12_next 223 = .ok (.ldc2_w 237, 3) := by decide +kernel
theorem dX12_next_226 : decode cX12_next 226 = .ok (.invokestatic 134, 3) := by decide +kernel
theorem dX12_next_229 : decode cX12_next 229 = .ok (.ifCond .eq 57, 3) := by decide +kernel
theorem dX12_next_232 : decode cX12_next 232 = .ok (.aload_n 0, 1) := by decide +kernel
theorem dX12_next_233 : decode cX12_next 233 = .ok (.iload_n 2, 1) := by decide +kernel
theorem dX12_next_234 : decode cX12_next 234 = .ok (.iconst 4, 1) := by decide +kernel
theorem dX12_next_235 : decode cX12_next 235 = .ok (.if_icmp .ge 28, 3) := by decide +kernel
theorem dX12_next_238 : decode cX12_next 238 = .ok (.ldc2_w 239, 3) := by decide +kernel
theorem dX12_next_241 : decode cX12_next 241 = .ok (.aload_n 0, 1) := by decide +kernel
theorem dX12_next_242 : decode cX12_next 242 = .ok (.getfield 225, 3) := by decide +kernel
theorem dX12_next_245 : decode cX12_next 245 = .ok (.lmul, 1) := by decide +kernel
theorem dX12_next_246 : decode cX12_next 246 = .ok (.aload_n 0, 1) := by decide +kernel
theorem dX12_next_247 : decode cX12_next 247 = .ok (.aload_n 0, 1) := by decide +kernel
theorem dX12_next_248 : decode cX12_next 248 = .ok (.getfield 209, 3) := by decide +kernel
theorem dX12_next_251 : decode cX12_next 251 = .ok (.invokevirtual 212, 3) := by decide +kernel
theorem dX12_next_254 : decode cX12_next 254 = .ok (.i2l, 1) := by decide +kernel
theorem dX12_next_255 : decode cX12_next 255 = .ok (.ladd, 1) := by decide +kernel
theorem dX12_next_256 : decode cX12_next 256 = .ok (.ldc2_w 235, 3) := by decide +kernel
theorem dX12_next_259 : decode cX12_next 259 = .ok (.lsub, 1) := by decide +kernel
theorem dX12_next_260 : decode cX12_next 260 = .ok (.goto 7, 3) := by decide +kernel
theorem dX12_next_263 : decode cX12_next 263 = .ok (.aload_n 0, 1) := by decide +kernel
theorem dX12_next_264 : decode cX12_next 264 = .ok (.getfield 225, 3) := by decide +kernel
theorem dX12_next_267 : decode cX12_next 267 = .ok (.putfield 225, 3) := by decide +kernel
theorem dX12_next_270 : decode cX12_next 270 = .ok (.iinc 2 1, 3) := by decide +kernel
theorem dX12_next_273 : decode cX12_next 273 = .ok (.aload_n 0, 1) := by decide +kernel
theorem dX12_next_274 : decode cX12_next 274 = .ok (.dup, 1) := by decide +kernel
theorem dX12_next_275 : decode cX12_next 275 = .ok (.getfield 209, 3) := by decide +kernel
theorem dX12_next_278 : decode cX12_next 278 = .ok (.iconst 1, 1) := by decide +kernel
theorem dX12_next_279 : decode cX12_next 279 = .ok (.iadd, 1) := by decide +kernel
theorem dX12_next_280 : decode cX12_next 280 = .ok (.putfield 209, 3) := by decide +kernel
theorem dX12_next_283 : decode cX12_next 283 = .ok (.goto (-72), 3) := by decide +kernel
theorem dX12_next_286 : decode cX12_next 286 = .ok (.aload_n 0, 1) := by decide +kernel
theorem dX12_next_287 : decode cX12_next 287 = .ok (.iload_n 2, 1) := by decide +kernel
theorem dX12_next_288 : decode cX12_next 288 = .ok (.iconst 4, 1) := by decide +kernel
theorem dX12_next_289 : decode cX12_next 289 = .ok (.if_icmp .le 7, 3) := by decide +kernel
theorem dX12_next_292 : decode cX12_next 292 = .ok (.iconst 4, 1) := by decide +kernel
theorem dX12_next_293 : decode cX12_next 293 = .ok (.goto 4, 3) := by decide +kernel
theorem dX12_next_296 : decode cX12_next 296 = .ok (.iconst 2, 1) := by decide +kernel
theorem dX12_next_297 : decode cX12_next 297 = .ok (.putfield 218, 3) := by decide +kernel
theorem dX12_next_300 : decode cX12_next 300 = .ok (.goto 72, 3) := by decide +kernel
theorem dX12_next_303 : decode cX12_next 303 = .ok (.iload_n 1, 1) := by decide +kernel
theorem dX12_next_304 : decode cX12_next 304 = .ok (.bipush 40, 2) := by decide +kernel
theorem dX12_next_306 : decode cX12_next 306 = .ok (.if_icmp .eq 45, 3) := by decide +kernel
theorem dX12_next_309 : decode cX12_next 309 = .ok (.iload_n 1, 1) := by decide +kernel
theorem dX12_next_310 : decode cX12_next 310 = .ok (.bipush 41, 2) := by decide +kernel
theorem dX12_next_312 : decode cX12_next 312 = .ok (.if_icmp .eq 39, 3) := by decide +kernel
theorem dX12_next_315 : decode cX12_next 315 = .ok (.iload_n 1, 1) := by decide +kernel
theorem dX12_next_316 : decode cX12_next 316 = .ok (.bipush 59, 2) := by decide +kernel
theorem dX12_next_318 : decode cX12_next 318 = .ok (.if_icmp .eq 33, 3) := by decide +kernel
theorem dX12_next_321 : decode cX12_next 321 = .ok (.iload_n 1, 1) := by decide +kernel
theorem dX12_next_322 : decode cX12_next 322 = .ok (.bipush 43, 2) := by decide +kernel
theorem dX12_next_324 : decode cX12_next 324 = .ok (.if_icmp .eq 27, 3) := by decide +kernel
theorem dX12_next_327 : decode cX12_next 327 = .ok (.iload_n 1, 1) := by decide +kernel
theorem dX12_next_328 : decode cX12_next 328 = .ok (.bipush 45, 2) := by decide +kernel
theorem dX12_next_330 : decode cX12_next 330 = .ok (.if_icmp .eq 21, 3) := by decide +kernel
theorem dX12_next_333 : decode cX12_next 333 = .ok (.iload_n 1, 1) := by decide +kernel
theorem dX12_next_334 : decode cX12_next 334 = .ok (.bipush 42, 2) := by decide +kernel
theorem dX12_next_336 : decode cX12_next 336 = .ok (.if_icmp .eq 15, 3) := by decide +kernel
theorem dX12_next_339 : decode cX12_next 339 = .ok (.iload_n 1, 1) := by decide +kernel
theorem dX12_next_340 : decode cX12_next 340 = .ok (.bipush 60, 2) := by decide +kernel
theorem dX12_next_342 : decode cX12_next 342 = .ok (.if_icmp .eq 9, 3) := by decide +kernel
theorem dX12_next_345 : decode cX12_next 345 = .ok (.iload_n 1, 1) := by decide +kernel
theorem dX12_next_346 : decode cX12_next 346 = .ok (.bipush 61, 2) := by decide +kernel
theorem dX12_next_348 : decode cX12_next 348 = .ok (.if_icmp .ne 24, 3) := by decide +kernel
theorem dX12_next_351 : decode cX12_next 351 = .ok (.aload_n 0, 1) := by decide +kernel
theorem dX12_next_352 : decode cX12_next 352 = .ok (.iconst 3, 1) := by decide +kernel
theorem dX12_next_353 : decode cX12_next 353 = .ok (.putfield 218, 3) := by decide +kernel
theorem dX12_next_356 : decode cX12_next 356 = .ok (.aload_n 0, 1) := by decide +kernel
theorem dX12_next_357 : decode cX12_next 357 = .ok (.iload_n 1, 1) := by decide +kernel
theorem dX12_next_358 : decode cX12_next 358 = .ok (.i2l, 1) := by decide +kernel
theorem dX12_next_359 : decode cX12_next 359 = .ok (.putfield 225, 3) := by decide +kernel
theorem dX12_next_362 : decode cX12_next 362 = .ok (.aload_n 0, 1) := by decide +kernel
theorem dX12_next_363 : decode cX12_next 363 = .ok (.dup, 1) := by decide +kernel
theorem dX12_next_364 : decode cX12_next 364 = .ok (.getfield 209, 3) := by decide +kernel
theorem dX12_next_367 : decode cX12_next 367 = .ok (.iconst 1, 1) := by decide +kernel
theorem dX12_next_368 : decode cX12_next 368 = .ok (.iadd, 1) := by decide +kernel
theorem dX12_next_369 : decode cX12_next 369 = .ok (.putfield 209, 3) := by decide +kernel
theorem dX12_next_372 : decode cX12_next 372 = .ok (.return_, 1) := by decide +kernel
theorem dX12_fail_0 : decode cX12_fail 0 = .ok (.aload_n 0, 1) := by decide +kernel
theorem dX12_fail_1 : decode cX12_fail 1 = .ok (.getfield 241, 3) := by decide +kernel
theorem dX12_fail_4 : decode cX12_fail 4 = .ok (.ifCond .ne 16, 3) := by decide +kernel
theorem dX12_fail_7 : decode cX12_fail 7 = .ok (.aload_n 0, 1) := by decide +kernel
theorem dX12_fail_8 : decode cX12_fail 8 = .ok (.iconst 1, 1) := by decide +kernel
theorem dX12_fail_9 : decode cX12_fail 9 = .ok (.putfield 241, 3) := by decide +kernel
theorem dX12_fail_12 : decode cX12_fail 12 = .ok (.aload_n 0, 1) := by decide +kernel
theorem dX12_fail_13 : decode cX12_fail 13 = .ok (.aload_n 0, 1) := by decide +kernel
theorem dX12_fail_14 : decode cX12_fail 14 = .ok (.getfield 215, 3) := by decide +kernel
theorem dX12_fail_17 : decode cX12_fail 17 = .ok (.putfield 245, 3) := by decide +kernel
theorem dX12_fail_20 : decode cX12_fail 20 = .ok (.return_, 1) := by decide +kernel
theorem dX12_isWord_0 : decode cX12_isWord 0 = .ok (.aload_n 0, 1) := by decide +kernel
theorem dX12_isWord_1 : decode cX12_isWord 1 = .ok (.getfield 241, 3) := by decide +kernel
theorem dX12_isWord_4 : decode cX12_isWord 4 = .ok (.ifCond .ne 24, 3) := by decide +kernel
theorem dX12_isWord_7 : decode cX12_isWord 7 = .ok (.aload_n 0, 1) := by decide +kernel
theorem dX12_isWord_8 : decode cX12_isWord 8 = .ok (.getfield 218, 3) := by decide +kernel
theorem dX12_isWord_11 : decode cX12_isWord 11 = .ok (.iconst 1, 1) := by decide +kernel
theorem dX12_isWord_12 : decode cX12_isWord 12 = .ok (.if_icmp .ne 16, 3) := by decide +kernel
theorem dX12_isWord_15 : decode cX12_isWord 15 = .ok (.aload_n 0, 1) := by decide +kernel
theorem dX12_isWord_16 : decode cX12_isWord 16 = .ok (.getfield 225, 3) := by decide +kernel
theorem dX12_isWord_19 : decode cX12_isWord 19 = .ok (.lload_n 1, 1) := by decide +kernel
theorem dX12_isWord_20 : decode cX12_isWord 20 = .ok (.lcmp, 1) := by decide +kernel
theorem dX12_isWord_21 : decode cX12_isWord 21 = .ok (.ifCond .ne 7, 3) := by decide +kernel
theorem dX12_isWord_24 : decode cX12_isWord 24 = .ok (.iconst 1, 1) := by decide +kernel
theorem dX12_isWord_25 : decode cX12_isWord 25 = .ok (.goto 4, 3) := by decide +kernel
theorem dX12_isWord_28 : decode cX12_isWord 28 = .ok (.iconst 0, 1) := by decide +kernel
theorem dX12_isWord_29 : decode cX12_isWord 29 = .ok (.ireturn, 1) := by decide +kernel
theorem dX12_isSign_0 : decode cX12_isSign 0 = .ok (.aload_n 0, 1) := by decide +kernel
theorem dX12_isSign_1 : decode cX12_isSign 1 = .ok (.getfield 241, 3) := by decide +kernel
theorem dX12_isSign_4 : decode cX12_isSign 4 = .ok (.ifCond .ne 25, 3) := by decide +kernel
theorem dX12_isSign_7 : decode cX12_isSign 7 = .ok (.aload_n 0, 1) := by decide +kernel
theorem dX12_isSign_8 : decode cX12_isSign 8 = .ok (.getfield 218, 3) := by decide +kernel
theorem dX12_isSign_11 : decode cX12_isSign 11 = .ok (.iconst 3, 1) := by decide +kernel
theorem dX12_isSign_12 : decode cX12_isSign 12 = .ok (.if_icmp .ne 17, 3) := by decide +kernel
theorem dX12_isSign_15 : decode cX12_isSign 15 = .ok (.aload_n 0, 1) := by decide +kernel
theorem dX12_isSign_16 : decode cX12_isSign 16 = .ok (.getfield 225, 3) := by decide +kernel
theorem dX12_isSign_19 : decode cX12_isSign 19 = .ok (.iload_n 1, 1) := by decide +kernel
theorem dX12_isSign_20 : decode cX12_isSign 20 = .ok (.i2l, 1) := by decide +kernel
theorem dX12_isSign_21 : decode cX12_isSign 21 = .ok (.lcmp, 1) := by decide +kernel
theorem dX12_isSign_22 : decode cX12_isSign 22 = .ok (.ifCond .ne 7, 3) := by decide +kernel
theorem dX12_isSign_25 : decode cX12_isSign 25 = .ok (.iconst 1, 1) := by decide +kernel
theorem dX12_isSign_26 : decode cX12_isSign 26 = .ok (.goto 4, 3) := by decide +kernel
theorem dX12_isSign_29 : decode cX12_isSign 29 = .ok (.iconst 0, 1) := by decide +kernel
theorem dX12_isSign_30 : decode cX12_isSign 30 = .ok (.ireturn, 1) := by decide +kernel
theorem dX12_opens_0 : decode cX12_opens 0 = .ok (.aload_n 0, 1) := by decide +kernel
theorem dX12_opens_1 : decode cX12_opens 1 = .ok (.getfield 248, 3) := by decide +kernel
theorem dX12_opens_4 : decode cX12_opens 4 = .ok (.iconst 5, 1) := by decide +kernel
theorem dX12_opens_5 : decode cX12_opens 5 = .ok (.if_icmp .ne 9, 3) := by decide +kernel
theorem dX12_opens_8 : decode cX12_opens 8 = .ok (.aload_n 0, 1) := by decide +kernel
theorem dX12_opens_9 : decode cX12_opens 9 = .ok (.invokevirtual 251, 3) := by decide +kernel
theorem dX12_opens_12 : decode cX12_opens 12 = .ok (.iconst 0, 1) := by decide +kernel
theorem dX12_opens_13 : decode cX12_opens 13 = .ok (.ireturn, 1) := by decide +kernel
theorem dX12_opens_14 : decode cX12_opens 14 = .ok (.aload_n 0, 1) := by decide +kernel
theorem dX12_opens_15 : decode cX12_opens 15 = .ok (.dup, 1) := by decide +kernel
theorem dX12_opens_16 : decode cX12_opens 16 = .ok (.getfield 248, 3) := by decide +kernel
theorem dX12_opens_19 : decode cX12_opens 19 = .ok (.iconst 1, 1) := by decide +kernel
theorem dX12_opens_20 : decode cX12_opens 20 = .ok (.iadd, 1) := by decide +kernel
theorem dX12_opens_21 : decode cX12_opens 21 = .ok (.putfield 248, 3) := by decide +kernel
theorem dX12_opens_24 : decode cX12_opens 24 = .ok (.aload_n 0, 1) := by decide +kernel
theorem dX12_opens_25 : decode cX12_opens 25 = .ok (.invokevirtual 254, 3) := by decide +kernel
theorem dX12_opens_28 : decode cX12_opens 28 = .ok (.iconst 1, 1) := by decide +kernel
theorem dX12_opens_29 : decode cX12_opens 29 = .ok (.ireturn, 1) := by decide +kernel
theorem dX12_name_0 : decode cX12_name 0 = .ok (.aload_n 0, 1) := by decide +kernel
theorem dX12_name_1 : decode cX12_name 1 = .ok (.ldc2_w 257, 3) := by decide +kernel
theorem dX12_name_4 : decode cX12_name 4 = .ok (.invokevirtual 259, 3) := by decide +kernel
theorem dX12_name_7 : decode cX12_name 7 = .ok (.ifCond .eq 8, 3) := by decide +kernel
theorem dX12_name_10 : decode cX12_name 10 = .ok (.aload_n 0, 1) := by decide +kernel
theorem dX12_name_11 : decode cX12_name 11 = .ok (.getfield 263, 3) := by decide +kernel
theorem dX12_name_14 : decode cX12_name 14 = .ok (.ireturn, 1) := by decide +kernel
theorem dX12_name_15 : decode cX12_name 15 = .ok (.aload_n 0, 1) := by decide +kernel
theorem dX12_name_16 : decode cX12_name 16 = .ok (.ldc2_w 266, 3) := by decide +kernel
theorem dX12_name_19 : decode cX12_name 19 = .ok (.invokevirtual 259, 3) := by decide +kernel
theorem dX12_name_22 : decode cX12_name 22 = .ok (.ifCond .eq 8, 3) := by decide +kernel
theorem dX12_name_25 : decode cX12_name 25 = .ok (.aload_n 0, 1) := by decide +kernel
theorem dX12_name_26 : decode cX12_name 26 = .ok (.getfield 153, 3) := by decide +kernel
theorem dX12_name_29 : decode cX12_name 29 = .ok (.ireturn, 1) := by decide +kernel
theorem dX12_name_30 : decode cX12_name 30 = .ok (.aload_n 0, 1) := by decide +kernel
theorem dX12_name_31 : decode cX12_name 31 = .ok (.ldc2_w 268, 3) := by decide +kernel
theorem dX12_name_34 : decode cX12_name 34 = .ok (.invokevirtual 259, 3) := by decide +kernel
theorem dX12_name_37 : decode cX12_name 37 = .ok (.ifCond .eq 8, 3) := by decide +kernel
theorem dX12_name_40 : decode cX12_name 40 = .ok (.aload_n 0, 1) := by decide +kernel
theorem dX12_name_41 : decode cX12_name 41 = .ok (.getfield 156, 3) := by decide +kernel
theorem dX12_name_44 : decode cX12_name 44 = .ok (.ireturn, 1) := by decide +kernel
theorem dX12_name_45 : decode cX12_name 45 = .ok (.aload_n 0, 1) := by decide +kernel
theorem dX12_name_46 : decode cX12_name 46 = .ok (.ldc2_w 270, 3) := by decide +kernel
theorem dX12_name_49 : decode cX12_name 49 = .ok (.invokevirtual 259, 3) := by decide +kernel
theorem dX12_name_52 : decode cX12_name 52 = .ok (.ifCond .eq 8, 3) := by decide +kernel
theorem dX12_name_55 : decode cX12_name 55 = .ok (.aload_n 0, 1) := by decide +kernel
theorem dX12_name_56 : decode cX12_name 56 = .ok (.getfield 272, 3) := by decide +kernel
theorem dX12_name_59 : decode cX12_name 59 = .ok (.ireturn, 1) := by decide +kernel
theorem dX12_name_60 : decode cX12_name 60 = .ok (.aload_n 0, 1) := by decide +kernel
theorem dX12_name_61 : decode cX12_name 61 = .ok (.ldc2_w 275, 3) := by decide +kernel
theorem dX12_name_64 : decode cX12_name 64 = .ok (.invokevirtual 259, 3) := by decide +kernel
theorem dX12_name_67 : decode cX12_name 67 = .ok (.ifCond .eq 8, 3) := by decide +kernel
theorem dX12_name_70 : decode cX12_name 70 = .ok (.aload_n 0, 1) := by decide +kernel
theorem dX12_name_71 : decode cX12_name 71 = .ok (.getfield 277, 3) := by decide +kernel
theorem dX12_name_74 : decode cX12_name 74 = .ok (.ireturn, 1) := by decide +kernel
theorem dX12_name_75 : decode cX12_name 75 = .ok (.aload_n 0, 1) := by decide +kernel
theorem dX12_name_76 : decode cX12_name 76 = .ok (.ldc2_w 280, 3) := by decide +kernel
theorem dX12_name_79 : decode cX12_name 79 = .ok (.invokevirtual 259, 3) := by decide +kernel
theorem dX12_name_82 : decode cX12_name 82 = .ok (.ifCond .eq 8, 3) := by decide +kernel
theorem dX12_name_85 : decode cX12_name 85 = .ok (.aload_n 0, 1) := by decide +kernel
theorem dX12_name_86 : decode cX12_name 86 = .ok (.getfield 282, 3) := by decide +kernel
theorem dX12_name_89 : decode cX12_name 89 = .ok (.ireturn, 1) := by decide +kernel
theorem dX12_name_90 : decode cX12_name 90 = .ok (.aload_n 0, 1) := by decide +kernel
theorem dX12_name_91 : decode cX12_name 91 = .ok (.invokevirtual 251, 3) := by decide +kernel
theorem dX12_name_94 : decode cX12_name 94 = .ok (.iconst 0, 1) := by decide +kernel
theorem dX12_name_95 : decode cX12_name 95 = .ok (.ireturn, 1) := by decide +kernel
theorem dX12_one_0 : decode cX12_one 0 = .ok (.iconst 0, 1) := by decide +kernel
theorem dX12_one_1 : decode cX12_one 1 = .ok (.istore_n 1, 1) := by decide +kernel
theorem dX12_one_2 : decode cX12_one 2 = .ok (.aload_n 0, 1) := by decide +kernel
theorem dX12_one_3 : decode cX12_one 3 = .ok (.bipush 45, 2) := by decide +kernel
theorem dX12_one_5 : decode cX12_one 5 = .ok (.invokevirtual 285, 3) := by decide +kernel
theorem dX12_one_8 : decode cX12_one 8 = .ok (.ifCond .eq 29, 3) := by decide +kernel
theorem dX12_one_11 : decode cX12_one 11 = .ok (.aload_n 0, 1) := by decide +kernel
theorem dX12_one_12 : decode cX12_one 12 = .ok (.invokevirtual 288, 3) := by decide +kernel
theorem dX12_one_15 : decode cX12_one 15 = .ok (.ifCond .eq 146, 3) := by decide +kernel
theorem dX12_one_18 : decode cX12_one 18 = .ok (.aload_n 0, 1) := by decide +kernel
theorem dX12_one_19 : decode cX12_one 19 = .ok (.invokevirtual 292, 3) := by decide +kernel
theorem dX12_one_22 : decode cX12_one 22 = .ok (.ineg, 1) := by decide +kernel
theorem dX12_one_23 : decode cX12_one 23 = .ok (.istore_n 1, 1) := by decide +kernel
theorem dX12_one_24 : decode cX12_one 24 = .ok (.aload_n 0, 1) := by decide +kernel
theorem dX12_one_25 : decode cX12_one 25 = .ok (.dup, 1) := by decide +kernel
theorem dX12_one_26 : decode cX12_one 26 = .ok (.getfield 248, 3) := by decide +kernel
theorem dX12_one_29 : decode cX12_one 29 = .ok (.iconst 1, 1) := by decide +kernel
theorem dX12_one_30 : decode cX12_one 30 = .ok (.isub, 1) := by decide +kernel
theorem dX12_one_31 : decode cX12_one 31 = .ok (.putfield 248, 3) := by decide +kernel
theorem dX12_one_34 : decode cX12_one 34 = .ok (.goto 127, 3) := by decide +kernel
theorem dX12_one_37 : decode cX12_one 37 = .ok (.aload_n 0, 1) := by decide +kernel
theorem dX12_one_38 : decode cX12_one 38 = .ok (.bipush 40, 2) := by decide +kernel
theorem dX12_one_40 : decode cX12_one 40 = .ok (.invokevirtual 285, 3) := by decide +kernel
theorem dX12_one_43 : decode cX12_one 43 = .ok (.ifCond .eq 52, 3) := by decide +kernel
theorem dX12_one_46 : decode cX12_one 46 = .ok (.aload_n 0, 1) := by decide +kernel
theorem dX12_one_47 : decode cX12_one 47 = .ok (.invokevirtual 288, 3) := by decide +kernel
theorem dX12_one_50 : decode cX12_one 50 = .ok (.ifCond .eq 111, 3) := by decide +kernel
theorem dX12_one_53 : decode cX12_one 53 = .ok (.aload_n 0, 1) := by decide +kernel
theorem dX12_one_54 : decode cX12_one 54 = .ok (.invokevirtual 296, 3) := by decide +kernel
theorem dX12_one_57 : decode cX12_one 57 = .ok (.istore_n 1, 1) := by decide +kernel
theorem dX12_one_58 : decode cX12_one 58 = .ok (.aload_n 0, 1) := by decide +kernel
theorem dX12_one_59 : decode cX12_one 59 = .ok (.bipush 41, 2) := by decide +kernel
theorem dX12_one_61 : decode cX12_one 61 = .ok (.invokevirtual 285, 3) := by decide +kernel
theorem dX12_one_64 : decode cX12_one 64 = .ok (.ifCond .ne 7, 3) := by decide +kernel
theorem dX12_one_67 : decode cX12_one 67 = .ok (.aload_n 0, 1) := by decide +kernel
theorem dX12_one_68 : decode cX12_one 68 = .ok (.invokevirtual 251, 3) := by decide +kernel
theorem dX12_one_71 : decode cX12_one 71 = .ok (.aload_n 0, 1) := by decide +kernel
theorem dX12_one_72 : decode cX12_one 72 = .ok (.dup, 1) := by decide +kernel
theorem dX12_one_73 : decode cX12_one 73 = .ok (.getfield 248, 3) := by decide +kernel
theorem dX12_one_76 : decode cX12_one 76 = .ok (.iconst 1, 1) := by decide +kernel
theorem dX12_one_77 : decode cX12_one 77 = .ok (.isub, 1) := by decide +kernel
theorem dX12_one_78 : decode cX12_one 78 = .ok (.putfield 248, 3) := by decide +kernel
theorem dX12_one_81 : decode cX12_one 81 = .ok (.aload_n 0, 1) := by decide +kernel
theorem dX12_one_82 : decode cX12_one 82 = .ok (.getfield 241, 3) := by decide +kernel
theorem dX12_one_85 : decode cX12_one 85 = .ok (.ifCond .ne 76, 3) := by decide +kernel
theorem dX12_one_88 : decode cX12_one 88 = .ok (.aload_n 0, 1) := by decide +kernel
theorem dX12_one_89 : decode cX12_one 89 = .ok (.invokevirtual 254, 3) := by decide +kernel
theorem dX12_one_92 : decode cX12_one 92 = .ok (.goto 69, 3) := by decide +kernel
theorem dX12_one_95 : decode cX12_one 95 = .ok (.aload_n 0, 1) := by decide +kernel
theorem dX12_one_96 : decode cX12_one 96 = .ok (.getfield 241, 3) := by decide +kernel
theorem dX12_one_99 : decode cX12_one 99 = .ok (.ifCond .ne 24, 3) := by decide +kernel
theorem dX12_one_102 : decode cX12_one 102 = .ok (.aload_n 0, 1) := by decide +kernel
theorem dX12_one_103 : decode cX12_one 103 = .ok (.getfield 218, 3) := by decide +kernel
theorem dX12_one_106 : decode cX12_one 106 = .ok (.iconst 2, 1) := by decide +kernel
theorem dX12_one_107 : decode cX12_one 107 = .ok (.if_icmp .ne 16, 3) := by decide +kernel
theorem dX12_one_110 : decode cX12_one 110 = .ok (.aload_n 0, 1) := by decide +kernel
theorem dX12_one_111 : decode cX12_one 111 = .ok (.getfield 225, 3) := by decide +kernel
theorem dX12_one_114 : decode cX12_one 114 = .ok (.l2i, 1) := by decide +kernel
theorem dX12_one_115 : decode cX12_one 115 = .ok (.istore_n 1, 1) := by decide +kernel
theorem dX12_one_116 : decode cX12_one 116 = .ok (.aload_n 0, 1) := by decide +kernel
theorem dX12_one_117 : decode cX12_one 117 = .ok (.invokevirtual 254, 3) := by decide +kernel
theorem dX12_one_120 : decode cX12_one 120 = .ok (.goto 41, 3) := by decide +kernel
theorem dX12_one_123 : decode cX12_one 123 = .ok (.aload_n 0, 1) := by decide +kernel
theorem dX12_one_124 : decode cX12_one 124 = .ok (.getfield 241, 3) := by decide +kernel
theorem dX12_one_127 : decode cX12_one 127 = .ok (.ifCond .ne 30, 3) := by decide +kernel
theorem dX12_one_130 : decode cX12_one 130 = .ok (.aload_n 0, 1) := by decide +kernel
theorem dX12_one_131 : decode cX12_one 131 = .ok (.getfield 218, 3) := by decide +kernel
theorem dX12_one_134 : decode cX12_one 134 = .ok (.iconst 1, 1) := by decide +kernel
theorem dX12_one_135 : decode cX12_one 135 = .ok (.if_icmp .ne 22, 3) := by decide +kernel
theorem dX12_one_138 : decode cX12_one 138 = .ok (.aload_n 0, 1) := by decide +kernel
theorem dX12_one_139 : decode cX12_one 139 = .ok (.invokevirtual 299, 3) := by decide +kernel
theorem dX12_one_142 : decode cX12_one 142 = .ok (.istore_n 1, 1) := by decide +kernel
theorem dX12_one_143 : decode cX12_one 143 = .ok (.aload_n 0, 1) := by decide +kernel
theorem dX12_one_144 : decode cX12_one 144 = .ok (.getfield 241, 3) := by decide +kernel
theorem dX12_one_147 : decode cX12_one 147 = .ok (.ifCond .ne 14, 3) := by decide +kernel
theorem dX12_one_150 : decode cX12_one 150 = .ok (.aload_n 0, 1) := by decide +kernel
theorem dX12_one_151 : decode cX12_one 151 = .ok (.invokevirtual 254, 3) := by decide +kernel
theorem dX12_one_154 : decode cX12_one 154 = .ok (.goto 7, 3) := by decide +kernel
theorem dX12_one_157 : decode cX12_one 157 = .ok (.aload_n 0, 1) := by decide +kernel
theorem dX12_one_158 : decode cX12_one 158 = .ok (.invokevirtual 251, 3) := by decide +kernel
theorem dX12_one_161 : decode cX12_one 161 = .ok (.iload_n 1, 1) := by decide +kernel
theorem dX12_one_162 : decode cX12_one 162 = .ok (.ireturn, 1) := by decide +kernel
theorem dX12_term_0 : decode cX12_term 0 = .ok (.aload_n 0, 1) := by decide +kernel
theorem dX12_term_1 : decode cX12_term 1 = .ok (.invokevirtual 292, 3) := by decide +kernel
theorem dX12_term_4 : decode cX12_term 4 = .ok (.istore_n 1, 1) := by decide +kernel
theorem dX12_term_5 : decode cX12_term 5 = .ok (.aload_n 0, 1) := by decide +kernel
theorem dX12_term_6 : decode cX12_term 6 = .ok (.bipush 42, 2) := by decide +kernel
theorem dX12_term_8 : decode cX12_term 8 = .ok (.invokevirtual 285, 3) := by decide +kernel
theorem dX12_term_11 : decode cX12_term 11 = .ok (.ifCond .eq 17, 3) := by decide +kernel
theorem dX12_term_14 : decode cX12_term 14 = .ok (.aload_n 0, 1) := by decide +kernel
theorem dX12_term_15 : decode cX12_term 15 = .ok (.invokevirtual 254, 3) := by decide +kernel
theorem dX12_term_18 : decode cX12_term 18 = .ok (.iload_n 1, 1) := by decide +kernel
theorem dX12_term_19 : decode cX12_term 19 = .ok (.aload_n 0, 1) := by decide +kernel
theorem dX12_term_20 : decode cX12_term 20 = .ok (.invokevirtual 292, 3) := by decide +kernel
theorem dX12_term_23 : decode cX12_term 23 = .ok (.imul, 1) := by decide +kernel
theorem dX12_term_24 : decode cX12_term 24 = .ok (.istore_n 1, 1) := by decide +kernel
theorem dX12_term_25 : decode cX12_term 25 = .ok (.goto (-20), 3) := by decide +kernel
theorem dX12_term_28 : decode cX12_term 28 = .ok (.iload_n 1, 1) := by decide +kernel
theorem dX12_term_29 : decode cX12_term 29 = .ok (.ireturn, 1) := by decide +kernel
theorem dX12_added_0 : decode cX12_added 0 = .ok (.aload_n 0, 1) := by decide +kernel
theorem dX12_added_1 : decode cX12_added 1 = .ok (.invokevirtual 302, 3) := by decide +kernel
theorem dX12_added_4 : decode cX12_added 4 = .ok (.istore_n 1, 1) := by decide +kernel
theorem dX12_added_5 : decode cX12_added 5 = .ok (.aload_n 0, 1) := by decide +kernel
theorem dX12_added_6 : decode cX12_added 6 = .ok (.bipush 43, 2) := by decide +kernel
theorem dX12_added_8 : decode cX12_added 8 = .ok (.invokevirtual 285, 3) := by decide +kernel
theorem dX12_added_11 : decode cX12_added 11 = .ok (.ifCond .ne 12, 3) := by decide +kernel
theorem dX12_added_14 : decode cX12_added 14 = .ok (.aload_n 0, 1) := by decide +kernel
theorem dX12_added_15 : decode cX12_added 15 = .ok (.bipush 45, 2) := by decide +kernel
theorem dX12_added_17 : decode cX12_added 17 = .ok (.invokevirtual 285, 3) := by decide +kernel
theorem dX12_added_20 : decode cX12_added 20 = .ok (.ifCond .eq 46, 3) := by decide +kernel
theorem dX12_added_23 : decode cX12_added 23 = .ok (.aload_n 0, 1) := by decide +kernel
theorem dX12_added_24 : decode cX12_added 24 = .ok (.getfield 225, 3) := by decide +kernel
theorem dX12_added_27 : decode cX12_added 27 = .ok (.ldc2_w 305, 3) := by decide +kernel
theorem dX12_added_30 : decode cX12_added 30 = .ok (.lcmp, 1) := by decide +kernel
theorem dX12_added_31 : decode cX12_added 31 = .ok (.ifCond .ne 7, 3) := by decide +kernel
theorem dX12_added_34 : decode cX12_added 34 = .ok (.iconst 1, 1) := by decide +kernel
theorem dX12_added_35 : decode cX12_added 35 = .ok (.goto 4, 3) := by decide +kernel
theorem dX12_added_38 : decode cX12_added 38 = .ok (.iconst 0, 1) := by decide +kernel
theorem dX12_added_39 : decode cX12_added 39 = .ok (.istore_n 2, 1) := by decide +kernel
theorem dX12_added_40 : decode cX12_added 40 = .ok (.aload_n 0, 1) := by decide +kernel
theorem dX12_added_41 : decode cX12_added 41 = .ok (.invokevirtual 254, 3) := by decide +kernel
theorem dX12_added_44 : decode cX12_added 44 = .ok (.aload_n 0, 1) := by decide +kernel
theorem dX12_added_45 : decode cX12_added 45 = .ok (.invokevirtual 302, 3) := by decide +kernel
theorem dX12_added_48 : decode cX12_added 48 = .ok (.istore_n 3, 1) := by decide +kernel
theorem dX12_added_49 : decode cX12_added 49 = .ok (.iload_n 2, 1) := by decide +kernel
theorem dX12_added_50 : decode cX12_added 50 = .ok (.ifCond .eq 9, 3) := by decide +kernel
theorem dX12_added_53 : decode cX12_added 53 = .ok (.iload_n 1, 1) := by decide +kernel
theorem dX12_added_54 : decode cX12_added 54 = .ok (.iload_n 3, 1) := by decide +kernel
theorem dX12_added_55 : decode cX12_added 55 = .ok (.iadd, 1) := by decide +kernel
theorem dX12_added_56 : decode cX12_added 56 = .ok (.goto 6, 3) := by decide +kernel
theorem dX12_added_59 : decode cX12_added 59 = .ok (.iload_n 1, 1) := by decide +kernel
theorem dX12_added_60 : decode cX12_added 60 = .ok (.iload_n 3, 1) := by decide +kernel
theorem dX12_added_61 : decode cX12_added 61 = .ok (.isub, 1) := by decide +kernel
theorem dX12_added_62 : decode cX12_added 62 = .ok (.istore_n 1, 1) := by decide +kernel
theorem dX12_added_63 : decode cX12_added 63 = .ok (.goto (-58), 3) := by decide +kernel
theorem dX12_added_66 : decode cX12_added 66 = .ok (.iload_n 1, 1) := by decide +kernel
theorem dX12_added_67 : decode cX12_added 67 = .ok (.ireturn, 1) := by decide +kernel
theorem dX12_not_0 : decode cX12_not 0 = .ok (.aload_n 0, 1) := by decide +kernel
theorem dX12_not_1 : decode cX12_not 1 = .ok (.ldc2_w 307, 3) := by decide +kernel
theorem dX12_not_4 : decode cX12_not 4 = .ok (.invokevirtual 259, 3) := by decide +kernel
theorem dX12_not_7 : decode cX12_not 7 = .ok (.ifCond .eq 37, 3) := by decide +kernel
theorem dX12_not_10 : decode cX12_not 10 = .ok (.aload_n 0, 1) := by decide +kernel
theorem dX12_not_11 : decode cX12_not 11 = .ok (.invokevirtual 288, 3) := by decide +kernel
theorem dX12_not_14 : decode cX12_not 14 = .ok (.ifCond .ne 5, 3) := by decide +kernel
theorem dX12_not_17 : decode cX12_not 17 = .ok (.iconst 0, 1) := by decide +kernel
theorem dX12_not_18 : decode cX12_not 18 = .ok (.ireturn, 1) := by decide +kernel
theorem dX12_not_19 : decode cX12_not 19 = .ok (.aload_n 0, 1) := by decide +kernel
theorem dX12_not_20 : decode cX12_not 20 = .ok (.invokevirtual 309, 3) := by decide +kernel
theorem dX12_not_23 : decode cX12_not 23 = .ok (.istore_n 1, 1) := by decide +kernel
theorem dX12_not_24 : decode cX12_not 24 = .ok (.aload_n 0, 1) := by decide +kernel
theorem dX12_not_25 : decode cX12_not 25 = .ok (.dup, 1) := by decide +kernel
theorem dX12_not_26 : decode cX12_not 26 = .ok (.getfield 248, 3) := by decide +kernel
theorem dX12_not_29 : decode cX12_not 29 = .ok (.iconst 1, 1) := by decide +kernel
theorem dX12_not_30 : decode cX12_not 30 = .ok (.isub, 1) := by decide +kernel
theorem dX12_not_31 : decode cX12_not 31 = .ok (.putfield 248, 3) := by decide +kernel
theorem dX12_not_34 : decode cX12_not 34 = .ok (.iload_n 1, 1) := by decide +kernel
theorem dX12_not_35 : decode cX12_not 35 = .ok (.ifCond .ne 7, 3) := by decide +kernel
theorem dX12_not_38 : decode cX12_not 38 = .ok (.iconst 1, 1) := by decide +kernel
theorem dX12_not_39 : decode cX12_not 39 = .ok (.goto 4, 3) := by decide +kernel
theorem dX12_not_42 : decode cX12_not 42 = .ok (.iconst 0, 1) := by decide +kernel
theorem dX12_not_43 : decode cX12_not 43 = .ok (.ireturn, 1) := by decide +kernel
theorem dX12_not_44 : decode cX12_not 44 = .ok (.aload_n 0, 1) := by decide +kernel
theorem dX12_not_45 : decode cX12_not 45 = .ok (.invokevirtual 312, 3) := by decide +kernel
theorem dX12_not_48 : decode cX12_not 48 = .ok (.istore_n 1, 1) := by decide +kernel
theorem dX12_not_49 : decode cX12_not 49 = .ok (.aload_n 0, 1) := by decide +kernel
theorem dX12_not_50 : decode cX12_not 50 = .ok (.bipush 60, 2) := by decide +kernel
theorem dX12_not_52 : decode cX12_not 52 = .ok (.invokevirtual 285, 3) := by decide +kernel
theorem dX12_not_55 : decode cX12_not 55 = .ok (.ifCond .ne 14, 3) := by decide +kernel
theorem dX12_not_58 : decode cX12_not 58 = .ok (.aload_n 0, 1) := by decide +kernel
theorem dX12_not_59 : decode cX12_not 59 = .ok (.bipush 61, 2) := by decide +kernel
theorem dX12_not_61 : decode cX12_not 61 = .ok (.invokevirtual 285, 3) := by decide +kernel
theorem dX12_not_64 : decode cX12_not 64 = .ok (.ifCond .ne 5, 3) := by decide +kernel
theorem dX12_not_67 : decode cX12_not 67 = .ok (.iload_n 1, 1) := by decide +kernel
theorem dX12_not_68 : decode cX12_not 68 = .ok (.ireturn, 1) := by decide +kernel
theorem dX12_not_69 : decode cX12_not 69 = .ok (.aload_n 0, 1) := by decide +kernel
theorem dX12_not_70 : decode cX12_not 70 = .ok (.getfield 225, 3) := by decide +kernel
theorem dX12_not_73 : decode cX12_not 73 = .ok (.ldc2_w 145, 3) := by decide +kernel
theorem dX12_not_76 : decode cX12_not 76 = .ok (.lcmp, 1) := by decide +kernel
theorem dX12_not_77 : decode cX12_not 77 = .ok (.ifCond .ne 7, 3) := by decide +kernel
theorem dX12_not_80 : decode cX12_not 80 = .ok (.iconst 1, 1) := by decide +kernel
theorem dX12_not_81 : decode cX12_not 81 = .ok (.goto 4, 3) := by decide +kernel
theorem dX12_not_84 : decode cX12_not 84 = .ok (.iconst 0, 1) := by decide +kernel
theorem dX12_not_85 : decode cX12_not 85 = .ok (.istore_n 2, 1) := by decide +kernel
theorem dX12_not_86 : decode cX12_not 86 = .ok (.aload_n 0, 1) := by decide +kernel
theorem dX12_not_87 : decode cX12_not 87 = .ok (.invokevirtual 254, 3) := by decide +kernel
theorem dX12_not_90 : decode cX12_not 90 = .ok (.aload_n 0, 1) := by decide +kernel
theorem dX12_not_91 : decode cX12_not 91 = .ok (.invokevirtual 312, 3) := by decide +kernel
theorem dX12_not_94 : decode cX12_not 94 = .ok (.istore_n 3, 1) := by decide +kernel
theorem dX12_not_95 : decode cX12_not 95 = .ok (.iload_n 2, 1) := by decide +kernel
theorem dX12_not_96 : decode cX12_not 96 = .ok (.ifCond .eq 11, 3) := by decide +kernel
theorem dX12_not_99 : decode cX12_not 99 = .ok (.iload_n 1, 1) := by decide +kernel
theorem dX12_not_100 : decode cX12_not 100 = .ok (.iload_n 3, 1) := by decide +kernel
theorem dX12_not_101 : decode cX12_not 101 = .ok (.if_icmp .ge 15, 3) := by decide +kernel
theorem dX12_not_104 : decode cX12_not 104 = .ok (.goto 8, 3) := by decide +kernel
theorem dX12_not_107 : decode cX12_not 107 = .ok (.iload_n 1, 1) := by decide +kernel
theorem dX12_not_108 : decode cX12_not 108 = .ok (.iload_n 3, 1) := by decide +kernel
theorem dX12_not_109 : decode cX12_not 109 = .ok (.if_icmp .ne 7, 3) := by decide +kernel
theorem dX12_not_112 : decode cX12_not 112 = .ok (.iconst 1, 1) := by decide +kernel
theorem dX12_not_113 : decode cX12_not 113 = .ok (.goto 4, 3) := by decide +kernel
theorem dX12_not_116 : decode cX12_not 116 = .ok (.iconst 0, 1) := by decide +kernel
theorem dX12_not_117 : decode cX12_not 117 = .ok (.ireturn, 1) := by decide +kernel
theorem dX12_both_0 : decode cX12_both 0 = .ok (.aload_n 0, 1) := by decide +kernel
theorem dX12_both_1 : decode cX12_both 1 = .ok (.invokevirtual 309, 3) := by decide +kernel
theorem dX12_both_4 : decode cX12_both 4 = .ok (.istore_n 1, 1) := by decide +kernel
theorem dX12_both_5 : decode cX12_both 5 = .ok (.aload_n 0, 1) := by decide +kernel
theorem dX12_both_6 : decode cX12_both 6 = .ok (.ldc2_w 315, 3) := by decide +kernel
theorem dX12_both_9 : decode cX12_both 9 = .ok (.invokevirtual 259, 3) := by decide +kernel
theorem dX12_both_12 : decode cX12_both 12 = .ok (.ifCond .eq 29, 3) := by decide +kernel
theorem dX12_both_15 : decode cX12_both 15 = .ok (.aload_n 0, 1) := by decide +kernel
theorem dX12_both_16 : decode cX12_both 16 = .ok (.invokevirtual 254, 3) := by decide +kernel
theorem dX12_both_19 : decode cX12_both 19 = .ok (.aload_n 0, 1) := by decide +kernel
theorem dX12_both_20 : decode cX12_both 20 = .ok (.invokevirtual 309, 3) := by decide +kernel
theorem dX12_both_23 : decode cX12_both 23 = .ok (.istore_n 2, 1) := by decide +kernel
theorem dX12_both_24 : decode cX12_both 24 = .ok (.iload_n 1, 1) := by decide +kernel
theorem dX12_both_25 : decode cX12_both 25 = .ok (.ifCond .eq 11, 3) := by decide +kernel
theorem dX12_both_28 : decode cX12_both 28 = .ok (.iload_n 2, 1) := by decide +kernel
theorem dX12_both_29 : decode cX12_both 29 = .ok (.ifCond .eq 7, 3) := by decide +kernel
theorem dX12_both_32 : decode cX12_both 32 = .ok (.iconst 1, 1) := by decide +kernel
theorem dX12_both_33 : decode cX12_both 33 = .ok (.goto 4, 3) := by decide +kernel
theorem dX12_both_36 : decode cX12_both 36 = .ok (.iconst 0, 1) := by decide +kernel
theorem dX12_both_37 : decode cX12_both 37 = .ok (.istore_n 1, 1) := by decide +kernel
theorem dX12_both_38 : decode cX12_both 38 = .ok (.goto (-33), 3) := by decide +kernel
theorem dX12_both_41 : decode cX12_both 41 = .ok (.iload_n 1, 1) := by decide +kernel
theorem dX12_both_42 : decode cX12_both 42 = .ok (.ireturn, 1) := by decide +kernel
theorem dX12_either_0 : decode cX12_either 0 = .ok (.aload_n 0, 1) := by decide +kernel
theorem dX12_either_1 : decode cX12_either 1 = .ok (.invokevirtual 317, 3) := by decide +kernel
theorem dX12_either_4 : decode cX12_either 4 = .ok (.istore_n 1, 1) := by decide +kernel
theorem dX12_either_5 : decode cX12_either 5 = .ok (.aload_n 0, 1) := by decide +kernel
theorem dX12_either_6 : decode cX12_either 6 = .ok (.ldc2_w 320, 3) := by decide +kernel
theorem dX12_either_9 : decode cX12_either 9 = .ok (.invokevirtual 259, 3) := by decide +kernel
theorem dX12_either_12 : decode cX12_either 12 = .ok (.ifCond .eq 29, 3) := by decide +kernel
theorem dX12_either_15 : decode cX12_either 15 = .ok (.aload_n 0, 1) := by decide +kernel
theorem dX12_either_16 : decode cX12_either 16 = .ok (.invokevirtual 254, 3) := by decide +kernel
theorem dX12_either_19 : decode cX12_either 19 = .ok (.aload_n 0, 1) := by decide +kernel
theorem dX12_either_20 : decode cX12_either 20 = .ok (.invokevirtual 317, 3) := by decide +kernel
theorem dX12_either_23 : decode cX12_either 23 = .ok (.istore_n 2, 1) := by decide +kernel
theorem dX12_either_24 : decode cX12_either 24 = .ok (.iload_n 1, 1) := by decide +kernel
theorem dX12_either_25 : decode cX12_either 25 = .ok (.ifCond .ne 7, 3) := by decide +kernel
theorem dX12_either_28 : decode cX12_either 28 = .ok (.iload_n 2, 1) := by decide +kernel
theorem dX12_either_29 : decode cX12_either 29 = .ok (.ifCond .eq 7, 3) := by decide +kernel
theorem dX12_either_32 : decode cX12_either 32 = .ok (.iconst 1, 1) := by decide +kernel
theorem dX12_either_33 : decode cX12_either 33 = .ok (.goto 4, 3) := by decide +kernel
theorem dX12_either_36 : decode cX12_either 36 = .ok (.iconst 0, 1) := by decide +kernel
theorem dX12_either_37 : decode cX12_either 37 = .ok (.istore_n 1, 1) := by decide +kernel
theorem dX12_either_38 : decode cX12_either 38 = .ok (.goto (-33), 3) := by decide +kernel
theorem dX12_either_41 : decode cX12_either 41 = .ok (.iload_n 1, 1) := by decide +kernel
theorem dX12_either_42 : decode cX12_either 42 = .ok (.ireturn, 1) := by decide +kernel
theorem dX12_part_0 : decode cX12_part 0 = .ok (.aload_n 0, 1) := by decide +kernel
theorem dX12_part_1 : decode cX12_part 1 = .ok (.lload_n 1, 1) := by decide +kernel
theorem dX12_part_2 : decode cX12_part 2 = .ok (.invokevirtual 259, 3) := by decide +kernel
theorem dX12_part_5 : decode cX12_part 5 = .ok (.ifCond .ne 7, 3) := by decide +kernel
theorem dX12_part_8 : decode cX12_part 8 = .ok (.aload_n 0, 1) := by decide +kernel
theorem dX12_part_9 : decode cX12_part 9 = .ok (.invokevirtual 251, 3) := by decide +kernel
theorem dX12_part_12 : decode cX12_part 12 = .ok (.aload_n 0, 1) := by decide +kernel
theorem dX12_part_13 : decode cX12_part 13 = .ok (.getfield 241, 3) := by decide +kernel
theorem dX12_part_16 : decode cX12_part 16 = .ok (.ifCond .ne 7, 3) := by decide +kernel
theorem dX12_part_19 : decode cX12_part 19 = .ok (.aload_n 0, 1) := by decide +kernel
theorem dX12_part_20 : decode cX12_part 20 = .ok (.invokevirtual 254, 3) := by decide +kernel
theorem dX12_part_23 : decode cX12_part 23 = .ok (.aload_n 0, 1) := by decide +kernel
theorem dX12_part_24 : decode cX12_part 24 = .ok (.getfield 241, 3) := by decide +kernel
theorem dX12_part_27 : decode cX12_part 27 = .ok (.ifCond .eq 7, 3) := by decide +kernel
theorem dX12_part_30 : decode cX12_part 30 = .ok (.iconst 0, 1) := by decide +kernel
theorem dX12_part_31 : decode cX12_part 31 = .ok (.goto 7, 3) := by decide +kernel
theorem dX12_part_34 : decode cX12_part 34 = .ok (.aload_n 0, 1) := by decide +kernel
theorem dX12_part_35 : decode cX12_part 35 = .ok (.invokevirtual 296, 3) := by decide +kernel
theorem dX12_part_38 : decode cX12_part 38 = .ok (.istore_n 3, 1) := by decide +kernel
theorem dX12_part_39 : decode cX12_part 39 = .ok (.aload_n 0, 1) := by decide +kernel
theorem dX12_part_40 : decode cX12_part 40 = .ok (.bipush 59, 2) := by decide +kernel
theorem dX12_part_42 : decode cX12_part 42 = .ok (.invokevirtual 285, 3) := by decide +kernel
theorem dX12_part_45 : decode cX12_part 45 = .ok (.ifCond .ne 7, 3) := by decide +kernel
theorem dX12_part_48 : decode cX12_part 48 = .ok (.aload_n 0, 1) := by decide +kernel
theorem dX12_part_49 : decode cX12_part 49 = .ok (.invokevirtual 251, 3) := by decide +kernel
theorem dX12_part_52 : decode cX12_part 52 = .ok (.aload_n 0, 1) := by decide +kernel
theorem dX12_part_53 : decode cX12_part 53 = .ok (.getfield 241, 3) := by decide +kernel
theorem dX12_part_56 : decode cX12_part 56 = .ok (.ifCond .ne 7, 3) := by decide +kernel
theorem dX12_part_59 : decode cX12_part 59 = .ok (.aload_n 0, 1) := by decide +kernel
theorem dX12_part_60 : decode cX12_part 60 = .ok (.invokevirtual 254, 3) := by decide +kernel
theorem dX12_part_63 : decode cX12_part 63 = .ok (.iload_n 3, 1) := by decide +kernel
theorem dX12_part_64 : decode cX12_part 64 = .ok (.ireturn, 1) := by decide +kernel
theorem dX12_read_0 : decode cX12_read 0 = .ok (.aload_n 0, 1) := by decide +kernel
theorem dX12_read_1 : decode cX12_read 1 = .ok (.iload_n 2, 1) := by decide +kernel
theorem dX12_read_2 : decode cX12_read 2 = .ok (.putfield 263, 3) := by decide +kernel
theorem dX12_read_5 : decode cX12_read 5 = .ok (.aload_n 0, 1) := by decide +kernel
theorem dX12_read_6 : decode cX12_read 6 = .ok (.iload_n 3, 1) := by decide +kernel
theorem dX12_read_7 : decode cX12_read 7 = .ok (.putfield 272, 3) := by decide +kernel
theorem dX12_read_10 : decode cX12_read 10 = .ok (.aload_n 0, 1) := by decide +kernel
theorem dX12_read_11 : decode cX12_read 11 = .ok (.iload 4, 2) := by decide +kernel
theorem dX12_read_13 : decode cX12_read 13 = .ok (.putfield 277, 3) := by decide +kernel
theorem dX12_read_16 : decode cX12_read 16 = .ok (.aload_n 0, 1) := by decide +kernel
theorem dX12_read_17 : decode cX12_read 17 = .ok (.iload 5, 2) := by decide +kernel
theorem dX12_read_19 : decode cX12_read 19 = .ok (.putfield 282, 3) := by decide +kernel
theorem dX12_read_22 : decode cX12_read 22 = .ok (.aload_n 0, 1) := by decide +kernel
theorem dX12_read_23 : decode cX12_read 23 = .ok (.sipush 160, 3) := by decide +kernel
theorem dX12_read_26 : decode cX12_read 26 = .ok (.iload_n 1, 1) := by decide +kernel
theorem dX12_read_27 : decode cX12_read 27 = .ok (.imul, 1) := by decide +kernel
theorem dX12_read_28 : decode cX12_read 28 = .ok (.putfield 206, 3) := by decide +kernel
theorem dX12_read_31 : decode cX12_read 31 = .ok (.aload_n 0, 1) := by decide +kernel
theorem dX12_read_32 : decode cX12_read 32 = .ok (.aload_n 0, 1) := by decide +kernel
theorem dX12_read_33 : decode cX12_read 33 = .ok (.getfield 17, 3) := by decide +kernel
theorem dX12_read_36 : decode cX12_read 36 = .ok (.iload_n 1, 1) := by decide +kernel
theorem dX12_read_37 : decode cX12_read 37 = .ok (.iaload, 1) := by decide +kernel
theorem dX12_read_38 : decode cX12_read 38 = .ok (.putfield 203, 3) := by decide +kernel
theorem dX12_read_41 : decode cX12_read 41 = .ok (.aload_n 0, 1) := by decide +kernel
theorem dX12_read_42 : decode cX12_read 42 = .ok (.iconst 0, 1) := by decide +kernel
theorem dX12_read_43 : decode cX12_read 43 = .ok (.putfield 209, 3) := by decide +kernel
theorem dX12_read_46 : decode cX12_read 46 = .ok (.aload_n 0, 1) := by decide +kernel
theorem dX12_read_47 : decode cX12_read 47 = .ok (.iconst 0, 1) := by decide +kernel
theorem dX12_read_48 : decode cX12_read 48 = .ok (.putfield 248, 3) := by decide +kernel
theorem dX12_read_51 : decode cX12_read 51 = .ok (.aload_n 0, 1) := by decide +kernel
theorem dX12_read_52 : decode cX12_read 52 = .ok (.iconst 0, 1) := by decide +kernel
theorem dX12_read_53 : decode cX12_read 53 = .ok (.putfield 241, 3) := by decide +kernel
theorem dX12_read_56 : decode cX12_read 56 = .ok (.aload_n 0, 1) := by decide +kernel
theorem dX12_read_57 : decode cX12_read 57 = .ok (.invokevirtual 254, 3) := by decide +kernel
theorem dX12_read_60 : decode cX12_read 60 = .ok (.aload_n 0, 1) := by decide +kernel
theorem dX12_read_61 : decode cX12_read 61 = .ok (.ldc2_w 322, 3) := by decide +kernel
theorem dX12_read_64 : decode cX12_read 64 = .ok (.invokevirtual 324, 3) := by decide +kernel
theorem dX12_read_67 : decode cX12_read 67 = .ok (.istore 7, 2) := by decide +kernel
theorem dX12_read_69 : decode cX12_read 69 = .ok (.aload_n 0, 1) := by decide +kernel
theorem dX12_read_70 : decode cX12_read 70 = .ok (.getfield 241, 3) := by decide +kernel
theorem dX12_read_73 : decode cX12_read 73 = .ok (.ifCond .eq 7, 3) := by decide +kernel
theorem dX12_read_76 : decode cX12_read 76 = .ok (.iconst 0, 1) := by decide +kernel
theorem dX12_read_77 : decode cX12_read 77 = .ok (.goto 10, 3) := by decide +kernel
theorem dX12_read_80 : decode cX12_read 80 = .ok (.aload_n 0, 1) := by decide +kernel
theorem dX12_read_81 : decode cX12_read 81 = .ok (.ldc2_w 328, 3) := by decide +kernel
theorem dX12_read_84 : decode cX12_read 84 = .ok (.invokevirtual 324, 3) := by decide +kernel
theorem dX12_read_87 : decode cX12_read 87 = .ok (.istore 8, 2) := by decide +kernel
theorem dX12_read_89 : decode cX12_read 89 = .ok (.aload_n 0, 1) := by decide +kernel
theorem dX12_read_90 : decode cX12_read 90 = .ok (.getfield 241, 3) := by decide +kernel
theorem dX12_read_93 : decode cX12_read 93 = .ok (.ifCond .eq 7, 3) := by decide +kernel
theorem dX12_read_96 : decode cX12_read 96 = .ok (.iconst 0, 1) := by decide +kernel
theorem dX12_read_97 : decode cX12_read 97 = .ok (.goto 10, 3) := by decide +kernel
theorem dX12_read_100 : decode cX12_read 100 = .ok (.aload_n 0, 1) := by decide +kernel
theorem dX12_read_101 : decode cX12_read 101 = .ok (.ldc2_w 330, 3) := by decide +kernel
theorem dX12_read_104 : decode cX12_read 104 = .ok (.invokevirtual 324, 3) := by decide +kernel
theorem dX12_read_107 : decode cX12_read 107 = .ok (.istore 9, 2) := by decide +kernel
theorem dX12_read_109 : decode cX12_read 109 = .ok (.aload_n 0, 1) := by decide +kernel
theorem dX12_read_110 : decode cX12_read 110 = .ok (.getfield 241, 3) := by decide +kernel
theorem dX12_read_113 : decode cX12_read 113 = .ok (.ifCond .ne 14, 3) := by decide +kernel
theorem dX12_read_116 : decode cX12_read 116 = .ok (.aload_n 0, 1) := by decide +kernel
theorem dX12_read_117 : decode cX12_read 117 = .ok (.getfield 218, 3) := by decide +kernel
theorem dX12_read_120 : decode cX12_read 120 = .ok (.ifCond .eq 7, 3) := by decide +kernel
theorem dX12_read_123 : decode cX12_read 123 = .ok (.aload_n 0, 1) := by decide +kernel
theorem dX12_read_124 : decode cX12_read 124 = .ok (.invokevirtual 251, 3) := by decide +kernel
theorem dX12_read_127 : decode cX12_read 127 = .ok (.iload 6, 2) := by decide +kernel
theorem dX12_read_129 : decode cX12_read 129 = .ok (.ifCond .ne 8, 3) := by decide +kernel
theorem dX12_read_132 : decode cX12_read 132 = .ok (.iload 7, 2) := by decide +kernel
theorem dX12_read_134 : decode cX12_read 134 = .ok (.goto 16, 3) := by decide +kernel
theorem dX12_read_137 : decode cX12_read 137 = .ok (.iload 6, 2) := by decide +kernel
theorem dX12_read_139 : decode cX12_read 139 = .ok (.iconst 1, 1) := by decide +kernel
theorem dX12_read_140 : decode cX12_read 140 = .ok (.if_icmp .ne 8, 3) := by decide +kernel
theorem dX12_read_143 : decode cX12_read 143 = .ok (.iload 8, 2) := by decide +kernel
theorem dX12_read_145 : decode cX12_read 145 = .ok (.goto 5, 3) := by decide +kernel
theorem dX12_read_148 : decode cX12_read 148 = .ok (.iload 9, 2) := by decide +kernel
theorem dX12_read_150 : decode cX12_read 150 = .ok (.ireturn, 1) := by decide +kernel
theorem dX12_within_0 : decode cX12_within 0 = .ok (.iload_n 0, 1) := by decide +kernel
theorem dX12_within_1 : decode cX12_within 1 = .ok (.iload_n 1, 1) := by decide +kernel
theorem dX12_within_2 : decode cX12_within 2 = .ok (.if_icmp .ge 7, 3) := by decide +kernel
theorem dX12_within_5 : decode cX12_within 5 = .ok (.iload_n 1, 1) := by decide +kernel
theorem dX12_within_6 : decode cX12_within 6 = .ok (.goto 13, 3) := by decide +kernel
theorem dX12_within_9 : decode cX12_within 9 = .ok (.iload_n 0, 1) := by decide +kernel
theorem dX12_within_10 : decode cX12_within 10 = .ok (.iload_n 2, 1) := by decide +kernel
theorem dX12_within_11 : decode cX12_within 11 = .ok (.if_icmp .le 7, 3) := by decide +kernel
theorem dX12_within_14 : decode cX12_within 14 = .ok (.iload_n 2, 1) := by decide +kernel
theorem dX12_within_15 : decode cX12_within 15 = .ok (.goto 4, 3) := by decide +kernel
theorem dX12_within_18 : decode cX12_within 18 = .ok (.iload_n 0, 1) := by decide +kernel
theorem dX12_within_19 : decode cX12_within 19 = .ok (.ireturn, 1) := by decide +kernel
theorem dX12_dueOf_0 : decode cX12_dueOf 0 = .ok (.aload_n 0, 1) := by decide +kernel
theorem dX12_dueOf_1 : decode cX12_dueOf 1 = .ok (.aload_n 0, 1) := by decide +kernel
theorem dX12_dueOf_2 : decode cX12_dueOf 2 = .ok (.getfield 332, 3) := by decide +kernel
theorem dX12_dueOf_5 : decode cX12_dueOf 5 = .ok (.iconst 0, 1) := by decide +kernel
theorem dX12_dueOf_6 : decode cX12_dueOf 6 = .ok (.aload_n 0, 1) := by decide +kernel
theorem dX12_dueOf_7 : decode cX12_dueOf 7 = .ok (.getfield 38, 3) := by decide +kernel
theorem dX12_dueOf_10 : decode cX12_dueOf 10 = .ok (.iload_n 1, 1) := by decide +kernel
theorem dX12_dueOf_11 : decode cX12_dueOf 11 = .ok (.iaload, 1) := by decide +kernel
theorem dX12_dueOf_12 : decode cX12_dueOf 12 = .ok (.iload_n 2, 1) := by decide +kernel
theorem dX12_dueOf_13 : decode cX12_dueOf 13 = .ok (.aload_n 0, 1) := by decide +kernel
theorem dX12_dueOf_14 : decode cX12_dueOf 14 = .ok (.getfield 53, 3) := by decide +kernel
theorem dX12_dueOf_17 : decode cX12_dueOf 17 = .ok (.iload_n 1, 1) := by decide +kernel
theorem dX12_dueOf_18 : decode cX12_dueOf 18 = .ok (.iaload, 1) := by decide +kernel
theorem dX12_dueOf_19 : decode cX12_dueOf 19 = .ok (.iconst 2, 1) := by decide +kernel
theorem dX12_dueOf_20 : decode cX12_dueOf 20 = .ok (.invokevirtual 335, 3) := by decide +kernel
theorem dX12_dueOf_23 : decode cX12_dueOf 23 = .ok (.ireturn, 1) := by decide +kernel
theorem dX12_text_0 : decode cX12_text 0 = .ok (.aload_n 0, 1) := by decide +kernel
theorem dX12_text_1 : decode cX12_text 1 = .ok (.getfield 126, 3) := by decide +kernel
theorem dX12_text_4 : decode cX12_text 4 = .ok (.bipush 6, 2) := by decide +kernel
theorem dX12_text_6 : decode cX12_text 6 = .ok (.if_icmp .ne 6, 3) := by decide +kernel
theorem dX12_text_9 : decode cX12_text 9 = .ok (.bipush (-4), 2) := by decide +kernel
theorem dX12_text_11 : decode cX12_text 11 = .ok (.ireturn, 1) := by decide +kernel
theorem dX12_text_12 : decode cX12_text 12 = .ok (.iconst 0, 1) := by decide +kernel
theorem dX12_text_13 : decode cX12_text 13 = .ok (.istore_n 1, 1) := by decide +kernel
theorem dX12_text_14 : decode cX12_text 14 = .ok (.iload_n 1, 1) := by decide +kernel
theorem dX12_text_15 : decode cX12_text 15 = .ok (.aload_n 0, 1) := by decide +kernel
theorem dX12_text_16 : decode cX12_text 16 = .ok (.getfield 200, 3) := by decide +kernel
theorem dX12_text_19 : decode cX12_text 19 = .ok (.if_icmp .ge 30, 3) := by decide +kernel
theorem dX12_text_22 : decode cX12_text 22 = .ok (.aload_n 0, 1) := by decide +kernel
theorem dX12_text_23 : decode cX12_text 23 = .ok (.getfield 13, 3) := by decide +kernel
theorem dX12_text_26 : decode cX12_text 26 = .ok (.sipush 160, 3) := by decide +kernel
theorem dX12_text_29 : decode cX12_text 29 = .ok (.aload_n 0, 1) := by decide +kernel
theorem dX12_text_30 : decode cX12_text 30 = .ok (.getfield 126, 3) := by decide +kernel
theorem dX12_text_33 : decode cX12_text 33 = .ok (.imul, 1) := by decide +kernel
theorem dX12_text_34 : decode cX12_text 34 = .ok (.iload_n 1, 1) := by decide +kernel
theorem dX12_text_35 : decode cX12_text 35 = .ok (.iadd, 1) := by decide +kernel
theorem dX12_text_36 : decode cX12_text 36 = .ok (.aload_n 0, 1) := by decide +kernel
theorem dX12_text_37 : decode cX12_text 37 = .ok (.getfield 20, 3) := by decide +kernel
theorem dX12_text_40 : decode cX12_text 40 = .ok (.iload_n 1, 1) := by decide +kernel
theorem dX12_text_41 : decode cX12_text 41 = .ok (.iaload, 1) := by decide +kernel
theorem dX12_text_42 : decode cX12_text 42 = .ok (.iastore, 1) := by decide +kernel
theorem dX12_text_43 : decode cX12_text 43 = .ok (.iinc 1 1, 3) := by decide +kernel
theorem dX12_text_46 : decode cX12_text 46 = .ok (.goto (-32), 3) := by decide +kernel
theorem dX12_text_49 : decode cX12_text 49 = .ok (.aload_n 0, 1) := by decide +kernel
theorem dX12_text_50 : decode cX12_text 50 = .ok (.getfield 17, 3) := by decide +kernel
theorem dX12_text_53 : decode cX12_text 53 = .ok (.aload_n 0, 1) := by decide +kernel
theorem dX12_text_54 : decode cX12_text 54 = .ok (.getfield 126, 3) := by decide +kernel
theorem dX12_text_57 : decode cX12_text 57 = .ok (.aload_n 0, 1) := by decide +kernel
theorem dX12_text_58 : decode cX12_text 58 = .ok (.getfield 200, 3) := by decide +kernel
theorem dX12_text_61 : decode cX12_text 61 = .ok (.iastore, 1) := by decide +kernel
theorem dX12_text_62 : decode cX12_text 62 = .ok (.aload_n 0, 1) := by decide +kernel
theorem dX12_text_63 : decode cX12_text 63 = .ok (.iconst 0, 1) := by decide +kernel
theorem dX12_text_64 : decode cX12_text 64 = .ok (.putfield 200, 3) := by decide +kernel
theorem dX12_text_67 : decode cX12_text 67 = .ok (.aload_n 0, 1) := by decide +kernel
theorem dX12_text_68 : decode cX12_text 68 = .ok (.aload_n 0, 1) := by decide +kernel
theorem dX12_text_69 : decode cX12_text 69 = .ok (.getfield 126, 3) := by decide +kernel
theorem dX12_text_72 : decode cX12_text 72 = .ok (.iconst 0, 1) := by decide +kernel
theorem dX12_text_73 : decode cX12_text 73 = .ok (.iconst 0, 1) := by decide +kernel
theorem dX12_text_74 : decode cX12_text 74 = .ok (.iconst 0, 1) := by decide +kernel
theorem dX12_text_75 : decode cX12_text 75 = .ok (.iconst 0, 1) := by decide +kernel
theorem dX12_text_76 : decode cX12_text 76 = .ok (.iconst 0, 1) := by decide +kernel
theorem dX12_text_77 : decode cX12_text 77 = .ok (.invokevirtual 335, 3) := by decide +kernel
theorem dX12_text_80 : decode cX12_text 80 = .ok (.istore_n 1, 1) := by decide +kernel
theorem dX12_text_81 : decode cX12_text 81 = .ok (.aload_n 0, 1) := by decide +kernel
theorem dX12_text_82 : decode cX12_text 82 = .ok (.getfield 241, 3) := by decide +kernel
theorem dX12_text_85 : decode cX12_text 85 = .ok (.ifCond .eq 11, 3) := by decide +kernel
theorem dX12_text_88 : decode cX12_text 88 = .ok (.bipush (-100), 2) := by decide +kernel
theorem dX12_text_90 : decode cX12_text 90 = .ok (.aload_n 0, 1) := by decide +kernel
theorem dX12_text_91 : decode cX12_text 91 = .ok (.getfield 245, 3) := by decide +kernel
theorem dX12_text_94 : decode cX12_text 94 = .ok (.isub, 1) := by decide +kernel
theorem dX12_text_95 : decode cX12_text 95 = .ok (.ireturn, 1) := by decide +kernel
theorem dX12_text_96 : decode cX12_text 96 = .ok (.aload_n 0, 1) := by decide +kernel
theorem dX12_text_97 : decode cX12_text 97 = .ok (.dup, 1) := by decide +kernel
theorem dX12_text_98 : decode cX12_text 98 = .ok (.getfield 126, 3) := by decide +kernel
theorem dX12_text_101 : decode cX12_text 101 = .ok (.iconst 1, 1) := by decide +kernel
theorem dX12_text_102 : decode cX12_text 102 = .ok (.iadd, 1) := by decide +kernel
theorem dX12_text_103 : decode cX12_text 103 = .ok (.putfield 126, 3) := by decide +kernel
theorem dX12_text_106 : decode cX12_text 106 = .ok (.aload_n 0, 1) := by decide +kernel
theorem dX12_text_107 : decode cX12_text 107 = .ok (.getfield 126, 3) := by decide +kernel
theorem dX12_text_110 : decode cX12_text 110 = .ok (.iconst 1, 1) := by decide +kernel
theorem dX12_text_111 : decode cX12_text 111 = .ok (.isub, 1) := by decide +kernel
theorem dX12_text_112 : decode cX12_text 112 = .ok (.ireturn, 1) := by decide +kernel
theorem dX12_force_0 : decode cX12_force 0 = .ok (.iload_n 1, 1) := by decide +kernel
theorem dX12_force_1 : decode cX12_force 1 = .ok (.i2l, 1) := by decide +kernel
theorem dX12_force_2 : decode cX12_force 2 = .ok (.lconst 0, 1) := by decide +kernel
theorem dX12_force_3 : decode cX12_force 3 = .ok (.aload_n 0, 1) := by decide +kernel
theorem dX12_force_4 : decode cX12_force 4 = .ok (.getfield 126, 3) := by decide +kernel
theorem dX12_force_7 : decode cX12_force 7 = .ok (.iconst 1, 1) := by decide +kernel
theorem dX12_force_8 : decode cX12_force 8 = .ok (.isub, 1) := by decide +kernel
theorem dX12_force_9 : decode cX12_force 9 = .ok (.i2l, 1) := by decide +kernel
theorem dX12_force_10 : decode cX12_force 10 = .ok (.invokestatic 134, 3) := by decide +kernel
theorem dX12_force_13 : decode cX12_force 13 = .ok (.ifCond .ne 6, 3) := by decide +kernel
theorem dX12_force_16 : decode cX12_force 16 = .ok (.bipush (-2), 2) := by decide +kernel
theorem dX12_force_18 : decode cX12_force 18 = .ok (.ireturn, 1) := by decide +kernel
theorem dX12_force_19 : decode cX12_force 19 = .ok (.aload_n 0, 1) := by decide +kernel
theorem dX12_force_20 : decode cX12_force 20 = .ok (.getfield 332, 3) := by decide +kernel
theorem dX12_force_23 : decode cX12_force 23 = .ok (.istore_n 2, 1) := by decide +kernel
theorem dX12_force_24 : decode cX12_force 24 = .ok (.aload_n 0, 1) := by decide +kernel
theorem dX12_force_25 : decode cX12_force 25 = .ok (.iload_n 1, 1) := by decide +kernel
theorem dX12_force_26 : decode cX12_force 26 = .ok (.putfield 332, 3) := by decide +kernel
theorem dX12_force_29 : decode cX12_force 29 = .ok (.iload_n 2, 1) := by decide +kernel
theorem dX12_force_30 : decode cX12_force 30 = .ok (.ireturn, 1) := by decide +kernel
theorem dX12_areTwo_0 : decode cX12_areTwo 0 = .ok (.iload_n 1, 1) := by decide +kernel
theorem dX12_areTwo_1 : decode cX12_areTwo 1 = .ok (.ifCond .lt 29, 3) := by decide +kernel
theorem dX12_areTwo_4 : decode cX12_areTwo 4 = .ok (.aload_n 0, 1) := by decide +kernel
theorem dX12_areTwo_5 : decode cX12_areTwo 5 = .ok (.iload_n 1, 1) := by decide +kernel
theorem dX12_areTwo_6 : decode cX12_areTwo 6 = .ok (.bipush 20, 2) := by decide +kernel
theorem dX12_areTwo_8 : decode cX12_areTwo 8 = .ok (.idiv, 1) := by decide +kernel
theorem dX12_areTwo_9 : decode cX12_areTwo 9 = .ok (.invokevirtual 170, 3) := by decide +kernel
theorem dX12_areTwo_12 : decode cX12_areTwo 12 = .ok (.ifCond .eq 18, 3) := by decide +kernel
theorem dX12_areTwo_15 : decode cX12_areTwo 15 = .ok (.aload_n 0, 1) := by decide +kernel
theorem dX12_areTwo_16 : decode cX12_areTwo 16 = .ok (.iload_n 1, 1) := by decide +kernel
theorem dX12_areTwo_17 : decode cX12_areTwo 17 = .ok (.bipush 20, 2) := by decide +kernel
theorem dX12_areTwo_19 : decode cX12_areTwo 19 = .ok (.irem, 1) := by decide +kernel
theorem dX12_areTwo_20 : decode cX12_areTwo 20 = .ok (.invokevirtual 170, 3) := by decide +kernel
theorem dX12_areTwo_23 : decode cX12_areTwo 23 = .ok (.ifCond .eq 7, 3) := by decide +kernel
theorem dX12_areTwo_26 : decode cX12_areTwo 26 = .ok (.iconst 1, 1) := by decide +kernel
theorem dX12_areTwo_27 : decode cX12_areTwo 27 = .ok (.goto 4, 3) := by decide +kernel
theorem dX12_areTwo_30 : decode cX12_areTwo 30 = .ok (.iconst 0, 1) := by decide +kernel
theorem dX12_areTwo_31 : decode cX12_areTwo 31 = .ok (.ireturn, 1) := by decide +kernel
theorem dX12_load_0 : decode cX12_load 0 = .ok (.iload_n 1, 1) := by decide +kernel
theorem dX12_load_1 : decode cX12_load 1 = .ok (.i2l, 1) := by decide +kernel
theorem dX12_load_2 : decode cX12_load 2 = .ok (.lconst 0, 1) := by decide +kernel
theorem dX12_load_3 : decode cX12_load 3 = .ok (.ldc2_w 162, 3) := by decide +kernel
theorem dX12_load_6 : decode cX12_load 6 = .ok (.invokestatic 134, 3) := by decide +kernel
theorem dX12_load_9 : decode cX12_load 9 = .ok (.ifCond .eq 23, 3) := by decide +kernel
theorem dX12_load_12 : decode cX12_load 12 = .ok (.iload_n 2, 1) := by decide +kernel
theorem dX12_load_13 : decode cX12_load 13 = .ok (.iconst (-1), 1) := by decide +kernel
theorem dX12_load_14 : decode cX12_load 14 = .ok (.if_icmp .eq 11, 3) := by decide +kernel
theorem dX12_load_17 : decode cX12_load 17 = .ok (.aload_n 0, 1) := by decide +kernel
theorem dX12_load_18 : decode cX12_load 18 = .ok (.iload_n 2, 1) := by decide +kernel
theorem dX12_load_19 : decode cX12_load 19 = .ok (.invokevirtual 339, 3) := by decide +kernel
theorem dX12_load_22 : decode cX12_load 22 = .ok (.ifCond .eq 10, 3) := by decide +kernel
theorem dX12_load_25 : decode cX12_load 25 = .ok (.iload_n 3, 1) := by decide +kernel
theorem dX12_load_26 : decode cX12_load 26 = .ok (.invokestatic 179, 3) := by decide +kernel
theorem dX12_load_29 : decode cX12_load 29 = .ok (.ifCond .ne 6, 3) := by decide +kernel
theorem dX12_load_32 : decode cX12_load 32 = .ok (.bipush (-2), 2) := by decide +kernel
theorem dX12_load_34 : decode cX12_load 34 = .ok (.ireturn, 1) := by decide +kernel
theorem dX12_load_35 : decode cX12_load 35 = .ok (.iconst 0, 1) := by decide +kernel
theorem dX12_load_36 : decode cX12_load 36 = .ok (.istore 4, 2) := by decide +kernel
theorem dX12_load_38 : decode cX12_load 38 = .ok (.iload_n 2, 1) := by decide +kernel
theorem dX12_load_39 : decode cX12_load 39 = .ok (.iconst (-1), 1) := by decide +kernel
theorem dX12_load_40 : decode cX12_load 40 = .ok (.if_icmp .eq 47, 3) := by decide +kernel
theorem dX12_load_43 : decode cX12_load 43 = .ok (.aload_n 0, 1) := by decide +kernel
theorem dX12_load_44 : decode cX12_load 44 = .ok (.getfield 38, 3) := by decide +kernel
theorem dX12_load_47 : decode cX12_load 47 = .ok (.iload_n 2, 1) := by decide +kernel
theorem dX12_load_48 : decode cX12_load 48 = .ok (.bipush 20, 2) := by decide +kernel
theorem dX12_load_50 : decode cX12_load 50 = .ok (.idiv, 1) := by decide +kernel
theorem dX12_load_51 : decode cX12_load 51 = .ok (.iaload, 1) := by decide +kernel
theorem dX12_load_52 : decode cX12_load 52 = .ok (.aload_n 0, 1) := by decide +kernel
theorem dX12_load_53 : decode cX12_load 53 = .ok (.getfield 38, 3) := by decide +kernel
theorem dX12_load_56 : decode cX12_load 56 = .ok (.iload_n 2, 1) := by decide +kernel
theorem dX12_load_57 : decode cX12_load 57 = .ok (.bipush 20, 2) := by decide +kernel
theorem dX12_load_59 : decode cX12_load 59 = .ok (.irem, 1) := by decide +kernel
theorem dX12_load_60 : decode cX12_load 60 = .ok (.iaload, 1) := by decide +kernel
theorem dX12_load_61 : decode cX12_load 61 = .ok (.if_icmp .le 15, 3) := by decide +kernel
theorem dX12_load_64 : decode cX12_load 64 = .ok (.aload_n 0, 1) := by decide +kernel
theorem dX12_load_65 : decode cX12_load 65 = .ok (.getfield 38, 3) := by decide +kernel
theorem dX12_load_68 : decode cX12_load 68 = .ok (.iload_n 2, 1) := by decide +kernel
theorem dX12_load_69 : decode cX12_load 69 = .ok (.bipush 20, 2) := by decide +kernel
theorem dX12_load_71 : decode cX12_load 71 = .ok (.idiv, 1) := by decide +kernel
theorem dX12_load_72 : decode cX12_load 72 = .ok (.iaload, 1) := by decide +kernel
theorem dX12_load_73 : decode cX12_load 73 = .ok (.goto 12, 3) := by decide +kernel
theorem dX12_load_76 : decode cX12_load 76 = .ok (.aload_n 0, 1) := by decide +kernel
theorem dX12_load_77 : decode cX12_load 77 = .ok (.getfield 38, 3) := by decide +kernel
theorem dX12_load_80 : decode cX12_load 80 = .ok (.iload_n 2, 1) := by decide +kernel
theorem dX12_load_81 : decode cX12_load 81 = .ok (.bipush 20, 2) := by decide +kernel
theorem dX12_load_83 : decode cX12_load 83 = .ok (.irem, 1) := by decide +kernel
theorem dX12_load_84 : decode cX12_load 84 = .ok (.iaload, 1) := by decide +kernel
theorem dX12_load_85 : decode cX12_load 85 = .ok (.istore 4, 2) := by decide +kernel
theorem dX12_load_87 : decode cX12_load 87 = .ok (.aload_n 0, 1) := by decide +kernel
theorem dX12_load_88 : decode cX12_load 88 = .ok (.aload_n 0, 1) := by decide +kernel
theorem dX12_load_89 : decode cX12_load 89 = .ok (.getfield 332, 3) := by decide +kernel
theorem dX12_load_92 : decode cX12_load 92 = .ok (.iload_n 1, 1) := by decide +kernel
theorem dX12_load_93 : decode cX12_load 93 = .ok (.iload 4, 2) := by decide +kernel
theorem dX12_load_95 : decode cX12_load 95 = .ok (.iload_n 3, 1) := by decide +kernel
theorem dX12_load_96 : decode cX12_load 96 = .ok (.iconst 0, 1) := by decide +kernel
theorem dX12_load_97 : decode cX12_load 97 = .ok (.iconst 0, 1) := by decide +kernel
theorem dX12_load_98 : decode cX12_load 98 = .ok (.invokevirtual 335, 3) := by decide +kernel
theorem dX12_load_101 : decode cX12_load 101 = .ok (.iconst 1, 1) := by decide +kernel
theorem dX12_load_102 : decode cX12_load 102 = .ok (.bipush 14, 2) := by decide +kernel
theorem dX12_load_104 : decode cX12_load 104 = .ok (.invokestatic 342, 3) := by decide +kernel
theorem dX12_load_107 : decode cX12_load 107 = .ok (.ireturn, 1) := by decide +kernel
theorem dX12_takes_0 : decode cX12_takes 0 = .ok (.aload_n 0, 1) := by decide +kernel
theorem dX12_takes_1 : decode cX12_takes 1 = .ok (.iload_n 1, 1) := by decide +kernel
theorem dX12_takes_2 : decode cX12_takes 2 = .ok (.invokevirtual 159, 3) := by decide +kernel
theorem dX12_takes_5 : decode cX12_takes 5 = .ok (.ifCond .eq 22, 3) := by decide +kernel
theorem dX12_takes_8 : decode cX12_takes 8 = .ok (.aload_n 0, 1) := by decide +kernel
theorem dX12_takes_9 : decode cX12_takes 9 = .ok (.iload_n 2, 1) := by decide +kernel
theorem dX12_takes_10 : decode cX12_takes 10 = .ok (.invokevirtual 339, 3) := by decide +kernel
theorem dX12_takes_13 : decode cX12_takes 13 = .ok (.ifCond .eq 14, 3) := by decide +kernel
theorem dX12_takes_16 : decode cX12_takes 16 = .ok (.iload_n 2, 1) := by decide +kernel
theorem dX12_takes_17 : decode cX12_takes 17 = .ok (.bipush 20, 2) := by decide +kernel
theorem dX12_takes_19 : decode cX12_takes 19 = .ok (.idiv, 1) := by decide +kernel
theorem dX12_takes_20 : decode cX12_takes 20 = .ok (.iload_n 2, 1) := by decide +kernel
theorem dX12_takes_21 : decode cX12_takes 21 = .ok (.bipush 20, 2) := by decide +kernel
theorem dX12_takes_23 : decode cX12_takes 23 = .ok (.irem, 1) := by decide +kernel
theorem dX12_takes_24 : decode cX12_takes 24 = .ok (.if_icmp .ne 6, 3) := by decide +kernel
theorem dX12_takes_27 : decode cX12_takes 27 = .ok (.bipush (-2), 2) := by decide +kernel
theorem dX12_takes_29 : decode cX12_takes 29 = .ok (.ireturn, 1) := by decide +kernel
theorem dX12_takes_30 : decode cX12_takes 30 = .ok (.aload_n 0, 1) := by decide +kernel
theorem dX12_takes_31 : decode cX12_takes 31 = .ok (.iload_n 2, 1) := by decide +kernel
theorem dX12_takes_32 : decode cX12_takes 32 = .ok (.bipush 20, 2) := by decide +kernel
theorem dX12_takes_34 : decode cX12_takes 34 = .ok (.idiv, 1) := by decide +kernel
theorem dX12_takes_35 : decode cX12_takes 35 = .ok (.invokevirtual 183, 3) := by decide +kernel
theorem dX12_takes_38 : decode cX12_takes 38 = .ok (.aload_n 0, 1) := by decide +kernel
theorem dX12_takes_39 : decode cX12_takes 39 = .ok (.iload_n 2, 1) := by decide +kernel
theorem dX12_takes_40 : decode cX12_takes 40 = .ok (.bipush 20, 2) := by decide +kernel
theorem dX12_takes_42 : decode cX12_takes 42 = .ok (.irem, 1) := by decide +kernel
theorem dX12_takes_43 : decode cX12_takes 43 = .ok (.invokevirtual 183, 3) := by decide +kernel
theorem dX12_takes_46 : decode cX12_takes 46 = .ok (.iadd, 1) := by decide +kernel
theorem dX12_takes_47 : decode cX12_takes 47 = .ok (.istore_n 3, 1) := by decide +kernel
theorem dX12_takes_48 : decode cX12_takes 48 = .ok (.aload_n 0, 1) := by decide +kernel
theorem dX12_takes_49 : decode cX12_takes 49 = .ok (.getfield 23, 3) := by decide +kernel
theorem dX12_takes_52 : decode cX12_takes 52 = .ok (.iload_n 1, 1) := by decide +kernel
theorem dX12_takes_53 : decode cX12_takes 53 = .ok (.iaload, 1) := by decide +kernel
theorem dX12_takes_54 : decode cX12_takes 54 = .ok (.iconst 2, 1) := by decide +kernel
theorem dX12_takes_55 : decode cX12_takes 55 = .ok (.aload_n 0, 1) := by decide +kernel
theorem dX12_takes_56 : decode cX12_takes 56 = .ok (.getfield 156, 3) := by decide +kernel
theorem dX12_takes_59 : decode cX12_takes 59 = .ok (.imul, 1) := by decide +kernel
theorem dX12_takes_60 : decode cX12_takes 60 = .ok (.iadd, 1) := by decide +kernel
theorem dX12_takes_61 : decode cX12_takes 61 = .ok (.iload_n 3, 1) := by decide +kernel
theorem dX12_takes_62 : decode cX12_takes 62 = .ok (.iadd, 1) := by decide +kernel
theorem dX12_takes_63 : decode cX12_takes 63 = .ok (.iconst 1, 1) := by decide +kernel
theorem dX12_takes_64 : decode cX12_takes 64 = .ok (.isub, 1) := by decide +kernel
theorem dX12_takes_65 : decode cX12_takes 65 = .ok (.iload_n 3, 1) := by decide +kernel
theorem dX12_takes_66 : decode cX12_takes 66 = .ok (.idiv, 1) := by decide +kernel
theorem dX12_takes_67 : decode cX12_takes 67 = .ok (.ireturn, 1) := by decide +kernel
theorem dX12_tail_0 : decode cX12_tail 0 = .ok (.iload_n 1, 1) := by decide +kernel
theorem dX12_tail_1 : decode cX12_tail 1 = .ok (.iload_n 0, 1) := by decide +kernel
theorem dX12_tail_2 : decode cX12_tail 2 = .ok (.imul, 1) := by decide +kernel
theorem dX12_tail_3 : decode cX12_tail 3 = .ok (.istore 4, 2) := by decide +kernel
theorem dX12_tail_5 : decode cX12_tail 5 = .ok (.iload_n 0, 1) := by decide +kernel
theorem dX12_tail_6 : decode cX12_tail 6 = .ok (.istore 5, 2) := by decide +kernel
theorem dX12_tail_8 : decode cX12_tail 8 = .ok (.iload 5, 2) := by decide +kernel
theorem dX12_tail_10 : decode cX12_tail 10 = .ok (.ifCond .le 33, 3) := by decide +kernel
theorem dX12_tail_13 : decode cX12_tail 13 = .ok (.iload 5, 2) := by decide +kernel
theorem dX12_tail_15 : decode cX12_tail 15 = .ok (.iload_n 3, 1) := by decide +kernel
theorem dX12_tail_16 : decode cX12_tail 16 = .ok (.if_icmp .le 10, 3) := by decide +kernel
theorem dX12_tail_19 : decode cX12_tail 19 = .ok (.iload 5, 2) := by decide +kernel
theorem dX12_tail_21 : decode cX12_tail 21 = .ok (.iload_n 3, 1) := by decide +kernel
theorem dX12_tail_22 : decode cX12_tail 22 = .ok (.isub, 1) := by decide +kernel
theorem dX12_tail_23 : decode cX12_tail 23 = .ok (.goto 4, 3) := by decide +kernel
theorem dX12_tail_26 : decode cX12_tail 26 = .ok (.iconst 0, 1) := by decide +kernel
theorem dX12_tail_27 : decode cX12_tail 27 = .ok (.istore 5, 2) := by decide +kernel
theorem dX12_tail_29 : decode cX12_tail 29 = .ok (.iload 4, 2) := by decide +kernel
theorem dX12_tail_31 : decode cX12_tail 31 = .ok (.iconst 2, 1) := by decide +kernel
theorem dX12_tail_32 : decode cX12_tail 32 = .ok (.iload_n 2, 1) := by decide +kernel
theorem dX12_tail_33 : decode cX12_tail 33 = .ok (.imul, 1) := by decide +kernel
theorem dX12_tail_34 : decode cX12_tail 34 = .ok (.iload 5, 2) := by decide +kernel
theorem dX12_tail_36 : decode cX12_tail 36 = .ok (.imul, 1) := by decide +kernel
theorem dX12_tail_37 : decode cX12_tail 37 = .ok (.iadd, 1) := by decide +kernel
theorem dX12_tail_38 : decode cX12_tail 38 = .ok (.istore 4, 2) := by decide +kernel
theorem dX12_tail_40 : decode cX12_tail 40 = .ok (.goto (-32), 3) := by decide +kernel
theorem dX12_tail_43 : decode cX12_tail 43 = .ok (.iload 4, 2) := by decide +kernel
theorem dX12_tail_45 : decode cX12_tail 45 = .ok (.ireturn, 1) := by decide +kernel
theorem dX12_waits_0 : decode cX12_waits 0 = .ok (.iload_n 1, 1) := by decide +kernel
theorem dX12_waits_1 : decode cX12_waits 1 = .ok (.invokestatic 346, 3) := by decide +kernel
theorem dX12_waits_4 : decode cX12_waits 4 = .ok (.ifCond .eq 38, 3) := by decide +kernel
theorem dX12_waits_7 : decode cX12_waits 7 = .ok (.iload_n 2, 1) := by decide +kernel
theorem dX12_waits_8 : decode cX12_waits 8 = .ok (.i2l, 1) := by decide +kernel
theorem dX12_waits_9 : decode cX12_waits 9 = .ok (.lconst 1, 1) := by decide +kernel
theorem dX12_waits_10 : decode cX12_waits 10 = .ok (.ldc2_w 151, 3) := by decide +kernel
theorem dX12_waits_13 : decode cX12_waits 13 = .ok (.invokestatic 134, 3) := by decide +kernel
theorem dX12_waits_16 : decode cX12_waits 16 = .ok (.ifCond .eq 26, 3) := by decide +kernel
theorem dX12_waits_19 : decode cX12_waits 19 = .ok (.iload_n 3, 1) := by decide +kernel
theorem dX12_waits_20 : decode cX12_waits 20 = .ok (.i2l, 1) := by decide +kernel
theorem dX12_waits_21 : decode cX12_waits 21 = .ok (.lconst 1, 1) := by decide +kernel
theorem dX12_waits_22 : decode cX12_waits 22 = .ok (.ldc2_w 349, 3) := by decide +kernel
theorem dX12_waits_25 : decode cX12_waits 25 = .ok (.invokestatic 134, 3) := by decide +kernel
theorem dX12_waits_28 : decode cX12_waits 28 = .ok (.ifCond .eq 14, 3) := by decide +kernel
theorem dX12_waits_31 : decode cX12_waits 31 = .ok (.iload 4, 2) := by decide +kernel
theorem dX12_waits_33 : decode cX12_waits 33 = .ok (.i2l, 1) := by decide +kernel
theorem dX12_waits_34 : decode cX12_waits 34 = .ok (.lconst 0, 1) := by decide +kernel
theorem dX12_waits_35 : decode cX12_waits 35 = .ok (.lconst 1, 1) := by decide +kernel
theorem dX12_waits_36 : decode cX12_waits 36 = .ok (.invokestatic 134, 3) := by decide +kernel
theorem dX12_waits_39 : decode cX12_waits 39 = .ok (.ifCond .ne 6, 3) := by decide +kernel
theorem dX12_waits_42 : decode cX12_waits 42 = .ok (.bipush (-2), 2) := by decide +kernel
theorem dX12_waits_44 : decode cX12_waits 44 = .ok (.ireturn, 1) := by decide +kernel
theorem dX12_waits_45 : decode cX12_waits 45 = .ok (.aload_n 0, 1) := by decide +kernel
theorem dX12_waits_46 : decode cX12_waits 46 = .ok (.getfield 95, 3) := by decide +kernel
theorem dX12_waits_49 : decode cX12_waits 49 = .ok (.iload_n 1, 1) := by decide +kernel
theorem dX12_waits_50 : decode cX12_waits 50 = .ok (.baload, 1) := by decide +kernel
theorem dX12_waits_51 : decode cX12_waits 51 = .ok (.ifCond .ne 6, 3) := by decide +kernel
theorem dX12_waits_54 : decode cX12_waits 54 = .ok (.bipush (-11), 2) := by decide +kernel
theorem dX12_waits_56 : decode cX12_waits 56 = .ok (.ireturn, 1) := by decide +kernel
theorem dX12_waits_57 : decode cX12_waits 57 = .ok (.aload_n 0, 1) := by decide +kernel
theorem dX12_waits_58 : decode cX12_waits 58 = .ok (.getfield 102, 3) := by decide +kernel
theorem dX12_waits_61 : decode cX12_waits 61 = .ok (.iload_n 1, 1) := by decide +kernel
theorem dX12_waits_62 : decode cX12_waits 62 = .ok (.iaload, 1) := by decide +kernel
theorem dX12_waits_63 : decode cX12_waits 63 = .ok (.istore 5, 2) := by decide +kernel
theorem dX12_waits_65 : decode cX12_waits 65 = .ok (.iload 5, 2) := by decide +kernel
theorem dX12_waits_67 : decode cX12_waits 67 = .ok (.i2l, 1) := by decide +kernel
theorem dX12_waits_68 : decode cX12_waits 68 = .ok (.lconst 1, 1) := by decide +kernel
theorem dX12_waits_69 : decode cX12_waits 69 = .ok (.ldc2_w 351, 3) := by decide +kernel
theorem dX12_waits_72 : decode cX12_waits 72 = .ok (.invokestatic 134, 3) := by decide +kernel
theorem dX12_waits_75 : decode cX12_waits 75 = .ok (.ifCond .ne 6, 3) := by decide +kernel
theorem dX12_waits_78 : decode cX12_waits 78 = .ok (.bipush (-2), 2) := by decide +kernel
theorem dX12_waits_80 : decode cX12_waits 80 = .ok (.ireturn, 1) := by decide +kernel
theorem dX12_waits_81 : decode cX12_waits 81 = .ok (.iconst 0, 1) := by decide +kernel
theorem dX12_waits_82 : decode cX12_waits 82 = .ok (.istore 6, 2) := by decide +kernel
theorem dX12_waits_84 : decode cX12_waits 84 = .ok (.iload 6, 2) := by decide +kernel
theorem dX12_waits_86 : decode cX12_waits 86 = .ok (.iload 5, 2) := by decide +kernel
theorem dX12_waits_88 : decode cX12_waits 88 = .ok (.if_icmp .ge 35, 3) := by decide +kernel
theorem dX12_waits_91 : decode cX12_waits 91 = .ok (.aload_n 0, 1) := by decide +kernel
theorem dX12_waits_92 : decode cX12_waits 92 = .ok (.getfield 105, 3) := by decide +kernel
theorem dX12_waits_95 : decode cX12_waits 95 = .ok (.bipush 40, 2) := by decide +kernel
theorem dX12_waits_97 : decode cX12_waits 97 = .ok (.iload_n 1, 1) := by decide +kernel
theorem dX12_waits_98 : decode cX12_waits 98 = .ok (.imul, 1) := by decide +kernel
theorem dX12_waits_99 : decode cX12_waits 99 = .ok (.iload 6, 2) := by decide +kernel
theorem dX12_waits_101 : decode cX12_waits 101 = .ok (.iadd, 1) := by decide +kernel
theorem dX12_waits_102 : decode cX12_waits 102 = .ok (.iaload, 1) := by decide +kernel
theorem dX12_waits_103 : decode cX12_waits 103 = .ok (.i2l, 1) := by decide +kernel
theorem dX12_waits_104 : decode cX12_waits 104 = .ok (.lconst 0, 1) := by decide +kernel
theorem dX12_waits_105 : decode cX12_waits 105 = .ok (.ldc2_w 353, 3) := by decide +kernel
theorem dX12_waits_108 : decode cX12_waits 108 = .ok (.invokestatic 134, 3) := by decide +kernel
theorem dX12_waits_111 : decode cX12_waits 111 = .ok (.ifCond .ne 6, 3) := by decide +kernel
theorem dX12_waits_114 : decode cX12_waits 114 = .ok (.bipush (-2), 2) := by decide +kernel
theorem dX12_waits_116 : decode cX12_waits 116 = .ok (.ireturn, 1) := by decide +kernel
theorem dX12_waits_117 : decode cX12_waits 117 = .ok (.iinc 6 1, 3) := by decide +kernel
theorem dX12_waits_120 : decode cX12_waits 120 = .ok (.goto (-36), 3) := by decide +kernel
theorem dX12_waits_123 : decode cX12_waits 123 = .ok (.iconst 2, 1) := by decide +kernel
theorem dX12_waits_124 : decode cX12_waits 124 = .ok (.iload_n 2, 1) := by decide +kernel
theorem dX12_waits_125 : decode cX12_waits 125 = .ok (.imul, 1) := by decide +kernel
theorem dX12_waits_126 : decode cX12_waits 126 = .ok (.istore 6, 2) := by decide +kernel
theorem dX12_waits_128 : decode cX12_waits 128 = .ok (.iconst 0, 1) := by decide +kernel
theorem dX12_waits_129 : decode cX12_waits 129 = .ok (.istore 7, 2) := by decide +kernel
theorem dX12_waits_131 : decode cX12_waits 131 = .ok (.iload 7, 2) := by decide +kernel
theorem dX12_waits_133 : decode cX12_waits 133 = .ok (.iload 6, 2) := by decide +kernel
theorem dX12_waits_135 : decode cX12_waits 135 = .ok (.if_icmp .ge 64, 3) := by decide +kernel
theorem dX12_waits_138 : decode cX12_waits 138 = .ok (.iconst 0, 1) := by decide +kernel
theorem dX12_waits_139 : decode cX12_waits 139 = .ok (.istore 8, 2) := by decide +kernel
theorem dX12_waits_141 : decode cX12_waits 141 = .ok (.iload 8, 2) := by decide +kernel
theorem dX12_waits_143 : decode cX12_waits 143 = .ok (.sipush 481, 3) := by decide +kernel
theorem dX12_waits_146 : decode cX12_waits 146 = .ok (.if_icmp .ge 47, 3) := by decide +kernel
theorem dX12_waits_149 : decode cX12_waits 149 = .ok (.aload_n 0, 1) := by decide +kernel
theorem dX12_waits_150 : decode cX12_waits 150 = .ok (.getfield 59, 3) := by decide +kernel
theorem dX12_waits_153 : decode cX12_waits 153 = .ok (.sipush 481, 3) := by decide +kernel
theorem dX12_waits_156 : decode cX12_waits 156 = .ok (.iload 7, 2) := by decide +kernel
theorem dX12_waits_158 : decode cX12_waits 158 = .ok (.imul, 1) := by decide +kernel
theorem dX12_waits_159 : decode cX12_waits 159 = .ok (.iload 8, 2) := by decide +kernel
theorem dX12_waits_161 : decode cX12_waits 161 = .ok (.iadd, 1) := by decide +kernel
theorem dX12_waits_162 : decode cX12_waits 162 = .ok (.iload 8, 2) := by decide +kernel
theorem dX12_waits_164 : decode cX12_waits 164 = .ok (.iload 7, 2) := by decide +kernel
theorem dX12_waits_166 : decode cX12_waits 166 = .ok (.iload_n 2, 1) := by decide +kernel
theorem dX12_waits_167 : decode cX12_waits 167 = .ok (.iload_n 3, 1) := by decide +kernel
theorem dX12_waits_168 : decode cX12_waits 168 = .ok (.invokestatic 355, 3) := by decide +kernel
theorem dX12_waits_171 : decode cX12_waits 171 = .ok (.iastore, 1) := by decide +kernel
theorem dX12_waits_172 : decode cX12_waits 172 = .ok (.aload_n 0, 1) := by decide +kernel
theorem dX12_waits_173 : decode cX12_waits 173 = .ok (.getfield 65, 3) := by decide +kernel
theorem dX12_waits_176 : decode cX12_waits 176 = .ok (.sipush 481, 3) := by decide +kernel
theorem dX12_waits_179 : decode cX12_waits 179 = .ok (.iload 7, 2) := by decide +kernel
theorem dX12_waits_181 : decode cX12_waits 181 = .ok (.imul, 1) := by decide +kernel
theorem dX12_waits_182 : decode cX12_waits 182 = .ok (.iload 8, 2) := by decide +kernel
theorem dX12_waits_184 : decode cX12_waits 184 = .ok (.iadd, 1) := by decide +kernel
theorem dX12_waits_185 : decode cX12_waits 185 = .ok (.iconst 0, 1) := by decide +kernel
theorem dX12_waits_186 : decode cX12_waits 186 = .ok (.iastore, 1) := by decide +kernel
theorem dX12_waits_187 : decode cX12_waits 187 = .ok (.iinc 8 1, 3) := by decide +kernel
theorem dX12_waits_190 : decode cX12_waits 190 = .ok (.goto (-49), 3) := by decide +kernel
theorem dX12_waits_193 : decode cX12_waits 193 = .ok (.iinc 7 1, 3) := by decide +kernel
theorem dX12_waits_196 : decode cX12_waits 196 = .ok (.goto (-65), 3) := by decide +kernel
theorem dX12_waits_199 : decode cX12_waits 199 = .ok (.iload 5, 2) := by decide +kernel
theorem dX12_waits_201 : decode cX12_waits 201 = .ok (.iconst 1, 1) := by decide +kernel
theorem dX12_waits_202 : decode cX12_waits 202 = .ok (.isub, 1) := by decide +kernel
theorem dX12_waits_203 : decode cX12_waits 203 = .ok (.istore 7, 2) := by decide +kernel
theorem dX12_waits_205 : decode cX12_waits 205 = .ok (.iload 7, 2) := by decide +kernel
theorem dX12_waits_207 : decode cX12_waits 207 = .ok (.ifCond .lt 138, 3) := by decide +kernel
theorem dX12_waits_210 : decode cX12_waits 210 = .ok (.aload_n 0, 1) := by decide +kernel
theorem dX12_waits_211 : decode cX12_waits 211 = .ok (.getfield 105, 3) := by decide +kernel
theorem dX12_waits_214 : decode cX12_waits 214 = .ok (.bipush 40, 2) := by decide +kernel
theorem dX12_waits_216 : decode cX12_waits 216 = .ok (.iload_n 1, 1) := by decide +kernel
theorem dX12_waits_217 : decode cX12_waits 217 = .ok (.imul, 1) := by decide +kernel
theorem dX12_waits_218 : decode cX12_waits 218 = .ok (.iload 7, 2) := by decide +kernel
theorem dX12_waits_220 : decode cX12_waits 220 = .ok (.iadd, 1) := by decide +kernel
theorem dX12_waits_221 : decode cX12_waits 221 = .ok (.iaload, 1) := by decide +kernel
theorem dX12_waits_222 : decode cX12_waits 222 = .ok (.istore 8, 2) := by decide +kernel
theorem dX12_waits_224 : decode cX12_waits 224 = .ok (.iconst 0, 1) := by decide +kernel
theorem dX12_waits_225 : decode cX12_waits 225 = .ok (.istore 9, 2) := by decide +kernel
theorem dX12_waits_227 : decode cX12_waits 227 = .ok (.iload 9, 2) := by decide +kernel
theorem dX12_waits_229 : decode cX12_waits 229 = .ok (.iload 6, 2) := by decide +kernel
theorem dX12_waits_231 : decode cX12_waits 231 = .ok (.if_icmp .ge 60, 3) := by decide +kernel
theorem dX12_waits_234 : decode cX12_waits 234 = .ok (.iconst 0, 1) := by decide +kernel
theorem dX12_waits_235 : decode cX12_waits 235 = .ok (.istore 10, 2) := by decide +kernel
theorem dX12_waits_237 : decode cX12_waits 237 = .ok (.iload 10, 2) := by decide +kernel
theorem dX12_waits_239 : decode cX12_waits 239 = .ok (.iload 8, 2) := by decide +kernel
theorem dX12_waits_241 : decode cX12_waits 241 = .ok (.iadd, 1) := by decide +kernel
theorem dX12_waits_242 : decode cX12_waits 242 = .ok (.sipush 481, 3) := by decide +kernel
theorem dX12_waits_245 : decode cX12_waits 245 = .ok (.if_icmp .ge 40, 3) := by decide +kernel
theorem dX12_waits_248 : decode cX12_waits 248 = .ok (.aload_n 0, 1) := by decide +kernel
theorem dX12_waits_249 : decode cX12_waits 249 = .ok (.iload 7, 2) := by decide +kernel
theorem dX12_waits_251 : decode cX12_waits 251 = .ok (.iload 9, 2) := by decide +kernel
theorem dX12_waits_253 : decode cX12_waits 253 = .ok (.iload 10, 2) := by decide +kernel
theorem dX12_waits_255 : decode cX12_waits 255 = .ok (.iload 10, 2) := by decide +kernel
theorem dX12_waits_257 : decode cX12_waits 257 = .ok (.iload 8, 2) := by decide +kernel
theorem dX12_waits_259 : decode cX12_waits 259 = .ok (.iadd, 1) := by decide +kernel
theorem dX12_waits_260 : decode cX12_waits 260 = .ok (.iload_n 2, 1) := by decide +kernel
theorem dX12_waits_261 : decode cX12_waits 261 = .ok (.iload_n 3, 1) := by decide +kernel
theorem dX12_waits_262 : decode cX12_waits 262 = .ok (.iload 7, 2) := by decide +kernel
theorem dX12_waits_264 : decode cX12_waits 264 = .ok (.iload 5, 2) := by decide +kernel
theorem dX12_waits_266 : decode cX12_waits 266 = .ok (.iconst 1, 1) := by decide +kernel
theorem dX12_waits_267 : decode cX12_waits 267 = .ok (.isub, 1) := by decide +kernel
theorem dX12_waits_268 : decode cX12_waits 268 = .ok (.if_icmp .ne 7, 3) := by decide +kernel
theorem dX12_waits_271 : decode cX12_waits 271 = .ok (.iconst 1, 1) := by decide +kernel
theorem dX12_waits_272 : decode cX12_waits 272 = .ok (.goto 4, 3) := by decide +kernel
theorem dX12_waits_275 : decode cX12_waits 275 = .ok (.iconst 0, 1) := by decide +kernel
theorem dX12_waits_276 : decode cX12_waits 276 = .ok (.invokevirtual 359, 3) := by decide +kernel
theorem dX12_waits_279 : decode cX12_waits 279 = .ok (.iinc 10 1, 3) := by decide +kernel
theorem dX12_waits_282 : decode cX12_waits 282 = .ok (.goto (-45), 3) := by decide +kernel
theorem dX12_waits_285 : decode cX12_waits 285 = .ok (.iinc 9 1, 3) := by decide +kernel
theorem dX12_waits_288 : decode cX12_waits 288 = .ok (.goto (-61), 3) := by decide +kernel
theorem dX12_waits_291 : decode cX12_waits 291 = .ok (.iconst 0, 1) := by decide +kernel
theorem dX12_waits_292 : decode cX12_waits 292 = .ok (.istore 9, 2) := by decide +kernel
theorem dX12_waits_294 : decode cX12_waits 294 = .ok (.iload 9, 2) := by decide +kernel
theorem dX12_waits_296 : decode cX12_waits 296 = .ok (.sipush 481, 3) := by decide +kernel
theorem dX12_waits_299 : decode cX12_waits 299 = .ok (.iload 6, 2) := by decide +kernel
theorem dX12_waits_301 : decode cX12_waits 301 = .ok (.imul, 1) := by decide +kernel
theorem dX12_waits_302 : decode cX12_waits 302 = .ok (.if_icmp .ge 37, 3) := by decide +kernel
theorem dX12_waits_305 : decode cX12_waits 305 = .ok (.aload_n 0, 1) := by decide +kernel
theorem dX12_waits_306 : decode cX12_waits 306 = .ok (.getfield 59, 3) := by decide +kernel
theorem dX12_waits_309 : decode cX12_waits 309 = .ok (.iload 9, 2) := by decide +kernel
theorem dX12_waits_311 : decode cX12_waits 311 = .ok (.aload_n 0, 1) := by decide +kernel
theorem dX12_waits_312 : decode cX12_waits 312 = .ok (.getfield 56, 3) := by decide +kernel
theorem dX12_waits_315 : decode cX12_waits 315 = .ok (.iload 9, 2) := by decide +kernel
theorem dX12_waits_317 : decode cX12_waits 317 = .ok (.iaload, 1) := by decide +kernel
theorem dX12_waits_318 : decode cX12_waits 318 = .ok (.iastore, 1) := by decide +kernel
theorem dX12_waits_319 : decode cX12_waits 319 = .ok (.aload_n 0, 1) := by decide +kernel
theorem dX12_waits_320 : decode cX12_waits 320 = .ok (.getfield 65, 3) := by decide +kernel
theorem dX12_waits_323 : decode cX12_waits 323 = .ok (.iload 9, 2) := by decide +kernel
theorem dX12_waits_325 : decode cX12_waits 325 = .ok (.aload_n 0, 1) := by decide +kernel
theorem dX12_waits_326 : decode cX12_waits 326 = .ok (.getfield 62, 3) := by decide +kernel
theorem dX12_waits_329 : decode cX12_waits 329 = .ok (.iload 9, 2) := by decide +kernel
theorem dX12_waits_331 : decode cX12_waits 331 = .ok (.iaload, 1) := by decide +kernel
theorem dX12_waits_332 : decode cX12_waits 332 = .ok (.iastore, 1) := by decide +kernel
theorem dX12_waits_333 : decode cX12_waits 333 = .ok (.iinc 9 1, 3) := by decide +kernel
theorem dX12_waits_336 : decode cX12_waits 336 = .ok (.goto (-42), 3) := by decide +kernel
theorem dX12_waits_339 : decode cX12_waits 339 = .ok (.iinc 7 (-1), 3) := by decide +kernel
theorem dX12_waits_342 : decode cX12_waits 342 = .ok (.goto (-137), 3) := by decide +kernel
theorem dX12_waits_345 : decode cX12_waits 345 = .ok (.iload 4, 2) := by decide +kernel
theorem dX12_waits_347 : decode cX12_waits 347 = .ok (.ifCond .ne 12, 3) := by decide +kernel
theorem dX12_waits_350 : decode cX12_waits 350 = .ok (.aload_n 0, 1) := by decide +kernel
theorem dX12_waits_351 : decode cX12_waits 351 = .ok (.getfield 59, 3) := by decide +kernel
theorem dX12_waits_354 : decode cX12_waits 354 = .ok (.iconst 0, 1) := by decide +kernel
theorem dX12_waits_355 : decode cX12_waits 355 = .ok (.iaload, 1) := by decide +kernel
theorem dX12_waits_356 : decode cX12_waits 356 = .ok (.goto 9, 3) := by decide +kernel
theorem dX12_waits_359 : decode cX12_waits 359 = .ok (.aload_n 0, 1) := by decide +kernel
theorem dX12_waits_360 : decode cX12_waits 360 = .ok (.getfield 65, 3) := by decide +kernel
theorem dX12_waits_363 : decode cX12_waits 363 = .ok (.iconst 0, 1) := by decide +kernel
theorem dX12_waits_364 : decode cX12_waits 364 = .ok (.iaload, 1) := by decide +kernel
theorem dX12_waits_365 : decode cX12_waits 365 = .ok (.ireturn, 1) := by decide +kernel
theorem dX12_minute_0 : decode cX12_minute 0 = .ok (.sipush 481, 3) := by decide +kernel
theorem dX12_minute_3 : decode cX12_minute 3 = .ok (.iload_n 2, 1) := by decide +kernel
theorem dX12_minute_4 : decode cX12_minute 4 = .ok (.imul, 1) := by decide +kernel
theorem dX12_minute_5 : decode cX12_minute 5 = .ok (.iload_n 3, 1) := by decide +kernel
theorem dX12_minute_6 : decode cX12_minute 6 = .ok (.iadd, 1) := by decide +kernel
theorem dX12_minute_7 : decode cX12_minute 7 = .ok (.istore 8, 2) := by decide +kernel
theorem dX12_minute_9 : decode cX12_minute 9 = .ok (.sipush 481, 3) := by decide +kernel
theorem dX12_minute_12 : decode cX12_minute 12 = .ok (.iload_n 2, 1) := by decide +kernel
theorem dX12_minute_13 : decode cX12_minute 13 = .ok (.ifCond .le 9, 3) := by decide +kernel
theorem dX12_minute_16 : decode cX12_minute 16 = .ok (.iload_n 2, 1) := by decide +kernel
theorem dX12_minute_17 : decode cX12_minute 17 = .ok (.iconst 1, 1) := by decide +kernel
theorem dX12_minute_18 : decode cX12_minute 18 = .ok (.isub, 1) := by decide +kernel
theorem dX12_minute_19 : decode cX12_minute 19 = .ok (.goto 4, 3) := by decide +kernel
theorem dX12_minute_22 : decode cX12_minute 22 = .ok (.iconst 0, 1) := by decide +kernel
theorem dX12_minute_23 : decode cX12_minute 23 = .ok (.imul, 1) := by decide +kernel
theorem dX12_minute_24 : decode cX12_minute 24 = .ok (.iload 4, 2) := by decide +kernel
theorem dX12_minute_26 : decode cX12_minute 26 = .ok (.iadd, 1) := by decide +kernel
theorem dX12_minute_27 : decode cX12_minute 27 = .ok (.istore 9, 2) := by decide +kernel
theorem dX12_minute_29 : decode cX12_minute 29 = .ok (.aload_n 0, 1) := by decide +kernel
theorem dX12_minute_30 : decode cX12_minute 30 = .ok (.getfield 56, 3) := by decide +kernel
theorem dX12_minute_33 : decode cX12_minute 33 = .ok (.iload 8, 2) := by decide +kernel
theorem dX12_minute_35 : decode cX12_minute 35 = .ok (.iload 4, 2) := by decide +kernel
theorem dX12_minute_37 : decode cX12_minute 37 = .ok (.aload_n 0, 1) := by decide +kernel
theorem dX12_minute_38 : decode cX12_minute 38 = .ok (.getfield 59, 3) := by decide +kernel
theorem dX12_minute_41 : decode cX12_minute 41 = .ok (.iload 9, 2) := by decide +kernel
theorem dX12_minute_43 : decode cX12_minute 43 = .ok (.iaload, 1) := by decide +kernel
theorem dX12_minute_44 : decode cX12_minute 44 = .ok (.iadd, 1) := by decide +kernel
theorem dX12_minute_45 : decode cX12_minute 45 = .ok (.iastore, 1) := by decide +kernel
theorem dX12_minute_46 : decode cX12_minute 46 = .ok (.aload_n 0, 1) := by decide +kernel
theorem dX12_minute_47 : decode cX12_minute 47 = .ok (.getfield 62, 3) := by decide +kernel
theorem dX12_minute_50 : decode cX12_minute 50 = .ok (.iload 8, 2) := by decide +kernel
theorem dX12_minute_52 : decode cX12_minute 52 = .ok (.aload_n 0, 1) := by decide +kernel
theorem dX12_minute_53 : decode cX12_minute 53 = .ok (.getfield 65, 3) := by decide +kernel
theorem dX12_minute_56 : decode cX12_minute 56 = .ok (.iload 9, 2) := by decide +kernel
theorem dX12_minute_58 : decode cX12_minute 58 = .ok (.iaload, 1) := by decide +kernel
theorem dX12_minute_59 : decode cX12_minute 59 = .ok (.iastore, 1) := by decide +kernel
theorem dX12_minute_60 : decode cX12_minute 60 = .ok (.iload_n 2, 1) := by decide +kernel
theorem dX12_minute_61 : decode cX12_minute 61 = .ok (.ifCond .gt 8, 3) := by decide +kernel
theorem dX12_minute_64 : decode cX12_minute 64 = .ok (.iload 4, 2) := by decide +kernel
theorem dX12_minute_66 : decode cX12_minute 66 = .ok (.ifCond .ne 4, 3) := by decide +kernel
theorem dX12_minute_69 : decode cX12_minute 69 = .ok (.return_, 1) := by decide +kernel
theorem dX12_minute_70 : decode cX12_minute 70 = .ok (.iload 4, 2) := by decide +kernel
theorem dX12_minute_72 : decode cX12_minute 72 = .ok (.iload 6, 2) := by decide +kernel
theorem dX12_minute_74 : decode cX12_minute 74 = .ok (.if_icmp .le 11, 3) := by decide +kernel
theorem dX12_minute_77 : decode cX12_minute 77 = .ok (.iload 4, 2) := by decide +kernel
theorem dX12_minute_79 : decode cX12_minute 79 = .ok (.iload 6, 2) := by decide +kernel
theorem dX12_minute_81 : decode cX12_minute 81 = .ok (.isub, 1) := by decide +kernel
theorem dX12_minute_82 : decode cX12_minute 82 = .ok (.goto 4, 3) := by decide +kernel
theorem dX12_minute_85 : decode cX12_minute 85 = .ok (.iconst 0, 1) := by decide +kernel
theorem dX12_minute_86 : decode cX12_minute 86 = .ok (.istore 10, 2) := by decide +kernel
theorem dX12_minute_88 : decode cX12_minute 88 = .ok (.sipush 481, 3) := by decide +kernel
theorem dX12_minute_91 : decode cX12_minute 91 = .ok (.iconst 2, 1) := by decide +kernel
theorem dX12_minute_92 : decode cX12_minute 92 = .ok (.iload 5, 2) := by decide +kernel
theorem dX12_minute_94 : decode cX12_minute 94 = .ok (.imul, 1) := by decide +kernel
theorem dX12_minute_95 : decode cX12_minute 95 = .ok (.iconst 1, 1) := by decide +kernel
theorem dX12_minute_96 : decode cX12_minute 96 = .ok (.isub, 1) := by decide +kernel
theorem dX12_minute_97 : decode cX12_minute 97 = .ok (.imul, 1) := by decide +kernel
theorem dX12_minute_98 : decode cX12_minute 98 = .ok (.iload 10, 2) := by decide +kernel
theorem dX12_minute_100 : decode cX12_minute 100 = .ok (.iadd, 1) := by decide +kernel
theorem dX12_minute_101 : decode cX12_minute 101 = .ok (.istore 11, 2) := by decide +kernel
theorem dX12_minute_103 : decode cX12_minute 103 = .ok (.iload 10, 2) := by decide +kernel
theorem dX12_minute_105 : decode cX12_minute 105 = .ok (.aload_n 0, 1) := by decide +kernel
theorem dX12_minute_106 : decode cX12_minute 106 = .ok (.getfield 59, 3) := by decide +kernel
theorem dX12_minute_109 : decode cX12_minute 109 = .ok (.iload 11, 2) := by decide +kernel
theorem dX12_minute_111 : decode cX12_minute 111 = .ok (.iaload, 1) := by decide +kernel
theorem dX12_minute_112 : decode cX12_minute 112 = .ok (.iadd, 1) := by decide +kernel
theorem dX12_minute_113 : decode cX12_minute 113 = .ok (.istore 12, 2) := by decide +kernel
theorem dX12_minute_115 : decode cX12_minute 115 = .ok (.aload_n 0, 1) := by decide +kernel
theorem dX12_minute_116 : decode cX12_minute 116 = .ok (.getfield 65, 3) := by decide +kernel
theorem dX12_minute_119 : decode cX12_minute 119 = .ok (.iload 11, 2) := by decide +kernel
theorem dX12_minute_121 : decode cX12_minute 121 = .ok (.iaload, 1) := by decide +kernel
theorem dX12_minute_122 : decode cX12_minute 122 = .ok (.iconst 1, 1) := by decide +kernel
theorem dX12_minute_123 : decode cX12_minute 123 = .ok (.iload_n 1, 1) := by decide +kernel
theorem dX12_minute_124 : decode cX12_minute 124 = .ok (.ishl, 1) := by decide +kernel
theorem dX12_minute_125 : decode cX12_minute 125 = .ok (.ior, 1) := by decide +kernel
theorem dX12_minute_126 : decode cX12_minute 126 = .ok (.istore 13, 2) := by decide +kernel
theorem dX12_minute_128 : decode cX12_minute 128 = .ok (.iload 7, 2) := by decide +kernel
theorem dX12_minute_130 : decode cX12_minute 130 = .ok (.ifCond .ne 39, 3) := by decide +kernel
theorem dX12_minute_133 : decode cX12_minute 133 = .ok (.iload 12, 2) := by decide +kernel
theorem dX12_minute_135 : decode cX12_minute 135 = .ok (.aload_n 0, 1) := by decide +kernel
theorem dX12_minute_136 : decode cX12_minute 136 = .ok (.getfield 56, 3) := by decide +kernel
theorem dX12_minute_139 : decode cX12_minute 139 = .ok (.iload 8, 2) := by decide +kernel
theorem dX12_minute_141 : decode cX12_minute 141 = .ok (.iaload, 1) := by decide +kernel
theorem dX12_minute_142 : decode cX12_minute 142 = .ok (.if_icmp .lt 27, 3) := by decide +kernel
theorem dX12_minute_145 : decode cX12_minute 145 = .ok (.iload 12, 2) := by decide +kernel
theorem dX12_minute_147 : decode cX12_minute 147 = .ok (.aload_n 0, 1) := by decide +kernel
theorem dX12_minute_148 : decode cX12_minute 148 = .ok (.getfield 56, 3) := by decide +kernel
theorem dX12_minute_151 : decode cX12_minute 151 = .ok (.iload 8, 2) := by decide +kernel
theorem dX12_minute_153 : decode cX12_minute 153 = .ok (.iaload, 1) := by decide +kernel
theorem dX12_minute_154 : decode cX12_minute 154 = .ok (.if_icmp .ne 33, 3) := by decide +kernel
theorem dX12_minute_157 : decode cX12_minute 157 = .ok (.iload 13, 2) := by decide +kernel
theorem dX12_minute_159 : decode cX12_minute 159 = .ok (.aload_n 0, 1) := by decide +kernel
theorem dX12_minute_160 : decode cX12_minute 160 = .ok (.getfield 62, 3) := by decide +kernel
theorem dX12_minute_163 : decode cX12_minute 163 = .ok (.iload 8, 2) := by decide +kernel
theorem dX12_minute_165 : decode cX12_minute 165 = .ok (.iaload, 1) := by decide +kernel
theorem dX12_minute_166 : decode cX12_minute 166 = .ok (.if_icmp .ge 21, 3) := by decide +kernel
theorem dX12_minute_169 : decode cX12_minute 169 = .ok (.aload_n 0, 1) := by decide +kernel
theorem dX12_minute_170 : decode cX12_minute 170 = .ok (.getfield 56, 3) := by decide +kernel
theorem dX12_minute_173 : decode cX12_minute 173 = .ok (.iload 8, 2) := by decide +kernel
theorem dX12_minute_175 : decode cX12_minute 175 = .ok (.iload 12, 2) := by decide +kernel
theorem dX12_minute_177 : decode cX12_minute 177 = .ok (.iastore, 1) := by decide +kernel
theorem dX12_minute_178 : decode cX12_minute 178 = .ok (.aload_n 0, 1) := by decide +kernel
theorem dX12_minute_179 : decode cX12_minute 179 = .ok (.getfield 62, 3) := by decide +kernel
theorem dX12_minute_182 : decode cX12_minute 182 = .ok (.iload 8, 2) := by decide +kernel
theorem dX12_minute_184 : decode cX12_minute 184 = .ok (.iload 13, 2) := by decide +kernel
theorem dX12_minute_186 : decode cX12_minute 186 = .ok (.iastore, 1) := by decide +kernel
theorem dX12_minute_187 : decode cX12_minute 187 = .ok (.return_, 1) := by decide +kernel
theorem dX12_foremost_0 : decode cX12_foremost 0 = .ok (.iconst (-1), 1) := by decide +kernel
theorem dX12_foremost_1 : decode cX12_foremost 1 = .ok (.istore 4, 2) := by decide +kernel
theorem dX12_foremost_3 : decode cX12_foremost 3 = .ok (.iconst 0, 1) := by decide +kernel
theorem dX12_foremost_4 : decode cX12_foremost 4 = .ok (.istore 5, 2) := by decide +kernel
theorem dX12_foremost_6 : decode cX12_foremost 6 = .ok (.iload 5, 2) := by decide +kernel
theorem dX12_foremost_8 : decode cX12_foremost 8 = .ok (.aload_n 0, 1) := by decide +kernel
theorem dX12_foremost_9 : decode cX12_foremost 9 = .ok (.getfield 138, 3) := by decide +kernel
theorem dX12_foremost_12 : decode cX12_foremost 12 = .ok (.if_icmp .ge 82, 3) := by decide +kernel
theorem dX12_foremost_15 : decode cX12_foremost 15 = .ok (.iload 5, 2) := by decide +kernel
theorem dX12_foremost_17 : decode cX12_foremost 17 = .ok (.iload_n 3, 1) := by decide +kernel
theorem dX12_foremost_18 : decode cX12_foremost 18 = .ok (.if_icmp .eq 70, 3) := by decide +kernel
theorem dX12_foremost_21 : decode cX12_foremost 21 = .ok (.aload_n 0, 1) := by decide +kernel
theorem dX12_foremost_22 : decode cX12_foremost 22 = .ok (.iload 5, 2) := by decide +kernel
theorem dX12_foremost_24 : decode cX12_foremost 24 = .ok (.iload_n 2, 1) := by decide +kernel
theorem dX12_foremost_25 : decode cX12_foremost 25 = .ok (.invokevirtual 187, 3) := by decide +kernel
theorem dX12_foremost_28 : decode cX12_foremost 28 = .ok (.ifCond .eq 60, 3) := by decide +kernel
theorem dX12_foremost_31 : decode cX12_foremost 31 = .ok (.aload_n 0, 1) := by decide +kernel
theorem dX12_foremost_32 : decode cX12_foremost 32 = .ok (.getfield 44, 3) := by decide +kernel
theorem dX12_foremost_35 : decode cX12_foremost 35 = .ok (.iload 5, 2) := by decide +kernel
theorem dX12_foremost_37 : decode cX12_foremost 37 = .ok (.iaload, 1) := by decide +kernel
theorem dX12_foremost_38 : decode cX12_foremost 38 = .ok (.iload_n 1, 1) := by decide +kernel
theorem dX12_foremost_39 : decode cX12_foremost 39 = .ok (.if_icmp .eq 17, 3) := by decide +kernel
theorem dX12_foremost_42 : decode cX12_foremost 42 = .ok (.aload_n 0, 1) := by decide +kernel
theorem dX12_foremost_43 : decode cX12_foremost 43 = .ok (.getfield 35, 3) := by decide +kernel
theorem dX12_foremost_46 : decode cX12_foremost 46 = .ok (.iload 5, 2) := by decide +kernel
theorem dX12_foremost_48 : decode cX12_foremost 48 = .ok (.iaload, 1) := by decide +kernel
theorem dX12_foremost_49 : decode cX12_foremost 49 = .ok (.iconst 4, 1) := by decide +kernel
theorem dX12_foremost_50 : decode cX12_foremost 50 = .ok (.if_icmp .eq 6, 3) := by decide +kernel
theorem dX12_foremost_53 : decode cX12_foremost 53 = .ok (.goto 35, 3) := by decide +kernel
theorem dX12_foremost_56 : decode cX12_foremost 56 = .ok (.iload 4, 2) := by decide +kernel
theorem dX12_foremost_58 : decode cX12_foremost 58 = .ok (.iconst (-1), 1) := by decide +kernel
theorem dX12_foremost_59 : decode cX12_foremost 59 = .ok (.if_icmp .eq 20, 3) := by decide +kernel
theorem dX12_foremost_62 : decode cX12_foremost 62 = .ok (.aload_n 0, 1) := by decide +kernel
theorem dX12_foremost_63 : decode cX12_foremost 63 = .ok (.iload 5, 2) := by decide +kernel
theorem dX12_foremost_65 : decode cX12_foremost 65 = .ok (.iload_n 2, 1) := by decide +kernel
theorem dX12_foremost_66 : decode cX12_foremost 66 = .ok (.invokevirtual 194, 3) := by decide +kernel
theorem dX12_foremost_69 : decode cX12_foremost 69 = .ok (.aload_n 0, 1) := by decide +kernel
theorem dX12_foremost_70 : decode cX12_foremost 70 = .ok (.iload 4, 2) := by decide +kernel
theorem dX12_foremost_72 : decode cX12_foremost 72 = .ok (.iload_n 2, 1) := by decide +kernel
theorem dX12_foremost_73 : decode cX12_foremost 73 = .ok (.invokevirtual 194, 3) := by decide +kernel
theorem dX12_foremost_76 : decode cX12_foremost 76 = .ok (.if_icmp .le 8, 3) := by decide +kernel
theorem dX12_foremost_79 : decode cX12_foremost 79 = .ok (.iload 5, 2) := by decide +kernel
theorem dX12_foremost_81 : decode cX12_foremost 81 = .ok (.goto 5, 3) := by decide +kernel
theorem dX12_foremost_84 : decode cX12_foremost 84 = .ok (.iload 4, 2) := by decide +kernel
theorem dX12_foremost_86 : decode cX12_foremost 86 = .ok (.istore 4, 2) := by decide +kernel
theorem dX12_foremost_88 : decode cX12_foremost 88 = .ok (.iinc 5 1, 3) := by decide +kernel
theorem dX12_foremost_91 : decode cX12_foremost 91 = .ok (.goto (-85), 3) := by decide +kernel
theorem dX12_foremost_94 : decode cX12_foremost 94 = .ok (.iload 4, 2) := by decide +kernel
theorem dX12_foremost_96 : decode cX12_foremost 96 = .ok (.ireturn, 1) := by decide +kernel
theorem dX12_turnOf_0 : decode cX12_turnOf 0 = .ok (.aload_n 0, 1) := by decide +kernel
theorem dX12_turnOf_1 : decode cX12_turnOf 1 = .ok (.iload_n 1, 1) := by decide +kernel
theorem dX12_turnOf_2 : decode cX12_turnOf 2 = .ok (.iload_n 2, 1) := by decide +kernel
theorem dX12_turnOf_3 : decode cX12_turnOf 3 = .ok (.iconst (-1), 1) := by decide +kernel
theorem dX12_turnOf_4 : decode cX12_turnOf 4 = .ok (.invokevirtual 363, 3) := by decide +kernel
theorem dX12_turnOf_7 : decode cX12_turnOf 7 = .ok (.istore_n 3, 1) := by decide +kernel
theorem dX12_turnOf_8 : decode cX12_turnOf 8 = .ok (.iload_n 3, 1) := by decide +kernel
theorem dX12_turnOf_9 : decode cX12_turnOf 9 = .ok (.iconst (-1), 1) := by decide +kernel
theorem dX12_turnOf_10 : decode cX12_turnOf 10 = .ok (.if_icmp .ne 7, 3) := by decide +kernel
theorem dX12_turnOf_13 : decode cX12_turnOf 13 = .ok (.iconst (-1), 1) := by decide +kernel
theorem dX12_turnOf_14 : decode cX12_turnOf 14 = .ok (.goto 10, 3) := by decide +kernel
theorem dX12_turnOf_17 : decode cX12_turnOf 17 = .ok (.aload_n 0, 1) := by decide +kernel
theorem dX12_turnOf_18 : decode cX12_turnOf 18 = .ok (.iload_n 1, 1) := by decide +kernel
theorem dX12_turnOf_19 : decode cX12_turnOf 19 = .ok (.iload_n 2, 1) := by decide +kernel
theorem dX12_turnOf_20 : decode cX12_turnOf 20 = .ok (.iload_n 3, 1) := by decide +kernel
theorem dX12_turnOf_21 : decode cX12_turnOf 21 = .ok (.invokevirtual 363, 3) := by decide +kernel
theorem dX12_turnOf_24 : decode cX12_turnOf 24 = .ok (.istore 4, 2) := by decide +kernel
theorem dX12_turnOf_26 : decode cX12_turnOf 26 = .ok (.iload 4, 2) := by decide +kernel
theorem dX12_turnOf_28 : decode cX12_turnOf 28 = .ok (.iconst (-1), 1) := by decide +kernel
theorem dX12_turnOf_29 : decode cX12_turnOf 29 = .ok (.if_icmp .ne 7, 3) := by decide +kernel
theorem dX12_turnOf_32 : decode cX12_turnOf 32 = .ok (.iconst (-1), 1) := by decide +kernel
theorem dX12_turnOf_33 : decode cX12_turnOf 33 = .ok (.goto 26, 3) := by decide +kernel
theorem dX12_turnOf_36 : decode cX12_turnOf 36 = .ok (.iload_n 3, 1) := by decide +kernel
theorem dX12_turnOf_37 : decode cX12_turnOf 37 = .ok (.iload 4, 2) := by decide +kernel
theorem dX12_turnOf_39 : decode cX12_turnOf 39 = .ok (.if_icmp .ge 13, 3) := by decide +kernel
theorem dX12_turnOf_42 : decode cX12_turnOf 42 = .ok (.bipush 20, 2) := by decide +kernel
theorem dX12_turnOf_44 : decode cX12_turnOf 44 = .ok (.iload_n 3, 1) := by decide +kernel
theorem dX12_turnOf_45 : decode cX12_turnOf 45 = .ok (.imul, 1) := by decide +kernel
theorem dX12_turnOf_46 : decode cX12_turnOf 46 = .ok (.iload 4, 2) := by decide +kernel
theorem dX12_turnOf_48 : decode cX12_turnOf 48 = .ok (.iadd, 1) := by decide +kernel
theorem dX12_turnOf_49 : decode cX12_turnOf 49 = .ok (.goto 10, 3) := by decide +kernel
theorem dX12_turnOf_52 : decode cX12_turnOf 52 = .ok (.bipush 20, 2) := by decide +kernel
theorem dX12_turnOf_54 : decode cX12_turnOf 54 = .ok (.iload 4, 2) := by decide +kernel
theorem dX12_turnOf_56 : decode cX12_turnOf 56 = .ok (.imul, 1) := by decide +kernel
theorem dX12_turnOf_57 : decode cX12_turnOf 57 = .ok (.iload_n 3, 1) := by decide +kernel
theorem dX12_turnOf_58 : decode cX12_turnOf 58 = .ok (.iadd, 1) := by decide +kernel
theorem dX12_turnOf_59 : decode cX12_turnOf 59 = .ok (.ireturn, 1) := by decide +kernel
theorem dX12_turn_0 : decode cX12_turn 0 = .ok (.aload_n 0, 1) := by decide +kernel
theorem dX12_turn_1 : decode cX12_turn 1 = .ok (.iload_n 1, 1) := by decide +kernel
theorem dX12_turn_2 : decode cX12_turn 2 = .ok (.invokevirtual 159, 3) := by decide +kernel
theorem dX12_turn_5 : decode cX12_turn 5 = .ok (.ifCond .eq 19, 3) := by decide +kernel
theorem dX12_turn_8 : decode cX12_turn 8 = .ok (.iload_n 2, 1) := by decide +kernel
theorem dX12_turn_9 : decode cX12_turn 9 = .ok (.invokestatic 179, 3) := by decide +kernel
theorem dX12_turn_12 : decode cX12_turn 12 = .ok (.ifCond .eq 12, 3) := by decide +kernel
theorem dX12_turn_15 : decode cX12_turn 15 = .ok (.aload_n 0, 1) := by decide +kernel
theorem dX12_turn_16 : decode cX12_turn 16 = .ok (.iload_n 1, 1) := by decide +kernel
theorem dX12_turn_17 : decode cX12_turn 17 = .ok (.iload_n 2, 1) := by decide +kernel
theorem dX12_turn_18 : decode cX12_turn 18 = .ok (.invokevirtual 366, 3) := by decide +kernel
theorem dX12_turn_21 : decode cX12_turn 21 = .ok (.goto 5, 3) := by decide +kernel
theorem dX12_turn_24 : decode cX12_turn 24 = .ok (.bipush (-2), 2) := by decide +kernel
theorem dX12_turn_26 : decode cX12_turn 26 = .ok (.ireturn, 1) := by decide +kernel
theorem dX12_rowed_0 : decode cX12_rowed 0 = .ok (.aload_n 0, 1) := by decide +kernel
theorem dX12_rowed_1 : decode cX12_rowed 1 = .ok (.iload_n 1, 1) := by decide +kernel
theorem dX12_rowed_2 : decode cX12_rowed 2 = .ok (.invokevirtual 159, 3) := by decide +kernel
theorem dX12_rowed_5 : decode cX12_rowed 5 = .ok (.ifCond .eq 10, 3) := by decide +kernel
theorem dX12_rowed_8 : decode cX12_rowed 8 = .ok (.iload_n 2, 1) := by decide +kernel
theorem dX12_rowed_9 : decode cX12_rowed 9 = .ok (.invokestatic 179, 3) := by decide +kernel
theorem dX12_rowed_12 : decode cX12_rowed 12 = .ok (.ifCond .ne 6, 3) := by decide +kernel
theorem dX12_rowed_15 : decode cX12_rowed 15 = .ok (.bipush (-2), 2) := by decide +kernel
theorem dX12_rowed_17 : decode cX12_rowed 17 = .ok (.ireturn, 1) := by decide +kernel
theorem dX12_rowed_18 : decode cX12_rowed 18 = .ok (.aload_n 0, 1) := by decide +kernel
theorem dX12_rowed_19 : decode cX12_rowed 19 = .ok (.iload_n 1, 1) := by decide +kernel
theorem dX12_rowed_20 : decode cX12_rowed 20 = .ok (.iload_n 2, 1) := by decide +kernel
theorem dX12_rowed_21 : decode cX12_rowed 21 = .ok (.invokevirtual 366, 3) := by decide +kernel
theorem dX12_rowed_24 : decode cX12_rowed 24 = .ok (.istore_n 3, 1) := by decide +kernel
theorem dX12_rowed_25 : decode cX12_rowed 25 = .ok (.iload_n 3, 1) := by decide +kernel
theorem dX12_rowed_26 : decode cX12_rowed 26 = .ok (.iconst (-1), 1) := by decide +kernel
theorem dX12_rowed_27 : decode cX12_rowed 27 = .ok (.if_icmp .eq 29, 3) := by decide +kernel
theorem dX12_rowed_30 : decode cX12_rowed 30 = .ok (.aload_n 0, 1) := by decide +kernel
theorem dX12_rowed_31 : decode cX12_rowed 31 = .ok (.getfield 53, 3) := by decide +kernel
theorem dX12_rowed_34 : decode cX12_rowed 34 = .ok (.iload_n 3, 1) := by decide +kernel
theorem dX12_rowed_35 : decode cX12_rowed 35 = .ok (.bipush 20, 2) := by decide +kernel
theorem dX12_rowed_37 : decode cX12_rowed 37 = .ok (.idiv, 1) := by decide +kernel
theorem dX12_rowed_38 : decode cX12_rowed 38 = .ok (.dup2, 1) := by decide +kernel
theorem dX12_rowed_39 : decode cX12_rowed 39 = .ok (.iaload, 1) := by decide +kernel
theorem dX12_rowed_40 : decode cX12_rowed 40 = .ok (.iconst 1, 1) := by decide +kernel
theorem dX12_rowed_41 : decode cX12_rowed 41 = .ok (.iadd, 1) := by decide +kernel
theorem dX12_rowed_42 : decode cX12_rowed 42 = .ok (.iastore, 1) := by decide +kernel
theorem dX12_rowed_43 : decode cX12_rowed 43 = .ok (.aload_n 0, 1) := by decide +kernel
theorem dX12_rowed_44 : decode cX12_rowed 44 = .ok (.getfield 53, 3) := by decide +kernel
theorem dX12_rowed_47 : decode cX12_rowed 47 = .ok (.iload_n 3, 1) := by decide +kernel
theorem dX12_rowed_48 : decode cX12_rowed 48 = .ok (.bipush 20, 2) := by decide +kernel
theorem dX12_rowed_50 : decode cX12_rowed 50 = .ok (.irem, 1) := by decide +kernel
theorem dX12_rowed_51 : decode cX12_rowed 51 = .ok (.dup2, 1) := by decide +kernel
theorem dX12_rowed_52 : decode cX12_rowed 52 = .ok (.iaload, 1) := by decide +kernel
theorem dX12_rowed_53 : decode cX12_rowed 53 = .ok (.iconst 1, 1) := by decide +kernel
theorem dX12_rowed_54 : decode cX12_rowed 54 = .ok (.iadd, 1) := by decide +kernel
theorem dX12_rowed_55 : decode cX12_rowed 55 = .ok (.iastore, 1) := by decide +kernel
theorem dX12_rowed_56 : decode cX12_rowed 56 = .ok (.iload_n 3, 1) := by decide +kernel
theorem dX12_rowed_57 : decode cX12_rowed 57 = .ok (.ireturn, 1) := by decide +kernel
theorem dX12_judge_0 : decode cX12_judge 0 = .ok (.aload_n 0, 1) := by decide +kernel
theorem dX12_judge_1 : decode cX12_judge 1 = .ok (.iload_n 1, 1) := by decide +kernel
theorem dX12_judge_2 : decode cX12_judge 2 = .ok (.invokevirtual 159, 3) := by decide +kernel
theorem dX12_judge_5 : decode cX12_judge 5 = .ok (.ifCond .eq 10, 3) := by decide +kernel
theorem dX12_judge_8 : decode cX12_judge 8 = .ok (.iload_n 2, 1) := by decide +kernel
theorem dX12_judge_9 : decode cX12_judge 9 = .ok (.invokestatic 346, 3) := by decide +kernel
theorem dX12_judge_12 : decode cX12_judge 12 = .ok (.ifCond .ne 6, 3) := by decide +kernel
theorem dX12_judge_15 : decode cX12_judge 15 = .ok (.bipush (-2), 2) := by decide +kernel
theorem dX12_judge_17 : decode cX12_judge 17 = .ok (.ireturn, 1) := by decide +kernel
theorem dX12_judge_18 : decode cX12_judge 18 = .ok (.aload_n 0, 1) := by decide +kernel
theorem dX12_judge_19 : decode cX12_judge 19 = .ok (.getfield 95, 3) := by decide +kernel
theorem dX12_judge_22 : decode cX12_judge 22 = .ok (.iload_n 2, 1) := by decide +kernel
theorem dX12_judge_23 : decode cX12_judge 23 = .ok (.baload, 1) := by decide +kernel
theorem dX12_judge_24 : decode cX12_judge 24 = .ok (.ifCond .ne 6, 3) := by decide +kernel
theorem dX12_judge_27 : decode cX12_judge 27 = .ok (.bipush (-11), 2) := by decide +kernel
theorem dX12_judge_29 : decode cX12_judge 29 = .ok (.ireturn, 1) := by decide +kernel
theorem dX12_judge_30 : decode cX12_judge 30 = .ok (.aload_n 0, 1) := by decide +kernel
theorem dX12_judge_31 : decode cX12_judge 31 = .ok (.getfield 102, 3) := by decide +kernel
theorem dX12_judge_34 : decode cX12_judge 34 = .ok (.iload_n 2, 1) := by decide +kernel
theorem dX12_judge_35 : decode cX12_judge 35 = .ok (.iaload, 1) := by decide +kernel
theorem dX12_judge_36 : decode cX12_judge 36 = .ok (.i2l, 1) := by decide +kernel
theorem dX12_judge_37 : decode cX12_judge 37 = .ok (.lconst 1, 1) := by decide +kernel
theorem dX12_judge_38 : decode cX12_judge 38 = .ok (.ldc2_w 369, 3) := by decide +kernel
theorem dX12_judge_41 : decode cX12_judge 41 = .ok (.invokestatic 134, 3) := by decide +kernel
theorem dX12_judge_44 : decode cX12_judge 44 = .ok (.ifCond .ne 6, 3) := by decide +kernel
theorem dX12_judge_47 : decode cX12_judge 47 = .ok (.bipush (-2), 2) := by decide +kernel
theorem dX12_judge_49 : decode cX12_judge 49 = .ok (.ireturn, 1) := by decide +kernel
theorem dX12_judge_50 : decode cX12_judge 50 = .ok (.iconst 0, 1) := by decide +kernel
theorem dX12_judge_51 : decode cX12_judge 51 = .ok (.istore_n 3, 1) := by decide +kernel
theorem dX12_judge_52 : decode cX12_judge 52 = .ok (.iload_n 3, 1) := by decide +kernel
theorem dX12_judge_53 : decode cX12_judge 53 = .ok (.aload_n 0, 1) := by decide +kernel
theorem dX12_judge_54 : decode cX12_judge 54 = .ok (.getfield 138, 3) := by decide +kernel
theorem dX12_judge_57 : decode cX12_judge 57 = .ok (.if_icmp .ge 21, 3) := by decide +kernel
theorem dX12_judge_60 : decode cX12_judge 60 = .ok (.aload_n 0, 1) := by decide +kernel
theorem dX12_judge_61 : decode cX12_judge 61 = .ok (.getfield 68, 3) := by decide +kernel
theorem dX12_judge_64 : decode cX12_judge 64 = .ok (.iload_n 3, 1) := by decide +kernel
theorem dX12_judge_65 : decode cX12_judge 65 = .ok (.aload_n 0, 1) := by decide +kernel
theorem dX12_judge_66 : decode cX12_judge 66 = .ok (.getfield 53, 3) := by decide +kernel
theorem dX12_judge_69 : decode cX12_judge 69 = .ok (.iload_n 3, 1) := by decide +kernel
theorem dX12_judge_70 : decode cX12_judge 70 = .ok (.iaload, 1) := by decide +kernel
theorem dX12_judge_71 : decode cX12_judge 71 = .ok (.iastore, 1) := by decide +kernel
theorem dX12_judge_72 : decode cX12_judge 72 = .ok (.iinc 3 1, 3) := by decide +kernel
theorem dX12_judge_75 : decode cX12_judge 75 = .ok (.goto (-23), 3) := by decide +kernel
theorem dX12_judge_78 : decode cX12_judge 78 = .ok (.iconst (-1), 1) := by decide +kernel
theorem dX12_judge_79 : decode cX12_judge 79 = .ok (.istore_n 3, 1) := by decide +kernel
theorem dX12_judge_80 : decode cX12_judge 80 = .ok (.iconst 0, 1) := by decide +kernel
theorem dX12_judge_81 : decode cX12_judge 81 = .ok (.istore 4, 2) := by decide +kernel
theorem dX12_judge_83 : decode cX12_judge 83 = .ok (.iload 4, 2) := by decide +kernel
theorem dX12_judge_85 : decode cX12_judge 85 = .ok (.aload_n 0, 1) := by decide +kernel
theorem dX12_judge_86 : decode cX12_judge 86 = .ok (.getfield 102, 3) := by decide +kernel
theorem dX12_judge_89 : decode cX12_judge 89 = .ok (.iload_n 2, 1) := by decide +kernel
theorem dX12_judge_90 : decode cX12_judge 90 = .ok (.iaload, 1) := by decide +kernel
theorem dX12_judge_91 : decode cX12_judge 91 = .ok (.if_icmp .ge 49, 3) := by decide +kernel
theorem dX12_judge_94 : decode cX12_judge 94 = .ok (.iload_n 3, 1) := by decide +kernel
theorem dX12_judge_95 : decode cX12_judge 95 = .ok (.iconst (-1), 1) := by decide +kernel
theorem dX12_judge_96 : decode cX12_judge 96 = .ok (.if_icmp .ne 44, 3) := by decide +kernel
theorem dX12_judge_99 : decode cX12_judge 99 = .ok (.aload_n 0, 1) := by decide +kernel
theorem dX12_judge_100 : decode cX12_judge 100 = .ok (.iload_n 1, 1) := by decide +kernel
theorem dX12_judge_101 : decode cX12_judge 101 = .ok (.bipush 6, 2) := by decide +kernel
theorem dX12_judge_103 : decode cX12_judge 103 = .ok (.iload 4, 2) := by decide +kernel
theorem dX12_judge_105 : decode cX12_judge 105 = .ok (.iadd, 1) := by decide +kernel
theorem dX12_judge_106 : decode cX12_judge 106 = .ok (.invokevirtual 371, 3) := by decide +kernel
theorem dX12_judge_109 : decode cX12_judge 109 = .ok (.aload_n 0, 1) := by decide +kernel
theorem dX12_judge_110 : decode cX12_judge 110 = .ok (.getfield 105, 3) := by decide +kernel
theorem dX12_judge_113 : decode cX12_judge 113 = .ok (.bipush 40, 2) := by decide +kernel
theorem dX12_judge_115 : decode cX12_judge 115 = .ok (.iload_n 2, 1) := by decide +kernel
theorem dX12_judge_116 : decode cX12_judge 116 = .ok (.imul, 1) := by decide +kernel
theorem dX12_judge_117 : decode cX12_judge 117 = .ok (.iload 4, 2) := by decide +kernel
theorem dX12_judge_119 : decode cX12_judge 119 = .ok (.iadd, 1) := by decide +kernel
theorem dX12_judge_120 : decode cX12_judge 120 = .ok (.iaload, 1) := by decide +kernel
theorem dX12_judge_121 : decode cX12_judge 121 = .ok (.if_icmp .ne 7, 3) := by decide +kernel
theorem dX12_judge_124 : decode cX12_judge 124 = .ok (.iconst (-1), 1) := by decide +kernel
theorem dX12_judge_125 : decode cX12_judge 125 = .ok (.goto 8, 3) := by decide +kernel
theorem dX12_judge_128 : decode cX12_judge 128 = .ok (.bipush 6, 2) := by decide +kernel
theorem dX12_judge_130 : decode cX12_judge 130 = .ok (.iload 4, 2) := by decide +kernel
theorem dX12_judge_132 : decode cX12_judge 132 = .ok (.iadd, 1) := by decide +kernel
theorem dX12_judge_133 : decode cX12_judge 133 = .ok (.istore_n 3, 1) := by decide +kernel
theorem dX12_judge_134 : decode cX12_judge 134 = .ok (.iinc 4 1, 3) := by decide +kernel
theorem dX12_judge_137 : decode cX12_judge 137 = .ok (.goto (-54), 3) := by decide +kernel
theorem dX12_judge_140 : decode cX12_judge 140 = .ok (.iconst 0, 1) := by decide +kernel
theorem dX12_judge_141 : decode cX12_judge 141 = .ok (.istore 4, 2) := by decide +kernel
theorem dX12_judge_143 : decode cX12_judge 143 = .ok (.iload 4, 2) := by decide +kernel
theorem dX12_judge_145 : decode cX12_judge 145 = .ok (.aload_n 0, 1) := by decide +kernel
theorem dX12_judge_146 : decode cX12_judge 146 = .ok (.getfield 138, 3) := by decide +kernel
theorem dX12_judge_149 : decode cX12_judge 149 = .ok (.if_icmp .ge 23, 3) := by decide +kernel
theorem dX12_judge_152 : decode cX12_judge 152 = .ok (.aload_n 0, 1) := by decide +kernel
theorem dX12_judge_153 : decode cX12_judge 153 = .ok (.getfield 53, 3) := by decide +kernel
theorem dX12_judge_156 : decode cX12_judge 156 = .ok (.iload 4, 2) := by decide +kernel
theorem dX12_judge_158 : decode cX12_judge 158 = .ok (.aload_n 0, 1) := by decide +kernel
theorem dX12_judge_159 : decode cX12_judge 159 = .ok (.getfield 68, 3) := by decide +kernel
theorem dX12_judge_162 : decode cX12_judge 162 = .ok (.iload 4, 2) := by decide +kernel
theorem dX12_judge_164 : decode cX12_judge 164 = .ok (.iaload, 1) := by decide +kernel
theorem dX12_judge_165 : decode cX12_judge 165 = .ok (.iastore, 1) := by decide +kernel
theorem dX12_judge_166 : decode cX12_judge 166 = .ok (.iinc 4 1, 3) := by decide +kernel
theorem dX12_judge_169 : decode cX12_judge 169 = .ok (.goto (-26), 3) := by decide +kernel
theorem dX12_judge_172 : decode cX12_judge 172 = .ok (.iload_n 3, 1) := by decide +kernel
theorem dX12_judge_173 : decode cX12_judge 173 = .ok (.ireturn, 1) := by decide +kernel
theorem dX12_isAhead_0 : decode cX12_isAhead 0 = .ok (.iload_n 2, 1) := by decide +kernel
theorem dX12_isAhead_1 : decode cX12_isAhead 1 = .ok (.iconst (-1), 1) := by decide +kernel
theorem dX12_isAhead_2 : decode cX12_isAhead 2 = .ok (.if_icmp .eq 48, 3) := by decide +kernel
theorem dX12_isAhead_5 : decode cX12_isAhead 5 = .ok (.aload_n 0, 1) := by decide +kernel
theorem dX12_isAhead_6 : decode cX12_isAhead 6 = .ok (.getfield 53, 3) := by decide +kernel
theorem dX12_isAhead_9 : decode cX12_isAhead 9 = .ok (.iload_n 1, 1) := by decide +kernel
theorem dX12_isAhead_10 : decode cX12_isAhead 10 = .ok (.iaload, 1) := by decide +kernel
theorem dX12_isAhead_11 : decode cX12_isAhead 11 = .ok (.aload_n 0, 1) := by decide +kernel
theorem dX12_isAhead_12 : decode cX12_isAhead 12 = .ok (.getfield 53, 3) := by decide +kernel
theorem dX12_isAhead_15 : decode cX12_isAhead 15 = .ok (.iload_n 2, 1) := by decide +kernel
theorem dX12_isAhead_16 : decode cX12_isAhead 16 = .ok (.iaload, 1) := by decide +kernel
theorem dX12_isAhead_17 : decode cX12_isAhead 17 = .ok (.if_icmp .gt 33, 3) := by decide +kernel
theorem dX12_isAhead_20 : decode cX12_isAhead 20 = .ok (.aload_n 0, 1) := by decide +kernel
theorem dX12_isAhead_21 : decode cX12_isAhead 21 = .ok (.getfield 53, 3) := by decide +kernel
theorem dX12_isAhead_24 : decode cX12_isAhead 24 = .ok (.iload_n 1, 1) := by decide +kernel
theorem dX12_isAhead_25 : decode cX12_isAhead 25 = .ok (.iaload, 1) := by decide +kernel
theorem dX12_isAhead_26 : decode cX12_isAhead 26 = .ok (.aload_n 0, 1) := by decide +kernel
theorem dX12_isAhead_27 : decode cX12_isAhead 27 = .ok (.getfield 53, 3) := by decide +kernel
theorem dX12_isAhead_30 : decode cX12_isAhead 30 = .ok (.iload_n 2, 1) := by decide +kernel
theorem dX12_isAhead_31 : decode cX12_isAhead 31 = .ok (.iaload, 1) := by decide +kernel
theorem dX12_isAhead_32 : decode cX12_isAhead 32 = .ok (.if_icmp .ne 22, 3) := by decide +kernel
theorem dX12_isAhead_35 : decode cX12_isAhead 35 = .ok (.aload_n 0, 1) := by decide +kernel
theorem dX12_isAhead_36 : decode cX12_isAhead 36 = .ok (.getfield 38, 3) := by decide +kernel
theorem dX12_isAhead_39 : decode cX12_isAhead 39 = .ok (.iload_n 1, 1) := by decide +kernel
theorem dX12_isAhead_40 : decode cX12_isAhead 40 = .ok (.iaload, 1) := by decide +kernel
theorem dX12_isAhead_41 : decode cX12_isAhead 41 = .ok (.aload_n 0, 1) := by decide +kernel
theorem dX12_isAhead_42 : decode cX12_isAhead 42 = .ok (.getfield 38, 3) := by decide +kernel
theorem dX12_isAhead_45 : decode cX12_isAhead 45 = .ok (.iload_n 2, 1) := by decide +kernel
theorem dX12_isAhead_46 : decode cX12_isAhead 46 = .ok (.iaload, 1) := by decide +kernel
theorem dX12_isAhead_47 : decode cX12_isAhead 47 = .ok (.if_icmp .le 7, 3) := by decide +kernel
theorem dX12_isAhead_50 : decode cX12_isAhead 50 = .ok (.iconst 1, 1) := by decide +kernel
theorem dX12_isAhead_51 : decode cX12_isAhead 51 = .ok (.goto 4, 3) := by decide +kernel
theorem dX12_isAhead_54 : decode cX12_isAhead 54 = .ok (.iconst 0, 1) := by decide +kernel
theorem dX12_isAhead_55 : decode cX12_isAhead 55 = .ok (.ireturn, 1) := by decide +kernel
theorem dX12_heir_0 : decode cX12_heir 0 = .ok (.aload_n 0, 1) := by decide +kernel
theorem dX12_heir_1 : decode cX12_heir 1 = .ok (.iload_n 1, 1) := by decide +kernel
theorem dX12_heir_2 : decode cX12_heir 2 = .ok (.invokevirtual 170, 3) := by decide +kernel
theorem dX12_heir_5 : decode cX12_heir 5 = .ok (.ifCond .eq 15, 3) := by decide +kernel
theorem dX12_heir_8 : decode cX12_heir 8 = .ok (.iload_n 2, 1) := by decide +kernel
theorem dX12_heir_9 : decode cX12_heir 9 = .ok (.i2l, 1) := by decide +kernel
theorem dX12_heir_10 : decode cX12_heir 10 = .ok (.lconst 1, 1) := by decide +kernel
theorem dX12_heir_11 : decode cX12_heir 11 = .ok (.ldc2_w 374, 3) := by decide +kernel
theorem dX12_heir_14 : decode cX12_heir 14 = .ok (.invokestatic 134, 3) := by decide +kernel
theorem dX12_heir_17 : decode cX12_heir 17 = .ok (.ifCond .ne 6, 3) := by decide +kernel
theorem dX12_heir_20 : decode cX12_heir 20 = .ok (.bipush (-2), 2) := by decide +kernel
theorem dX12_heir_22 : decode cX12_heir 22 = .ok (.ireturn, 1) := by decide +kernel
theorem dX12_heir_23 : decode cX12_heir 23 = .ok (.iconst (-1), 1) := by decide +kernel
theorem dX12_heir_24 : decode cX12_heir 24 = .ok (.istore_n 3, 1) := by decide +kernel
theorem dX12_heir_25 : decode cX12_heir 25 = .ok (.iconst 0, 1) := by decide +kernel
theorem dX12_heir_26 : decode cX12_heir 26 = .ok (.istore 4, 2) := by decide +kernel
theorem dX12_heir_28 : decode cX12_heir 28 = .ok (.iload 4, 2) := by decide +kernel
theorem dX12_heir_30 : decode cX12_heir 30 = .ok (.aload_n 0, 1) := by decide +kernel
theorem dX12_heir_31 : decode cX12_heir 31 = .ok (.getfield 138, 3) := by decide +kernel
theorem dX12_heir_34 : decode cX12_heir 34 = .ok (.if_icmp .ge 172, 3) := by decide +kernel
theorem dX12_heir_37 : decode cX12_heir 37 = .ok (.aload_n 0, 1) := by decide +kernel
theorem dX12_heir_38 : decode cX12_heir 38 = .ok (.getfield 47, 3) := by decide +kernel
theorem dX12_heir_41 : decode cX12_heir 41 = .ok (.iload 4, 2) := by decide +kernel
theorem dX12_heir_43 : decode cX12_heir 43 = .ok (.iaload, 1) := by decide +kernel
theorem dX12_heir_44 : decode cX12_heir 44 = .ok (.istore 5, 2) := by decide +kernel
theorem dX12_heir_46 : decode cX12_heir 46 = .ok (.iload 5, 2) := by decide +kernel
theorem dX12_heir_48 : decode cX12_heir 48 = .ok (.iload_n 1, 1) := by decide +kernel
theorem dX12_heir_49 : decode cX12_heir 49 = .ok (.if_icmp .ne 7, 3) := by decide +kernel
theorem dX12_heir_52 : decode cX12_heir 52 = .ok (.iconst 1, 1) := by decide +kernel
theorem dX12_heir_53 : decode cX12_heir 53 = .ok (.goto 4, 3) := by decide +kernel
theorem dX12_heir_56 : decode cX12_heir 56 = .ok (.iconst 0, 1) := by decide +kernel
theorem dX12_heir_57 : decode cX12_heir 57 = .ok (.istore 6, 2) := by decide +kernel
theorem dX12_heir_59 : decode cX12_heir 59 = .ok (.iload_n 2, 1) := by decide +kernel
theorem dX12_heir_60 : decode cX12_heir 60 = .ok (.iconst 1, 1) := by decide +kernel
theorem dX12_heir_61 : decode cX12_heir 61 = .ok (.if_icmp .ne 54, 3) := by decide +kernel
theorem dX12_heir_64 : decode cX12_heir 64 = .ok (.iload 6, 2) := by decide +kernel
theorem dX12_heir_66 : decode cX12_heir 66 = .ok (.ifCond .eq 49, 3) := by decide +kernel
theorem dX12_heir_69 : decode cX12_heir 69 = .ok (.aload_n 0, 1) := by decide +kernel
theorem dX12_heir_70 : decode cX12_heir 70 = .ok (.getfield 35, 3) := by decide +kernel
theorem dX12_heir_73 : decode cX12_heir 73 = .ok (.iload 4, 2) := by decide +kernel
theorem dX12_heir_75 : decode cX12_heir 75 = .ok (.iaload, 1) := by decide +kernel
theorem dX12_heir_76 : decode cX12_heir 76 = .ok (.iconst 1, 1) := by decide +kernel
theorem dX12_heir_77 : decode cX12_heir 77 = .ok (.if_icmp .eq 14, 3) := by decide +kernel
theorem dX12_heir_80 : decode cX12_heir 80 = .ok (.aload_n 0, 1) := by decide +kernel
theorem dX12_heir_81 : decode cX12_heir 81 = .ok (.getfield 35, 3) := by decide +kernel
theorem dX12_heir_84 : decode cX12_heir 84 = .ok (.iload 4, 2) := by decide +kernel
theorem dX12_heir_86 : decode cX12_heir 86 = .ok (.iaload, 1) := by decide +kernel
theorem dX12_heir_87 : decode cX12_heir 87 = .ok (.iconst 3, 1) := by decide +kernel
theorem dX12_heir_88 : decode cX12_heir 88 = .ok (.if_icmp .ne 27, 3) := by decide +kernel
theorem dX12_heir_91 : decode cX12_heir 91 = .ok (.iload_n 3, 1) := by decide +kernel
theorem dX12_heir_92 : decode cX12_heir 92 = .ok (.iconst (-1), 1) := by decide +kernel
theorem dX12_heir_93 : decode cX12_heir 93 = .ok (.if_icmp .eq 19, 3) := by decide +kernel
theorem dX12_heir_96 : decode cX12_heir 96 = .ok (.aload_n 0, 1) := by decide +kernel
theorem dX12_heir_97 : decode cX12_heir 97 = .ok (.getfield 38, 3) := by decide +kernel
theorem dX12_heir_100 : decode cX12_heir 100 = .ok (.iload 4, 2) := by decide +kernel
theorem dX12_heir_102 : decode cX12_heir 102 = .ok (.iaload, 1) := by decide +kernel
theorem dX12_heir_103 : decode cX12_heir 103 = .ok (.aload_n 0, 1) := by decide +kernel
theorem dX12_heir_104 : decode cX12_heir 104 = .ok (.getfield 38, 3) := by decide +kernel
theorem dX12_heir_107 : decode cX12_heir 107 = .ok (.iload_n 3, 1) := by decide +kernel
theorem dX12_heir_108 : decode cX12_heir 108 = .ok (.iaload, 1) := by decide +kernel
theorem dX12_heir_109 : decode cX12_heir 109 = .ok (.if_icmp .le 6, 3) := by decide +kernel
theorem dX12_heir_112 : decode cX12_heir 112 = .ok (.iload 4, 2) := by decide +kernel
theorem dX12_heir_114 : decode cX12_heir 114 = .ok (.istore_n 3, 1) := by decide +kernel
theorem dX12_heir_115 : decode cX12_heir 115 = .ok (.iload_n 2, 1) := by decide +kernel
theorem dX12_heir_116 : decode cX12_heir 116 = .ok (.iconst 2, 1) := by decide +kernel
theorem dX12_heir_117 : decode cX12_heir 117 = .ok (.if_icmp .ne 43, 3) := by decide +kernel
theorem dX12_heir_120 : decode cX12_heir 120 = .ok (.iload_n 3, 1) := by decide +kernel
theorem dX12_heir_121 : decode cX12_heir 121 = .ok (.iconst (-1), 1) := by decide +kernel
theorem dX12_heir_122 : decode cX12_heir 122 = .ok (.if_icmp .ne 38, 3) := by decide +kernel
theorem dX12_heir_125 : decode cX12_heir 125 = .ok (.aload_n 0, 1) := by decide +kernel
theorem dX12_heir_126 : decode cX12_heir 126 = .ok (.getfield 50, 3) := by decide +kernel
theorem dX12_heir_129 : decode cX12_heir 129 = .ok (.iload 4, 2) := by decide +kernel
theorem dX12_heir_131 : decode cX12_heir 131 = .ok (.iaload, 1) := by decide +kernel
theorem dX12_heir_132 : decode cX12_heir 132 = .ok (.ifCond .ne 28, 3) := by decide +kernel
theorem dX12_heir_135 : decode cX12_heir 135 = .ok (.iload 6, 2) := by decide +kernel
theorem dX12_heir_137 : decode cX12_heir 137 = .ok (.ifCond .ne 20, 3) := by decide +kernel
theorem dX12_heir_140 : decode cX12_heir 140 = .ok (.iload 5, 2) := by decide +kernel
theorem dX12_heir_142 : decode cX12_heir 142 = .ok (.iconst (-1), 1) := by decide +kernel
theorem dX12_heir_143 : decode cX12_heir 143 = .ok (.if_icmp .eq 17, 3) := by decide +kernel
theorem dX12_heir_146 : decode cX12_heir 146 = .ok (.aload_n 0, 1) := by decide +kernel
theorem dX12_heir_147 : decode cX12_heir 147 = .ok (.getfield 47, 3) := by decide +kernel
theorem dX12_heir_150 : decode cX12_heir 150 = .ok (.iload 5, 2) := by decide +kernel
theorem dX12_heir_152 : decode cX12_heir 152 = .ok (.iaload, 1) := by decide +kernel
theorem dX12_heir_153 : decode cX12_heir 153 = .ok (.iload_n 1, 1) := by decide +kernel
theorem dX12_heir_154 : decode cX12_heir 154 = .ok (.if_icmp .ne 6, 3) := by decide +kernel
theorem dX12_heir_157 : decode cX12_heir 157 = .ok (.iload 4, 2) := by decide +kernel
theorem dX12_heir_159 : decode cX12_heir 159 = .ok (.istore_n 3, 1) := by decide +kernel
theorem dX12_heir_160 : decode cX12_heir 160 = .ok (.iload_n 2, 1) := by decide +kernel
theorem dX12_heir_161 : decode cX12_heir 161 = .ok (.iconst 3, 1) := by decide +kernel
theorem dX12_heir_162 : decode cX12_heir 162 = .ok (.if_icmp .ne 38, 3) := by decide +kernel
theorem dX12_heir_165 : decode cX12_heir 165 = .ok (.iload 4, 2) := by decide +kernel
theorem dX12_heir_167 : decode cX12_heir 167 = .ok (.iload_n 1, 1) := by decide +kernel
theorem dX12_heir_168 : decode cX12_heir 168 = .ok (.if_icmp .eq 32, 3) := by decide +kernel
theorem dX12_heir_171 : decode cX12_heir 171 = .ok (.aload_n 0, 1) := by decide +kernel
theorem dX12_heir_172 : decode cX12_heir 172 = .ok (.getfield 44, 3) := by decide +kernel
theorem dX12_heir_175 : decode cX12_heir 175 = .ok (.iload 4, 2) := by decide +kernel
theorem dX12_heir_177 : decode cX12_heir 177 = .ok (.iaload, 1) := by decide +kernel
theorem dX12_heir_178 : decode cX12_heir 178 = .ok (.aload_n 0, 1) := by decide +kernel
theorem dX12_heir_179 : decode cX12_heir 179 = .ok (.getfield 44, 3) := by decide +kernel
theorem dX12_heir_182 : decode cX12_heir 182 = .ok (.iload_n 1, 1) := by decide +kernel
theorem dX12_heir_183 : decode cX12_heir 183 = .ok (.iaload, 1) := by decide +kernel
theorem dX12_heir_184 : decode cX12_heir 184 = .ok (.if_icmp .ne 16, 3) := by decide +kernel
theorem dX12_heir_187 : decode cX12_heir 187 = .ok (.aload_n 0, 1) := by decide +kernel
theorem dX12_heir_188 : decode cX12_heir 188 = .ok (.iload 4, 2) := by decide +kernel
theorem dX12_heir_190 : decode cX12_heir 190 = .ok (.iload_n 3, 1) := by decide +kernel
theorem dX12_heir_191 : decode cX12_heir 191 = .ok (.invokevirtual 376, 3) := by decide +kernel
theorem dX12_heir_194 : decode cX12_heir 194 = .ok (.ifCond .eq 6, 3) := by decide +kernel
theorem dX12_heir_197 : decode cX12_heir 197 = .ok (.iload 4, 2) := by decide +kernel
theorem dX12_heir_199 : decode cX12_heir 199 = .ok (.istore_n 3, 1) := by decide +kernel
theorem dX12_heir_200 : decode cX12_heir 200 = .ok (.iinc 4 1, 3) := by decide +kernel
theorem dX12_heir_203 : decode cX12_heir 203 = .ok (.goto (-175), 3) := by decide +kernel
theorem dX12_heir_206 : decode cX12_heir 206 = .ok (.iload_n 3, 1) := by decide +kernel
theorem dX12_heir_207 : decode cX12_heir 207 = .ok (.ireturn, 1) := by decide +kernel
theorem dX12_open_0 : decode cX12_open 0 = .ok (.iload_n 1, 1) := by decide +kernel
theorem dX12_open_1 : decode cX12_open 1 = .ok (.i2l, 1) := by decide +kernel
theorem dX12_open_2 : decode cX12_open 2 = .ok (.lconst 0, 1) := by decide +kernel
theorem dX12_open_3 : decode cX12_open 3 = .ok (.ldc2_w 379, 3) := by decide +kernel
theorem dX12_open_6 : decode cX12_open 6 = .ok (.invokestatic 134, 3) := by decide +kernel
theorem dX12_open_9 : decode cX12_open 9 = .ok (.ifCond .eq 15, 3) := by decide +kernel
theorem dX12_open_12 : decode cX12_open 12 = .ok (.iload_n 2, 1) := by decide +kernel
theorem dX12_open_13 : decode cX12_open 13 = .ok (.i2l, 1) := by decide +kernel
theorem dX12_open_14 : decode cX12_open 14 = .ok (.lconst 0, 1) := by decide +kernel
theorem dX12_open_15 : decode cX12_open 15 = .ok (.ldc2_w 381, 3) := by decide +kernel
theorem dX12_open_18 : decode cX12_open 18 = .ok (.invokestatic 134, 3) := by decide +kernel
theorem dX12_open_21 : decode cX12_open 21 = .ok (.ifCond .ne 6, 3) := by decide +kernel
theorem dX12_open_24 : decode cX12_open 24 = .ok (.bipush (-2), 2) := by decide +kernel
theorem dX12_open_26 : decode cX12_open 26 = .ok (.ireturn, 1) := by decide +kernel
theorem dX12_open_27 : decode cX12_open 27 = .ok (.iconst 0, 1) := by decide +kernel
theorem dX12_open_28 : decode cX12_open 28 = .ok (.istore_n 3, 1) := by decide +kernel
theorem dX12_open_29 : decode cX12_open 29 = .ok (.iconst (-1), 1) := by decide +kernel
theorem dX12_open_30 : decode cX12_open 30 = .ok (.istore 4, 2) := by decide +kernel
theorem dX12_open_32 : decode cX12_open 32 = .ok (.iconst 0, 1) := by decide +kernel
theorem dX12_open_33 : decode cX12_open 33 = .ok (.istore 5, 2) := by decide +kernel
theorem dX12_open_35 : decode cX12_open 35 = .ok (.iconst 0, 1) := by decide +kernel
theorem dX12_open_36 : decode cX12_open 36 = .ok (.istore 6, 2) := by decide +kernel
theorem dX12_open_38 : decode cX12_open 38 = .ok (.iload 6, 2) := by decide +kernel
theorem dX12_open_40 : decode cX12_open 40 = .ok (.iconst 1, 1) := by decide +kernel
theorem dX12_open_41 : decode cX12_open 41 = .ok (.aload_n 0, 1) := by decide +kernel
theorem dX12_open_42 : decode cX12_open 42 = .ok (.getfield 131, 3) := by decide +kernel
theorem dX12_open_45 : decode cX12_open 45 = .ok (.ishl, 1) := by decide +kernel
theorem dX12_open_46 : decode cX12_open 46 = .ok (.if_icmp .ge 138, 3) := by decide +kernel
theorem dX12_open_49 : decode cX12_open 49 = .ok (.iconst 0, 1) := by decide +kernel
theorem dX12_open_50 : decode cX12_open 50 = .ok (.istore 7, 2) := by decide +kernel
theorem dX12_open_52 : decode cX12_open 52 = .ok (.iconst 0, 1) := by decide +kernel
theorem dX12_open_53 : decode cX12_open 53 = .ok (.istore 8, 2) := by decide +kernel
theorem dX12_open_55 : decode cX12_open 55 = .ok (.iconst 0, 1) := by decide +kernel
theorem dX12_open_56 : decode cX12_open 56 = .ok (.istore 9, 2) := by decide +kernel
theorem dX12_open_58 : decode cX12_open 58 = .ok (.iload 9, 2) := by decide +kernel
theorem dX12_open_60 : decode cX12_open 60 = .ok (.aload_n 0, 1) := by decide +kernel
theorem dX12_open_61 : decode cX12_open 61 = .ok (.getfield 131, 3) := by decide +kernel
theorem dX12_open_64 : decode cX12_open 64 = .ok (.if_icmp .ge 73, 3) := by decide +kernel
theorem dX12_open_67 : decode cX12_open 67 = .ok (.iload 7, 2) := by decide +kernel
theorem dX12_open_69 : decode cX12_open 69 = .ok (.iload 6, 2) := by decide +kernel
theorem dX12_open_71 : decode cX12_open 71 = .ok (.iload 9, 2) := by decide +kernel
theorem dX12_open_73 : decode cX12_open 73 = .ok (.ishr, 1) := by decide +kernel
theorem dX12_open_74 : decode cX12_open 74 = .ok (.iconst 1, 1) := by decide +kernel
theorem dX12_open_75 : decode cX12_open 75 = .ok (.iand, 1) := by decide +kernel
theorem dX12_open_76 : decode cX12_open 76 = .ok (.iconst 1, 1) := by decide +kernel
theorem dX12_open_77 : decode cX12_open 77 = .ok (.if_icmp .ne 13, 3) := by decide +kernel
theorem dX12_open_80 : decode cX12_open 80 = .ok (.aload_n 0, 1) := by decide +kernel
theorem dX12_open_81 : decode cX12_open 81 = .ok (.getfield 32, 3) := by decide +kernel
theorem dX12_open_84 : decode cX12_open 84 = .ok (.iload 9, 2) := by decide +kernel
theorem dX12_open_86 : decode cX12_open 86 = .ok (.iaload, 1) := by decide +kernel
theorem dX12_open_87 : decode cX12_open 87 = .ok (.goto 4, 3) := by decide +kernel
theorem dX12_open_90 : decode cX12_open 90 = .ok (.iconst 0, 1) := by decide +kernel
theorem dX12_open_91 : decode cX12_open 91 = .ok (.iadd, 1) := by decide +kernel
theorem dX12_open_92 : decode cX12_open 92 = .ok (.istore 7, 2) := by decide +kernel
theorem dX12_open_94 : decode cX12_open 94 = .ok (.iload 8, 2) := by decide +kernel
theorem dX12_open_96 : decode cX12_open 96 = .ok (.iload 6, 2) := by decide +kernel
theorem dX12_open_98 : decode cX12_open 98 = .ok (.iload 9, 2) := by decide +kernel
theorem dX12_open_100 : decode cX12_open 100 = .ok (.ishr, 1) := by decide +kernel
theorem dX12_open_101 : decode cX12_open 101 = .ok (.iconst 1, 1) := by decide +kernel
theorem dX12_open_102 : decode cX12_open 102 = .ok (.iand, 1) := by decide +kernel
theorem dX12_open_103 : decode cX12_open 103 = .ok (.iconst 1, 1) := by decide +kernel
theorem dX12_open_104 : decode cX12_open 104 = .ok (.if_icmp .ne 23, 3) := by decide +kernel
theorem dX12_open_107 : decode cX12_open 107 = .ok (.aload_n 0, 1) := by decide +kernel
theorem dX12_open_108 : decode cX12_open 108 = .ok (.getfield 23, 3) := by decide +kernel
theorem dX12_open_111 : decode cX12_open 111 = .ok (.iload 9, 2) := by decide +kernel
theorem dX12_open_113 : decode cX12_open 113 = .ok (.iaload, 1) := by decide +kernel
theorem dX12_open_114 : decode cX12_open 114 = .ok (.bipush 30, 2) := by decide +kernel
theorem dX12_open_116 : decode cX12_open 116 = .ok (.if_icmp .le 7, 3) := by decide +kernel
theorem dX12_open_119 : decode cX12_open 119 = .ok (.iconst 3, 1) := by decide +kernel
theorem dX12_open_120 : decode cX12_open 120 = .ok (.goto 8, 3) := by decide +kernel
theorem dX12_open_123 : decode cX12_open 123 = .ok (.iconst 2, 1) := by decide +kernel
theorem dX12_open_124 : decode cX12_open 124 = .ok (.goto 4, 3) := by decide +kernel
theorem dX12_open_127 : decode cX12_open 127 = .ok (.iconst 0, 1) := by decide +kernel
theorem dX12_open_128 : decode cX12_open 128 = .ok (.iadd, 1) := by decide +kernel
theorem dX12_open_129 : decode cX12_open 129 = .ok (.istore 8, 2) := by decide +kernel
theorem dX12_open_131 : decode cX12_open 131 = .ok (.iinc 9 1, 3) := by decide +kernel
theorem dX12_open_134 : decode cX12_open 134 = .ok (.goto (-76), 3) := by decide +kernel
theorem dX12_open_137 : decode cX12_open 137 = .ok (.iload 8, 2) := by decide +kernel
theorem dX12_open_139 : decode cX12_open 139 = .ok (.iload_n 1, 1) := by decide +kernel
theorem dX12_open_140 : decode cX12_open 140 = .ok (.if_icmp .gt 38, 3) := by decide +kernel
theorem dX12_open_143 : decode cX12_open 143 = .ok (.iload 7, 2) := by decide +kernel
theorem dX12_open_145 : decode cX12_open 145 = .ok (.iload 4, 2) := by decide +kernel
theorem dX12_open_147 : decode cX12_open 147 = .ok (.if_icmp .lt 31, 3) := by decide +kernel
theorem dX12_open_150 : decode cX12_open 150 = .ok (.iload 7, 2) := by decide +kernel
theorem dX12_open_152 : decode cX12_open 152 = .ok (.iload 4, 2) := by decide +kernel
theorem dX12_open_154 : decode cX12_open 154 = .ok (.if_icmp .ne 13, 3) := by decide +kernel
theorem dX12_open_157 : decode cX12_open 157 = .ok (.iload 8, 2) := by decide +kernel
theorem dX12_open_159 : decode cX12_open 159 = .ok (.iload 5, 2) := by decide +kernel
theorem dX12_open_161 : decode cX12_open 161 = .ok (.if_icmp .lt 6, 3) := by decide +kernel
theorem dX12_open_164 : decode cX12_open 164 = .ok (.goto 14, 3) := by decide +kernel
theorem dX12_open_167 : decode cX12_open 167 = .ok (.iload 6, 2) := by decide +kernel
theorem dX12_open_169 : decode cX12_open 169 = .ok (.istore_n 3, 1) := by decide +kernel
theorem dX12_open_170 : decode cX12_open 170 = .ok (.iload 7, 2) := by decide +kernel
theorem dX12_open_172 : decode cX12_open 172 = .ok (.istore 4, 2) := by decide +kernel
theorem dX12_open_174 : decode cX12_open 174 = .ok (.iload 8, 2) := by decide +kernel
theorem dX12_open_176 : decode cX12_open 176 = .ok (.istore 5, 2) := by decide +kernel
theorem dX12_open_178 : decode cX12_open 178 = .ok (.iinc 6 1, 3) := by decide +kernel
theorem dX12_open_181 : decode cX12_open 181 = .ok (.goto (-143), 3) := by decide +kernel
theorem dX12_open_184 : decode cX12_open 184 = .ok (.iload_n 2, 1) := by decide +kernel
theorem dX12_open_185 : decode cX12_open 185 = .ok (.ifCond .ne 7, 3) := by decide +kernel
theorem dX12_open_188 : decode cX12_open 188 = .ok (.iload_n 3, 1) := by decide +kernel
theorem dX12_open_189 : decode cX12_open 189 = .ok (.goto 15, 3) := by decide +kernel
theorem dX12_open_192 : decode cX12_open 192 = .ok (.iload_n 2, 1) := by decide +kernel
theorem dX12_open_193 : decode cX12_open 193 = .ok (.iconst 1, 1) := by decide +kernel
theorem dX12_open_194 : decode cX12_open 194 = .ok (.if_icmp .ne 8, 3) := by decide +kernel
theorem dX12_open_197 : decode cX12_open 197 = .ok (.iload 4, 2) := by decide +kernel
theorem dX12_open_199 : decode cX12_open 199 = .ok (.goto 5, 3) := by decide +kernel
theorem dX12_open_202 : decode cX12_open 202 = .ok (.iload 5, 2) := by decide +kernel
theorem dX12_open_204 : decode cX12_open 204 = .ok (.ireturn, 1) := by decide +kernel
theorem dX12_path_0 : decode cX12_path 0 = .ok (.iload_n 1, 1) := by decide +kernel
theorem dX12_path_1 : decode cX12_path 1 = .ok (.invokestatic 147, 3) := by decide +kernel
theorem dX12_path_4 : decode cX12_path 4 = .ok (.ifCond .eq 15, 3) := by decide +kernel
theorem dX12_path_7 : decode cX12_path 7 = .ok (.iload_n 2, 1) := by decide +kernel
theorem dX12_path_8 : decode cX12_path 8 = .ok (.i2l, 1) := by decide +kernel
theorem dX12_path_9 : decode cX12_path 9 = .ok (.lconst 0, 1) := by decide +kernel
theorem dX12_path_10 : decode cX12_path 10 = .ok (.ldc2_w 143, 3) := by decide +kernel
theorem dX12_path_13 : decode cX12_path 13 = .ok (.invokestatic 134, 3) := by decide +kernel
theorem dX12_path_16 : decode cX12_path 16 = .ok (.ifCond .ne 6, 3) := by decide +kernel
theorem dX12_path_19 : decode cX12_path 19 = .ok (.bipush (-2), 2) := by decide +kernel
theorem dX12_path_21 : decode cX12_path 21 = .ok (.ireturn, 1) := by decide +kernel
theorem dX12_path_22 : decode cX12_path 22 = .ok (.aload_n 0, 1) := by decide +kernel
theorem dX12_path_23 : decode cX12_path 23 = .ok (.getfield 71, 3) := by decide +kernel
theorem dX12_path_26 : decode cX12_path 26 = .ok (.iload_n 1, 1) := by decide +kernel
theorem dX12_path_27 : decode cX12_path 27 = .ok (.iaload, 1) := by decide +kernel
theorem dX12_path_28 : decode cX12_path 28 = .ok (.istore_n 3, 1) := by decide +kernel
theorem dX12_path_29 : decode cX12_path 29 = .ok (.aload_n 0, 1) := by decide +kernel
theorem dX12_path_30 : decode cX12_path 30 = .ok (.getfield 71, 3) := by decide +kernel
theorem dX12_path_33 : decode cX12_path 33 = .ok (.iload_n 1, 1) := by decide +kernel
theorem dX12_path_34 : decode cX12_path 34 = .ok (.iload_n 2, 1) := by decide +kernel
theorem dX12_path_35 : decode cX12_path 35 = .ok (.iastore, 1) := by decide +kernel
theorem dX12_path_36 : decode cX12_path 36 = .ok (.aload_n 0, 1) := by decide +kernel
theorem dX12_path_37 : decode cX12_path 37 = .ok (.getfield 71, 3) := by decide +kernel
theorem dX12_path_40 : decode cX12_path 40 = .ok (.bipush 10, 2) := by decide +kernel
theorem dX12_path_42 : decode cX12_path 42 = .ok (.iload_n 1, 1) := by decide +kernel
theorem dX12_path_43 : decode cX12_path 43 = .ok (.bipush 10, 2) := by decide +kernel
theorem dX12_path_45 : decode cX12_path 45 = .ok (.irem, 1) := by decide +kernel
theorem dX12_path_46 : decode cX12_path 46 = .ok (.imul, 1) := by decide +kernel
theorem dX12_path_47 : decode cX12_path 47 = .ok (.iload_n 1, 1) := by decide +kernel
theorem dX12_path_48 : decode cX12_path 48 = .ok (.bipush 10, 2) := by decide +kernel
theorem dX12_path_50 : decode cX12_path 50 = .ok (.idiv, 1) := by decide +kernel
theorem dX12_path_51 : decode cX12_path 51 = .ok (.iadd, 1) := by decide +kernel
theorem dX12_path_52 : decode cX12_path 52 = .ok (.iload_n 2, 1) := by decide +kernel
theorem dX12_path_53 : decode cX12_path 53 = .ok (.iastore, 1) := by decide +kernel
theorem dX12_path_54 : decode cX12_path 54 = .ok (.iload_n 3, 1) := by decide +kernel
theorem dX12_path_55 : decode cX12_path 55 = .ok (.ireturn, 1) := by decide +kernel
theorem dX12_walks_0 : decode cX12_walks 0 = .ok (.iconst 0, 1) := by decide +kernel
theorem dX12_walks_1 : decode cX12_walks 1 = .ok (.istore_n 1, 1) := by decide +kernel
theorem dX12_walks_2 : decode cX12_walks 2 = .ok (.iload_n 1, 1) := by decide +kernel
theorem dX12_walks_3 : decode cX12_walks 3 = .ok (.bipush 100, 2) := by decide +kernel
theorem dX12_walks_5 : decode cX12_walks 5 = .ok (.if_icmp .ge 51, 3) := by decide +kernel
theorem dX12_walks_8 : decode cX12_walks 8 = .ok (.aload_n 0, 1) := by decide +kernel
theorem dX12_walks_9 : decode cX12_walks 9 = .ok (.getfield 74, 3) := by decide +kernel
theorem dX12_walks_12 : decode cX12_walks 12 = .ok (.iload_n 1, 1) := by decide +kernel
theorem dX12_walks_13 : decode cX12_walks 13 = .ok (.iload_n 1, 1) := by decide +kernel
theorem dX12_walks_14 : decode cX12_walks 14 = .ok (.bipush 10, 2) := by decide +kernel
theorem dX12_walks_16 : decode cX12_walks 16 = .ok (.idiv, 1) := by decide +kernel
theorem dX12_walks_17 : decode cX12_walks 17 = .ok (.iload_n 1, 1) := by decide +kernel
theorem dX12_walks_18 : decode cX12_walks 18 = .ok (.bipush 10, 2) := by decide +kernel
theorem dX12_walks_20 : decode cX12_walks 20 = .ok (.irem, 1) := by decide +kernel
theorem dX12_walks_21 : decode cX12_walks 21 = .ok (.if_icmp .ne 7, 3) := by decide +kernel
theorem dX12_walks_24 : decode cX12_walks 24 = .ok (.iconst 0, 1) := by decide +kernel
theorem dX12_walks_25 : decode cX12_walks 25 = .ok (.goto 24, 3) := by decide +kernel
theorem dX12_walks_28 : decode cX12_walks 28 = .ok (.aload_n 0, 1) := by decide +kernel
theorem dX12_walks_29 : decode cX12_walks 29 = .ok (.getfield 71, 3) := by decide +kernel
theorem dX12_walks_32 : decode cX12_walks 32 = .ok (.iload_n 1, 1) := by decide +kernel
theorem dX12_walks_33 : decode cX12_walks 33 = .ok (.iaload, 1) := by decide +kernel
theorem dX12_walks_34 : decode cX12_walks 34 = .ok (.ifCond .le 12, 3) := by decide +kernel
theorem dX12_walks_37 : decode cX12_walks 37 = .ok (.aload_n 0, 1) := by decide +kernel
theorem dX12_walks_38 : decode cX12_walks 38 = .ok (.getfield 71, 3) := by decide +kernel
theorem dX12_walks_41 : decode cX12_walks 41 = .ok (.iload_n 1, 1) := by decide +kernel
theorem dX12_walks_42 : decode cX12_walks 42 = .ok (.iaload, 1) := by decide +kernel
theorem dX12_walks_43 : decode cX12_walks 43 = .ok (.goto 6, 3) := by decide +kernel
theorem dX12_walks_46 : decode cX12_walks 46 = .ok (.sipush 1000, 3) := by decide +kernel
theorem dX12_walks_49 : decode cX12_walks 49 = .ok (.iastore, 1) := by decide +kernel
theorem dX12_walks_50 : decode cX12_walks 50 = .ok (.iinc 1 1, 3) := by decide +kernel
theorem dX12_walks_53 : decode cX12_walks 53 = .ok (.goto (-51), 3) := by decide +kernel
theorem dX12_walks_56 : decode cX12_walks 56 = .ok (.iconst 0, 1) := by decide +kernel
theorem dX12_walks_57 : decode cX12_walks 57 = .ok (.istore_n 1, 1) := by decide +kernel
theorem dX12_walks_58 : decode cX12_walks 58 = .ok (.iload_n 1, 1) := by decide +kernel
theorem dX12_walks_59 : decode cX12_walks 59 = .ok (.aload_n 0, 1) := by decide +kernel
theorem dX12_walks_60 : decode cX12_walks 60 = .ok (.getfield 131, 3) := by decide +kernel
theorem dX12_walks_63 : decode cX12_walks 63 = .ok (.if_icmp .ge 63, 3) := by decide +kernel
theorem dX12_walks_66 : decode cX12_walks 66 = .ok (.aload_n 0, 1) := by decide +kernel
theorem dX12_walks_67 : decode cX12_walks 67 = .ok (.getfield 26, 3) := by decide +kernel
theorem dX12_walks_70 : decode cX12_walks 70 = .ok (.iload_n 1, 1) := by decide +kernel
theorem dX12_walks_71 : decode cX12_walks 71 = .ok (.iaload, 1) := by decide +kernel
theorem dX12_walks_72 : decode cX12_walks 72 = .ok (.istore_n 2, 1) := by decide +kernel
theorem dX12_walks_73 : decode cX12_walks 73 = .ok (.bipush 10, 2) := by decide +kernel
theorem dX12_walks_75 : decode cX12_walks 75 = .ok (.iload_n 2, 1) := by decide +kernel
theorem dX12_walks_76 : decode cX12_walks 76 = .ok (.bipush 10, 2) := by decide +kernel
theorem dX12_walks_78 : decode cX12_walks 78 = .ok (.irem, 1) := by decide +kernel
theorem dX12_walks_79 : decode cX12_walks 79 = .ok (.imul, 1) := by decide +kernel
theorem dX12_walks_80 : decode cX12_walks 80 = .ok (.iload_n 2, 1) := by decide +kernel
theorem dX12_walks_81 : decode cX12_walks 81 = .ok (.bipush 10, 2) := by decide +kernel
theorem dX12_walks_83 : decode cX12_walks 83 = .ok (.idiv, 1) := by decide +kernel
theorem dX12_walks_84 : decode cX12_walks 84 = .ok (.iadd, 1) := by decide +kernel
theorem dX12_walks_85 : decode cX12_walks 85 = .ok (.istore_n 3, 1) := by decide +kernel
theorem dX12_walks_86 : decode cX12_walks 86 = .ok (.aload_n 0, 1) := by decide +kernel
theorem dX12_walks_87 : decode cX12_walks 87 = .ok (.getfield 29, 3) := by decide +kernel
theorem dX12_walks_90 : decode cX12_walks 90 = .ok (.iload_n 1, 1) := by decide +kernel
theorem dX12_walks_91 : decode cX12_walks 91 = .ok (.iaload, 1) := by decide +kernel
theorem dX12_walks_92 : decode cX12_walks 92 = .ok (.iconst 1, 1) := by decide +kernel
theorem dX12_walks_93 : decode cX12_walks 93 = .ok (.if_icmp .ne 27, 3) := by decide +kernel
theorem dX12_walks_96 : decode cX12_walks 96 = .ok (.aload_n 0, 1) := by decide +kernel
theorem dX12_walks_97 : decode cX12_walks 97 = .ok (.getfield 74, 3) := by decide +kernel
theorem dX12_walks_100 : decode cX12_walks 100 = .ok (.iload_n 2, 1) := by decide +kernel
theorem dX12_walks_101 : decode cX12_walks 101 = .ok (.iaload, 1) := by decide +kernel
theorem dX12_walks_102 : decode cX12_walks 102 = .ok (.iconst 5, 1) := by decide +kernel
theorem dX12_walks_103 : decode cX12_walks 103 = .ok (.if_icmp .le 17, 3) := by decide +kernel
theorem dX12_walks_106 : decode cX12_walks 106 = .ok (.aload_n 0, 1) := by decide +kernel
theorem dX12_walks_107 : decode cX12_walks 107 = .ok (.getfield 74, 3) := by decide +kernel
theorem dX12_walks_110 : decode cX12_walks 110 = .ok (.iload_n 2, 1) := by decide +kernel
theorem dX12_walks_111 : decode cX12_walks 111 = .ok (.iconst 5, 1) := by decide +kernel
theorem dX12_walks_112 : decode cX12_walks 112 = .ok (.iastore, 1) := by decide +kernel
theorem dX12_walks_113 : decode cX12_walks 113 = .ok (.aload_n 0, 1) := by decide +kernel
theorem dX12_walks_114 : decode cX12_walks 114 = .ok (.getfield 74, 3) := by decide +kernel
theorem dX12_walks_117 : decode cX12_walks 117 = .ok (.iload_n 3, 1) := by decide +kernel
theorem dX12_walks_118 : decode cX12_walks 118 = .ok (.iconst 5, 1) := by decide +kernel
theorem dX12_walks_119 : decode cX12_walks 119 = .ok (.iastore, 1) := by decide +kernel
theorem dX12_walks_120 : decode cX12_walks 120 = .ok (.iinc 1 1, 3) := by decide +kernel
theorem dX12_walks_123 : decode cX12_walks 123 = .ok (.goto (-65), 3) := by decide +kernel
theorem dX12_walks_126 : decode cX12_walks 126 = .ok (.iconst 0, 1) := by decide +kernel
theorem dX12_walks_127 : decode cX12_walks 127 = .ok (.istore_n 1, 1) := by decide +kernel
theorem dX12_walks_128 : decode cX12_walks 128 = .ok (.iload_n 1, 1) := by decide +kernel
theorem dX12_walks_129 : decode cX12_walks 129 = .ok (.bipush 10, 2) := by decide +kernel
theorem dX12_walks_131 : decode cX12_walks 131 = .ok (.if_icmp .ge 91, 3) := by decide +kernel
theorem dX12_walks_134 : decode cX12_walks 134 = .ok (.iconst 0, 1) := by decide +kernel
theorem dX12_walks_135 : decode cX12_walks 135 = .ok (.istore_n 2, 1) := by decide +kernel
theorem dX12_walks_136 : decode cX12_walks 136 = .ok (.iload_n 2, 1) := by decide +kernel
theorem dX12_walks_137 : decode cX12_walks 137 = .ok (.bipush 10, 2) := by decide +kernel
theorem dX12_walks_139 : decode cX12_walks 139 = .ok (.if_icmp .ge 77, 3) := by decide +kernel
theorem dX12_walks_142 : decode cX12_walks 142 = .ok (.iconst 0, 1) := by decide +kernel
theorem dX12_walks_143 : decode cX12_walks 143 = .ok (.istore_n 3, 1) := by decide +kernel
theorem dX12_walks_144 : decode cX12_walks 144 = .ok (.iload_n 3, 1) := by decide +kernel
theorem dX12_walks_145 : decode cX12_walks 145 = .ok (.bipush 10, 2) := by decide +kernel
theorem dX12_walks_147 : decode cX12_walks 147 = .ok (.if_icmp .ge 63, 3) := by decide +kernel
theorem dX12_walks_150 : decode cX12_walks 150 = .ok (.aload_n 0, 1) := by decide +kernel
theorem dX12_walks_151 : decode cX12_walks 151 = .ok (.getfield 74, 3) := by decide +kernel
theorem dX12_walks_154 : decode cX12_walks 154 = .ok (.bipush 10, 2) := by decide +kernel
theorem dX12_walks_156 : decode cX12_walks 156 = .ok (.iload_n 2, 1) := by decide +kernel
theorem dX12_walks_157 : decode cX12_walks 157 = .ok (.imul, 1) := by decide +kernel
theorem dX12_walks_158 : decode cX12_walks 158 = .ok (.iload_n 1, 1) := by decide +kernel
theorem dX12_walks_159 : decode cX12_walks 159 = .ok (.iadd, 1) := by decide +kernel
theorem dX12_walks_160 : decode cX12_walks 160 = .ok (.iaload, 1) := by decide +kernel
theorem dX12_walks_161 : decode cX12_walks 161 = .ok (.aload_n 0, 1) := by decide +kernel
theorem dX12_walks_162 : decode cX12_walks 162 = .ok (.getfield 74, 3) := by decide +kernel
theorem dX12_walks_165 : decode cX12_walks 165 = .ok (.bipush 10, 2) := by decide +kernel
theorem dX12_walks_167 : decode cX12_walks 167 = .ok (.iload_n 1, 1) := by decide +kernel
theorem dX12_walks_168 : decode cX12_walks 168 = .ok (.imul, 1) := by decide +kernel
theorem dX12_walks_169 : decode cX12_walks 169 = .ok (.iload_n 3, 1) := by decide +kernel
theorem dX12_walks_170 : decode cX12_walks 170 = .ok (.iadd, 1) := by decide +kernel
theorem dX12_walks_171 : decode cX12_walks 171 = .ok (.iaload, 1) := by decide +kernel
theorem dX12_walks_172 : decode cX12_walks 172 = .ok (.iadd, 1) := by decide +kernel
theorem dX12_walks_173 : decode cX12_walks 173 = .ok (.istore 4, 2) := by decide +kernel
theorem dX12_walks_175 : decode cX12_walks 175 = .ok (.iload 4, 2) := by decide +kernel
theorem dX12_walks_177 : decode cX12_walks 177 = .ok (.aload_n 0, 1) := by decide +kernel
theorem dX12_walks_178 : decode cX12_walks 178 = .ok (.getfield 74, 3) := by decide +kernel
theorem dX12_walks_181 : decode cX12_walks 181 = .ok (.bipush 10, 2) := by decide +kernel
theorem dX12_walks_183 : decode cX12_walks 183 = .ok (.iload_n 2, 1) := by decide +kernel
theorem dX12_walks_184 : decode cX12_walks 184 = .ok (.imul, 1) := by decide +kernel
theorem dX12_walks_185 : decode cX12_walks 185 = .ok (.iload_n 3, 1) := by decide +kernel
theorem dX12_walks_186 : decode cX12_walks 186 = .ok (.iadd, 1) := by decide +kernel
theorem dX12_walks_187 : decode cX12_walks 187 = .ok (.iaload, 1) := by decide +kernel
theorem dX12_walks_188 : decode cX12_walks 188 = .ok (.if_icmp .ge 16, 3) := by decide +kernel
theorem dX12_walks_191 : decode cX12_walks 191 = .ok (.aload_n 0, 1) := by decide +kernel
theorem dX12_walks_192 : decode cX12_walks 192 = .ok (.getfield 74, 3) := by decide +kernel
theorem dX12_walks_195 : decode cX12_walks 195 = .ok (.bipush 10, 2) := by decide +kernel
theorem dX12_walks_197 : decode cX12_walks 197 = .ok (.iload_n 2, 1) := by decide +kernel
theorem dX12_walks_198 : decode cX12_walks 198 = .ok (.imul, 1) := by decide +kernel
theorem dX12_walks_199 : decode cX12_walks 199 = .ok (.iload_n 3, 1) := by decide +kernel
theorem dX12_walks_200 : decode cX12_walks 200 = .ok (.iadd, 1) := by decide +kernel
theorem dX12_walks_201 : decode cX12_walks 201 = .ok (.iload 4, 2) := by decide +kernel
theorem dX12_walks_203 : decode cX12_walks 203 = .ok (.iastore, 1) := by decide +kernel
theorem dX12_walks_204 : decode cX12_walks 204 = .ok (.iinc 3 1, 3) := by decide +kernel
theorem dX12_walks_207 : decode cX12_walks 207 = .ok (.goto (-63), 3) := by decide +kernel
theorem dX12_walks_210 : decode cX12_walks 210 = .ok (.iinc 2 1, 3) := by decide +kernel
theorem dX12_walks_213 : decode cX12_walks 213 = .ok (.goto (-77), 3) := by decide +kernel
theorem dX12_walks_216 : decode cX12_walks 216 = .ok (.iinc 1 1, 3) := by decide +kernel
theorem dX12_walks_219 : decode cX12_walks 219 = .ok (.goto (-91), 3) := by decide +kernel
theorem dX12_walks_222 : decode cX12_walks 222 = .ok (.return_, 1) := by decide +kernel
theorem dX12_foot_0 : decode cX12_foot 0 = .ok (.iload_n 1, 1) := by decide +kernel
theorem dX12_foot_1 : decode cX12_foot 1 = .ok (.i2l, 1) := by decide +kernel
theorem dX12_foot_2 : decode cX12_foot 2 = .ok (.lconst 0, 1) := by decide +kernel
theorem dX12_foot_3 : decode cX12_foot 3 = .ok (.ldc2_w 143, 3) := by decide +kernel
theorem dX12_foot_6 : decode cX12_foot 6 = .ok (.invokestatic 134, 3) := by decide +kernel
theorem dX12_foot_9 : decode cX12_foot 9 = .ok (.ifCond .ne 6, 3) := by decide +kernel
theorem dX12_foot_12 : decode cX12_foot 12 = .ok (.bipush (-2), 2) := by decide +kernel
theorem dX12_foot_14 : decode cX12_foot 14 = .ok (.ireturn, 1) := by decide +kernel
theorem dX12_foot_15 : decode cX12_foot 15 = .ok (.aload_n 0, 1) := by decide +kernel
theorem dX12_foot_16 : decode cX12_foot 16 = .ok (.invokevirtual 383, 3) := by decide +kernel
theorem dX12_foot_19 : decode cX12_foot 19 = .ok (.aload_n 0, 1) := by decide +kernel
theorem dX12_foot_20 : decode cX12_foot 20 = .ok (.getfield 74, 3) := by decide +kernel
theorem dX12_foot_23 : decode cX12_foot 23 = .ok (.iload_n 1, 1) := by decide +kernel
theorem dX12_foot_24 : decode cX12_foot 24 = .ok (.iaload, 1) := by decide +kernel
theorem dX12_foot_25 : decode cX12_foot 25 = .ok (.sipush 1000, 3) := by decide +kernel
theorem dX12_foot_28 : decode cX12_foot 28 = .ok (.if_icmp .ge 12, 3) := by decide +kernel
theorem dX12_foot_31 : decode cX12_foot 31 = .ok (.aload_n 0, 1) := by decide +kernel
theorem dX12_foot_32 : decode cX12_foot 32 = .ok (.getfield 74, 3) := by decide +kernel
theorem dX12_foot_35 : decode cX12_foot 35 = .ok (.iload_n 1, 1) := by decide +kernel
theorem dX12_foot_36 : decode cX12_foot 36 = .ok (.iaload, 1) := by decide +kernel
theorem dX12_foot_37 : decode cX12_foot 37 = .ok (.goto 4, 3) := by decide +kernel
theorem dX12_foot_40 : decode cX12_foot 40 = .ok (.iconst (-1), 1) := by decide +kernel
theorem dX12_foot_41 : decode cX12_foot 41 = .ok (.ireturn, 1) := by decide +kernel
theorem dX12_lost_0 : decode cX12_lost 0 = .ok (.aload_n 0, 1) := by decide +kernel
theorem dX12_lost_1 : decode cX12_lost 1 = .ok (.iload_n 1, 1) := by decide +kernel
theorem dX12_lost_2 : decode cX12_lost 2 = .ok (.invokevirtual 159, 3) := by decide +kernel
theorem dX12_lost_5 : decode cX12_lost 5 = .ok (.ifCond .ne 6, 3) := by decide +kernel
theorem dX12_lost_8 : decode cX12_lost 8 = .ok (.bipush (-2), 2) := by decide +kernel
theorem dX12_lost_10 : decode cX12_lost 10 = .ok (.ireturn, 1) := by decide +kernel
theorem dX12_lost_11 : decode cX12_lost 11 = .ok (.aload_n 0, 1) := by decide +kernel
theorem dX12_lost_12 : decode cX12_lost 12 = .ok (.getfield 29, 3) := by decide +kernel
theorem dX12_lost_15 : decode cX12_lost 15 = .ok (.iload_n 1, 1) := by decide +kernel
theorem dX12_lost_16 : decode cX12_lost 16 = .ok (.iaload, 1) := by decide +kernel
theorem dX12_lost_17 : decode cX12_lost 17 = .ok (.ifCond .ne 5, 3) := by decide +kernel
theorem dX12_lost_20 : decode cX12_lost 20 = .ok (.iconst 0, 1) := by decide +kernel
theorem dX12_lost_21 : decode cX12_lost 21 = .ok (.ireturn, 1) := by decide +kernel
theorem dX12_lost_22 : decode cX12_lost 22 = .ok (.aload_n 0, 1) := by decide +kernel
theorem dX12_lost_23 : decode cX12_lost 23 = .ok (.invokevirtual 383, 3) := by decide +kernel
theorem dX12_lost_26 : decode cX12_lost 26 = .ok (.iconst 0, 1) := by decide +kernel
theorem dX12_lost_27 : decode cX12_lost 27 = .ok (.istore_n 2, 1) := by decide +kernel
theorem dX12_lost_28 : decode cX12_lost 28 = .ok (.iload_n 2, 1) := by decide +kernel
theorem dX12_lost_29 : decode cX12_lost 29 = .ok (.bipush 100, 2) := by decide +kernel
theorem dX12_lost_31 : decode cX12_lost 31 = .ok (.if_icmp .ge 21, 3) := by decide +kernel
theorem dX12_lost_34 : decode cX12_lost 34 = .ok (.aload_n 0, 1) := by decide +kernel
theorem dX12_lost_35 : decode cX12_lost 35 = .ok (.getfield 77, 3) := by decide +kernel
theorem dX12_lost_38 : decode cX12_lost 38 = .ok (.iload_n 2, 1) := by decide +kernel
theorem dX12_lost_39 : decode cX12_lost 39 = .ok (.aload_n 0, 1) := by decide +kernel
theorem dX12_lost_40 : decode cX12_lost 40 = .ok (.getfield 74, 3) := by decide +kernel
theorem dX12_lost_43 : decode cX12_lost 43 = .ok (.iload_n 2, 1) := by decide +kernel
theorem dX12_lost_44 : decode cX12_lost 44 = .ok (.iaload, 1) := by decide +kernel
theorem dX12_lost_45 : decode cX12_lost 45 = .ok (.iastore, 1) := by decide +kernel
theorem dX12_lost_46 : decode cX12_lost 46 = .ok (.iinc 2 1, 3) := by decide +kernel
theorem dX12_lost_49 : decode cX12_lost 49 = .ok (.goto (-21), 3) := by decide +kernel
theorem dX12_lost_52 : decode cX12_lost 52 = .ok (.aload_n 0, 1) := by decide +kernel
theorem dX12_lost_53 : decode cX12_lost 53 = .ok (.getfield 29, 3) := by decide +kernel
theorem dX12_lost_56 : decode cX12_lost 56 = .ok (.iload_n 1, 1) := by decide +kernel
theorem dX12_lost_57 : decode cX12_lost 57 = .ok (.iconst 0, 1) := by decide +kernel
theorem dX12_lost_58 : decode cX12_lost 58 = .ok (.iastore, 1) := by decide +kernel
theorem dX12_lost_59 : decode cX12_lost 59 = .ok (.aload_n 0, 1) := by decide +kernel
theorem dX12_lost_60 : decode cX12_lost 60 = .ok (.invokevirtual 383, 3) := by decide +kernel
theorem dX12_lost_63 : decode cX12_lost 63 = .ok (.aload_n 0, 1) := by decide +kernel
theorem dX12_lost_64 : decode cX12_lost 64 = .ok (.getfield 29, 3) := by decide +kernel
theorem dX12_lost_67 : decode cX12_lost 67 = .ok (.iload_n 1, 1) := by decide +kernel
theorem dX12_lost_68 : decode cX12_lost 68 = .ok (.iconst 1, 1) := by decide +kernel
theorem dX12_lost_69 : decode cX12_lost 69 = .ok (.iastore, 1) := by decide +kernel
theorem dX12_lost_70 : decode cX12_lost 70 = .ok (.iconst 0, 1) := by decide +kernel
theorem dX12_lost_71 : decode cX12_lost 71 = .ok (.istore_n 2, 1) := by decide +kernel
theorem dX12_lost_72 : decode cX12_lost 72 = .ok (.iconst 0, 1) := by decide +kernel
theorem dX12_lost_73 : decode cX12_lost 73 = .ok (.istore_n 3, 1) := by decide +kernel
theorem dX12_lost_74 : decode cX12_lost 74 = .ok (.iload_n 3, 1) := by decide +kernel
theorem dX12_lost_75 : decode cX12_lost 75 = .ok (.bipush 10, 2) := by decide +kernel
theorem dX12_lost_77 : decode cX12_lost 77 = .ok (.if_icmp .ge 85, 3) := by decide +kernel
theorem dX12_lost_80 : decode cX12_lost 80 = .ok (.iload_n 3, 1) := by decide +kernel
theorem dX12_lost_81 : decode cX12_lost 81 = .ok (.iconst 1, 1) := by decide +kernel
theorem dX12_lost_82 : decode cX12_lost 82 = .ok (.iadd, 1) := by decide +kernel
theorem dX12_lost_83 : decode cX12_lost 83 = .ok (.istore 4, 2) := by decide +kernel
theorem dX12_lost_85 : decode cX12_lost 85 = .ok (.iload 4, 2) := by decide +kernel
theorem dX12_lost_87 : decode cX12_lost 87 = .ok (.bipush 10, 2) := by decide +kernel
theorem dX12_lost_89 : decode cX12_lost 89 = .ok (.if_icmp .ge 67, 3) := by decide +kernel
theorem dX12_lost_92 : decode cX12_lost 92 = .ok (.bipush 10, 2) := by decide +kernel
theorem dX12_lost_94 : decode cX12_lost 94 = .ok (.iload_n 3, 1) := by decide +kernel
theorem dX12_lost_95 : decode cX12_lost 95 = .ok (.imul, 1) := by decide +kernel
theorem dX12_lost_96 : decode cX12_lost 96 = .ok (.iload 4, 2) := by decide +kernel
theorem dX12_lost_98 : decode cX12_lost 98 = .ok (.iadd, 1) := by decide +kernel
theorem dX12_lost_99 : decode cX12_lost 99 = .ok (.istore 5, 2) := by decide +kernel
theorem dX12_lost_101 : decode cX12_lost 101 = .ok (.aload_n 0, 1) := by decide +kernel
theorem dX12_lost_102 : decode cX12_lost 102 = .ok (.getfield 77, 3) := by decide +kernel
theorem dX12_lost_105 : decode cX12_lost 105 = .ok (.iload 5, 2) := by decide +kernel
theorem dX12_lost_107 : decode cX12_lost 107 = .ok (.iaload, 1) := by decide +kernel
theorem dX12_lost_108 : decode cX12_lost 108 = .ok (.sipush 1000, 3) := by decide +kernel
theorem dX12_lost_111 : decode cX12_lost 111 = .ok (.if_icmp .ge 39, 3) := by decide +kernel
theorem dX12_lost_114 : decode cX12_lost 114 = .ok (.iload_n 2, 1) := by decide +kernel
theorem dX12_lost_115 : decode cX12_lost 115 = .ok (.aload_n 0, 1) := by decide +kernel
theorem dX12_lost_116 : decode cX12_lost 116 = .ok (.getfield 74, 3) := by decide +kernel
theorem dX12_lost_119 : decode cX12_lost 119 = .ok (.iload 5, 2) := by decide +kernel
theorem dX12_lost_121 : decode cX12_lost 121 = .ok (.iaload, 1) := by decide +kernel
theorem dX12_lost_122 : decode cX12_lost 122 = .ok (.sipush 1000, 3) := by decide +kernel
theorem dX12_lost_125 : decode cX12_lost 125 = .ok (.if_icmp .ge 21, 3) := by decide +kernel
theorem dX12_lost_128 : decode cX12_lost 128 = .ok (.aload_n 0, 1) := by decide +kernel
theorem dX12_lost_129 : decode cX12_lost 129 = .ok (.getfield 74, 3) := by decide +kernel
theorem dX12_lost_132 : decode cX12_lost 132 = .ok (.iload 5, 2) := by decide +kernel
theorem dX12_lost_134 : decode cX12_lost 134 = .ok (.iaload, 1) := by decide +kernel
theorem dX12_lost_135 : decode cX12_lost 135 = .ok (.aload_n 0, 1) := by decide +kernel
theorem dX12_lost_136 : decode cX12_lost 136 = .ok (.getfield 77, 3) := by decide +kernel
theorem dX12_lost_139 : decode cX12_lost 139 = .ok (.iload 5, 2) := by decide +kernel
theorem dX12_lost_141 : decode cX12_lost 141 = .ok (.iaload, 1) := by decide +kernel
theorem dX12_lost_142 : decode cX12_lost 142 = .ok (.isub, 1) := by decide +kernel
theorem dX12_lost_143 : decode cX12_lost 143 = .ok (.goto 5, 3) := by decide +kernel
theorem dX12_lost_146 : decode cX12_lost 146 = .ok (.bipush 100, 2) := by decide +kernel
theorem dX12_lost_148 : decode cX12_lost 148 = .ok (.iadd, 1) := by decide +kernel
theorem dX12_lost_149 : decode cX12_lost 149 = .ok (.istore_n 2, 1) := by decide +kernel
theorem dX12_lost_150 : decode cX12_lost 150 = .ok (.iinc 4 1, 3) := by decide +kernel
theorem dX12_lost_153 : decode cX12_lost 153 = .ok (.goto (-68), 3) := by decide +kernel
theorem dX12_lost_156 : decode cX12_lost 156 = .ok (.iinc 3 1, 3) := by decide +kernel
theorem dX12_lost_159 : decode cX12_lost 159 = .ok (.goto (-85), 3) := by decide +kernel
theorem dX12_lost_162 : decode cX12_lost 162 = .ok (.iload_n 2, 1) := by decide +kernel
theorem dX12_lost_163 : decode cX12_lost 163 = .ok (.ireturn, 1) := by decide +kernel
theorem dX12_isBoat_0 : decode cX12_isBoat 0 = .ok (.iload_n 0, 1) := by decide +kernel
theorem dX12_isBoat_1 : decode cX12_isBoat 1 = .ok (.ifCond .lt 24, 3) := by decide +kernel
theorem dX12_isBoat_4 : decode cX12_isBoat 4 = .ok (.iload_n 0, 1) := by decide +kernel
theorem dX12_isBoat_5 : decode cX12_isBoat 5 = .ok (.bipush 10, 2) := by decide +kernel
theorem dX12_isBoat_7 : decode cX12_isBoat 7 = .ok (.idiv, 1) := by decide +kernel
theorem dX12_isBoat_8 : decode cX12_isBoat 8 = .ok (.bipush 64, 2) := by decide +kernel
theorem dX12_isBoat_10 : decode cX12_isBoat 10 = .ok (.if_icmp .ge 15, 3) := by decide +kernel
theorem dX12_isBoat_13 : decode cX12_isBoat 13 = .ok (.iload_n 0, 1) := by decide +kernel
theorem dX12_isBoat_14 : decode cX12_isBoat 14 = .ok (.bipush 10, 2) := by decide +kernel
theorem dX12_isBoat_16 : decode cX12_isBoat 16 = .ok (.irem, 1) := by decide +kernel
theorem dX12_isBoat_17 : decode cX12_isBoat 17 = .ok (.iconst 3, 1) := by decide +kernel
theorem dX12_isBoat_18 : decode cX12_isBoat 18 = .ok (.if_icmp .ge 7, 3) := by decide +kernel
theorem dX12_isBoat_21 : decode cX12_isBoat 21 = .ok (.iconst 1, 1) := by decide +kernel
theorem dX12_isBoat_22 : decode cX12_isBoat 22 = .ok (.goto 4, 3) := by decide +kernel
theorem dX12_isBoat_25 : decode cX12_isBoat 25 = .ok (.iconst 0, 1) := by decide +kernel
theorem dX12_isBoat_26 : decode cX12_isBoat 26 = .ok (.ireturn, 1) := by decide +kernel
theorem dX12_onward_0 : decode cX12_onward 0 = .ok (.iload_n 0, 1) := by decide +kernel
theorem dX12_onward_1 : decode cX12_onward 1 = .ok (.iload_n 1, 1) := by decide +kernel
theorem dX12_onward_2 : decode cX12_onward 2 = .ok (.iadd, 1) := by decide +kernel
theorem dX12_onward_3 : decode cX12_onward 3 = .ok (.i2l, 1) := by decide +kernel
theorem dX12_onward_4 : decode cX12_onward 4 = .ok (.lconst 0, 1) := by decide +kernel
theorem dX12_onward_5 : decode cX12_onward 5 = .ok (.ldc2_w 386, 3) := by decide +kernel
theorem dX12_onward_8 : decode cX12_onward 8 = .ok (.invokestatic 134, 3) := by decide +kernel
theorem dX12_onward_11 : decode cX12_onward 11 = .ok (.ifCond .eq 7, 3) := by decide +kernel
theorem dX12_onward_14 : decode cX12_onward 14 = .ok (.iload_n 1, 1) := by decide +kernel
theorem dX12_onward_15 : decode cX12_onward 15 = .ok (.goto 5, 3) := by decide +kernel
theorem dX12_onward_18 : decode cX12_onward 18 = .ok (.iload_n 1, 1) := by decide +kernel
theorem dX12_onward_19 : decode cX12_onward 19 = .ok (.ineg, 1) := by decide +kernel
theorem dX12_onward_20 : decode cX12_onward 20 = .ok (.ireturn, 1) := by decide +kernel
theorem dX12_fog_0 : decode cX12_fog 0 = .ok (.iload_n 1, 1) := by decide +kernel
theorem dX12_fog_1 : decode cX12_fog 1 = .ok (.invokestatic 388, 3) := by decide +kernel
theorem dX12_fog_4 : decode cX12_fog 4 = .ok (.ifCond .eq 37, 3) := by decide +kernel
theorem dX12_fog_7 : decode cX12_fog 7 = .ok (.iload_n 2, 1) := by decide +kernel
theorem dX12_fog_8 : decode cX12_fog 8 = .ok (.invokestatic 388, 3) := by decide +kernel
theorem dX12_fog_11 : decode cX12_fog 11 = .ok (.ifCond .eq 30, 3) := by decide +kernel
theorem dX12_fog_14 : decode cX12_fog 14 = .ok (.iload_n 3, 1) := by decide +kernel
theorem dX12_fog_15 : decode cX12_fog 15 = .ok (.i2l, 1) := by decide +kernel
theorem dX12_fog_16 : decode cX12_fog 16 = .ok (.ldc2_w 239, 3) := by decide +kernel
theorem dX12_fog_19 : decode cX12_fog 19 = .ok (.ldc2_w 143, 3) := by decide +kernel
theorem dX12_fog_22 : decode cX12_fog 22 = .ok (.invokestatic 134, 3) := by decide +kernel
theorem dX12_fog_25 : decode cX12_fog 25 = .ok (.ifCond .eq 16, 3) := by decide +kernel
theorem dX12_fog_28 : decode cX12_fog 28 = .ok (.iload 4, 2) := by decide +kernel
theorem dX12_fog_30 : decode cX12_fog 30 = .ok (.i2l, 1) := by decide +kernel
theorem dX12_fog_31 : decode cX12_fog 31 = .ok (.lconst 0, 1) := by decide +kernel
theorem dX12_fog_32 : decode cX12_fog 32 = .ok (.ldc2_w 381, 3) := by decide +kernel
theorem dX12_fog_35 : decode cX12_fog 35 = .ok (.invokestatic 134, 3) := by decide +kernel
theorem dX12_fog_38 : decode cX12_fog 38 = .ok (.ifCond .ne 6, 3) := by decide +kernel
theorem dX12_fog_41 : decode cX12_fog 41 = .ok (.bipush (-2), 2) := by decide +kernel
theorem dX12_fog_43 : decode cX12_fog 43 = .ok (.ireturn, 1) := by decide +kernel
theorem dX12_fog_44 : decode cX12_fog 44 = .ok (.iload_n 1, 1) := by decide +kernel
theorem dX12_fog_45 : decode cX12_fog 45 = .ok (.bipush 10, 2) := by decide +kernel
theorem dX12_fog_47 : decode cX12_fog 47 = .ok (.idiv, 1) := by decide +kernel
theorem dX12_fog_48 : decode cX12_fog 48 = .ok (.istore 5, 2) := by decide +kernel
theorem dX12_fog_50 : decode cX12_fog 50 = .ok (.iload_n 2, 1) := by decide +kernel
theorem dX12_fog_51 : decode cX12_fog 51 = .ok (.bipush 10, 2) := by decide +kernel
theorem dX12_fog_53 : decode cX12_fog 53 = .ok (.idiv, 1) := by decide +kernel
theorem dX12_fog_54 : decode cX12_fog 54 = .ok (.istore 6, 2) := by decide +kernel
theorem dX12_fog_56 : decode cX12_fog 56 = .ok (.iload_n 1, 1) := by decide +kernel
theorem dX12_fog_57 : decode cX12_fog 57 = .ok (.bipush 10, 2) := by decide +kernel
theorem dX12_fog_59 : decode cX12_fog 59 = .ok (.irem, 1) := by decide +kernel
theorem dX12_fog_60 : decode cX12_fog 60 = .ok (.iconst 1, 1) := by decide +kernel
theorem dX12_fog_61 : decode cX12_fog 61 = .ok (.isub, 1) := by decide +kernel
theorem dX12_fog_62 : decode cX12_fog 62 = .ok (.istore 7, 2) := by decide +kernel
theorem dX12_fog_64 : decode cX12_fog 64 = .ok (.iload_n 2, 1) := by decide +kernel
theorem dX12_fog_65 : decode cX12_fog 65 = .ok (.bipush 10, 2) := by decide +kernel
theorem dX12_fog_67 : decode cX12_fog 67 = .ok (.irem, 1) := by decide +kernel
theorem dX12_fog_68 : decode cX12_fog 68 = .ok (.iconst 1, 1) := by decide +kernel
theorem dX12_fog_69 : decode cX12_fog 69 = .ok (.isub, 1) := by decide +kernel
theorem dX12_fog_70 : decode cX12_fog 70 = .ok (.istore 8, 2) := by decide +kernel
theorem dX12_fog_72 : decode cX12_fog 72 = .ok (.iload 5, 2) := by decide +kernel
theorem dX12_fog_74 : decode cX12_fog 74 = .ok (.iload 6, 2) := by decide +kernel
theorem dX12_fog_76 : decode cX12_fog 76 = .ok (.isub, 1) := by decide +kernel
theorem dX12_fog_77 : decode cX12_fog 77 = .ok (.invokestatic 391, 3) := by decide +kernel
theorem dX12_fog_80 : decode cX12_fog 80 = .ok (.istore 9, 2) := by decide +kernel
theorem dX12_fog_82 : decode cX12_fog 82 = .ok (.iconst 0, 1) := by decide +kernel
theorem dX12_fog_83 : decode cX12_fog 83 = .ok (.istore 10, 2) := by decide +kernel
theorem dX12_fog_85 : decode cX12_fog 85 = .ok (.iload 5, 2) := by decide +kernel
theorem dX12_fog_87 : decode cX12_fog 87 = .ok (.iload 6, 2) := by decide +kernel
theorem dX12_fog_89 : decode cX12_fog 89 = .ok (.if_icmp .ne 7, 3) := by decide +kernel
theorem dX12_fog_92 : decode cX12_fog 92 = .ok (.iconst 1, 1) := by decide +kernel
theorem dX12_fog_93 : decode cX12_fog 93 = .ok (.goto 4, 3) := by decide +kernel
theorem dX12_fog_96 : decode cX12_fog 96 = .ok (.iconst 0, 1) := by decide +kernel
theorem dX12_fog_97 : decode cX12_fog 97 = .ok (.istore 11, 2) := by decide +kernel
theorem dX12_fog_99 : decode cX12_fog 99 = .ok (.iconst 1, 1) := by decide +kernel
theorem dX12_fog_100 : decode cX12_fog 100 = .ok (.istore 12, 2) := by decide +kernel
theorem dX12_fog_102 : decode cX12_fog 102 = .ok (.iload 12, 2) := by decide +kernel
theorem dX12_fog_104 : decode cX12_fog 104 = .ok (.bipush 60, 2) := by decide +kernel
theorem dX12_fog_106 : decode cX12_fog 106 = .ok (.if_icmp .gt 144, 3) := by decide +kernel
theorem dX12_fog_109 : decode cX12_fog 109 = .ok (.iload 5, 2) := by decide +kernel
theorem dX12_fog_111 : decode cX12_fog 111 = .ok (.iload 7, 2) := by decide +kernel
theorem dX12_fog_113 : decode cX12_fog 113 = .ok (.invokestatic 394, 3) := by decide +kernel
theorem dX12_fog_116 : decode cX12_fog 116 = .ok (.istore 7, 2) := by decide +kernel
theorem dX12_fog_118 : decode cX12_fog 118 = .ok (.iload 6, 2) := by decide +kernel
theorem dX12_fog_120 : decode cX12_fog 120 = .ok (.iload 8, 2) := by decide +kernel
theorem dX12_fog_122 : decode cX12_fog 122 = .ok (.invokestatic 394, 3) := by decide +kernel
theorem dX12_fog_125 : decode cX12_fog 125 = .ok (.istore 8, 2) := by decide +kernel
theorem dX12_fog_127 : decode cX12_fog 127 = .ok (.iload 11, 2) := by decide +kernel
theorem dX12_fog_129 : decode cX12_fog 129 = .ok (.ifCond .ne 28, 3) := by decide +kernel
theorem dX12_fog_132 : decode cX12_fog 132 = .ok (.iload 7, 2) := by decide +kernel
theorem dX12_fog_134 : decode cX12_fog 134 = .ok (.ifCond .eq 27, 3) := by decide +kernel
theorem dX12_fog_137 : decode cX12_fog 137 = .ok (.iload 5, 2) := by decide +kernel
theorem dX12_fog_139 : decode cX12_fog 139 = .ok (.iload 7, 2) := by decide +kernel
theorem dX12_fog_141 : decode cX12_fog 141 = .ok (.iadd, 1) := by decide +kernel
theorem dX12_fog_142 : decode cX12_fog 142 = .ok (.iload 6, 2) := by decide +kernel
theorem dX12_fog_144 : decode cX12_fog 144 = .ok (.if_icmp .ne 17, 3) := by decide +kernel
theorem dX12_fog_147 : decode cX12_fog 147 = .ok (.iload 6, 2) := by decide +kernel
theorem dX12_fog_149 : decode cX12_fog 149 = .ok (.iload 8, 2) := by decide +kernel
theorem dX12_fog_151 : decode cX12_fog 151 = .ok (.iadd, 1) := by decide +kernel
theorem dX12_fog_152 : decode cX12_fog 152 = .ok (.iload 5, 2) := by decide +kernel
theorem dX12_fog_154 : decode cX12_fog 154 = .ok (.if_icmp .ne 7, 3) := by decide +kernel
theorem dX12_fog_157 : decode cX12_fog 157 = .ok (.iconst 1, 1) := by decide +kernel
theorem dX12_fog_158 : decode cX12_fog 158 = .ok (.goto 4, 3) := by decide +kernel
theorem dX12_fog_161 : decode cX12_fog 161 = .ok (.iconst 0, 1) := by decide +kernel
theorem dX12_fog_162 : decode cX12_fog 162 = .ok (.istore 11, 2) := by decide +kernel
theorem dX12_fog_164 : decode cX12_fog 164 = .ok (.iload 5, 2) := by decide +kernel
theorem dX12_fog_166 : decode cX12_fog 166 = .ok (.iload 7, 2) := by decide +kernel
theorem dX12_fog_168 : decode cX12_fog 168 = .ok (.iadd, 1) := by decide +kernel
theorem dX12_fog_169 : decode cX12_fog 169 = .ok (.istore 5, 2) := by decide +kernel
theorem dX12_fog_171 : decode cX12_fog 171 = .ok (.iload 6, 2) := by decide +kernel
theorem dX12_fog_173 : decode cX12_fog 173 = .ok (.iload 8, 2) := by decide +kernel
theorem dX12_fog_175 : decode cX12_fog 175 = .ok (.iadd, 1) := by decide +kernel
theorem dX12_fog_176 : decode cX12_fog 176 = .ok (.istore 6, 2) := by decide +kernel
theorem dX12_fog_178 : decode cX12_fog 178 = .ok (.iload 11, 2) := by decide +kernel
theorem dX12_fog_180 : decode cX12_fog 180 = .ok (.ifCond .ne 10, 3) := by decide +kernel
theorem dX12_fog_183 : decode cX12_fog 183 = .ok (.iload 5, 2) := by decide +kernel
theorem dX12_fog_185 : decode cX12_fog 185 = .ok (.iload 6, 2) := by decide +kernel
theorem dX12_fog_187 : decode cX12_fog 187 = .ok (.if_icmp .ne 7, 3) := by decide +kernel
theorem dX12_fog_190 : decode cX12_fog 190 = .ok (.iconst 1, 1) := by decide +kernel
theorem dX12_fog_191 : decode cX12_fog 191 = .ok (.goto 4, 3) := by decide +kernel
theorem dX12_fog_194 : decode cX12_fog 194 = .ok (.iconst 0, 1) := by decide +kernel
theorem dX12_fog_195 : decode cX12_fog 195 = .ok (.istore 11, 2) := by decide +kernel
theorem dX12_fog_197 : decode cX12_fog 197 = .ok (.iload 5, 2) := by decide +kernel
theorem dX12_fog_199 : decode cX12_fog 199 = .ok (.iload 6, 2) := by decide +kernel
theorem dX12_fog_201 : decode cX12_fog 201 = .ok (.isub, 1) := by decide +kernel
theorem dX12_fog_202 : decode cX12_fog 202 = .ok (.invokestatic 391, 3) := by decide +kernel
theorem dX12_fog_205 : decode cX12_fog 205 = .ok (.istore 13, 2) := by decide +kernel
theorem dX12_fog_207 : decode cX12_fog 207 = .ok (.iload 13, 2) := by decide +kernel
theorem dX12_fog_209 : decode cX12_fog 209 = .ok (.iload 9, 2) := by decide +kernel
theorem dX12_fog_211 : decode cX12_fog 211 = .ok (.if_icmp .ge 11, 3) := by decide +kernel
theorem dX12_fog_214 : decode cX12_fog 214 = .ok (.iload 13, 2) := by decide +kernel
theorem dX12_fog_216 : decode cX12_fog 216 = .ok (.istore 9, 2) := by decide +kernel
theorem dX12_fog_218 : decode cX12_fog 218 = .ok (.iload 12, 2) := by decide +kernel
theorem dX12_fog_220 : decode cX12_fog 220 = .ok (.istore 10, 2) := by decide +kernel
theorem dX12_fog_222 : decode cX12_fog 222 = .ok (.iload 12, 2) := by decide +kernel
theorem dX12_fog_224 : decode cX12_fog 224 = .ok (.iload_n 3, 1) := by decide +kernel
theorem dX12_fog_225 : decode cX12_fog 225 = .ok (.bipush 10, 2) := by decide +kernel
theorem dX12_fog_227 : decode cX12_fog 227 = .ok (.idiv, 1) := by decide +kernel
theorem dX12_fog_228 : decode cX12_fog 228 = .ok (.irem, 1) := by decide +kernel
theorem dX12_fog_229 : decode cX12_fog 229 = .ok (.ifCond .ne 15, 3) := by decide +kernel
theorem dX12_fog_232 : decode cX12_fog 232 = .ok (.iload 13, 2) := by decide +kernel
theorem dX12_fog_234 : decode cX12_fog 234 = .ok (.iload_n 3, 1) := by decide +kernel
theorem dX12_fog_235 : decode cX12_fog 235 = .ok (.bipush 10, 2) := by decide +kernel
theorem dX12_fog_237 : decode cX12_fog 237 = .ok (.irem, 1) := by decide +kernel
theorem dX12_fog_238 : decode cX12_fog 238 = .ok (.if_icmp .gt 6, 3) := by decide +kernel
theorem dX12_fog_241 : decode cX12_fog 241 = .ok (.iconst 0, 1) := by decide +kernel
theorem dX12_fog_242 : decode cX12_fog 242 = .ok (.istore 8, 2) := by decide +kernel
theorem dX12_fog_244 : decode cX12_fog 244 = .ok (.iinc 12 1, 3) := by decide +kernel
theorem dX12_fog_247 : decode cX12_fog 247 = .ok (.goto (-145), 3) := by decide +kernel
theorem dX12_fog_250 : decode cX12_fog 250 = .ok (.iload 4, 2) := by decide +kernel
theorem dX12_fog_252 : decode cX12_fog 252 = .ok (.ifCond .ne 8, 3) := by decide +kernel
theorem dX12_fog_255 : decode cX12_fog 255 = .ok (.iload 9, 2) := by decide +kernel
theorem dX12_fog_257 : decode cX12_fog 257 = .ok (.goto 24, 3) := by decide +kernel
theorem dX12_fog_260 : decode cX12_fog 260 = .ok (.iload 4, 2) := by decide +kernel
theorem dX12_fog_262 : decode cX12_fog 262 = .ok (.iconst 1, 1) := by decide +kernel
theorem dX12_fog_263 : decode cX12_fog 263 = .ok (.if_icmp .ne 8, 3) := by decide +kernel
theorem dX12_fog_266 : decode cX12_fog 266 = .ok (.iload 10, 2) := by decide +kernel
theorem dX12_fog_268 : decode cX12_fog 268 = .ok (.goto 13, 3) := by decide +kernel
theorem dX12_fog_271 : decode cX12_fog 271 = .ok (.iload 11, 2) := by decide +kernel
theorem dX12_fog_273 : decode cX12_fog 273 = .ok (.ifCond .eq 7, 3) := by decide +kernel
theorem dX12_fog_276 : decode cX12_fog 276 = .ok (.iconst 1, 1) := by decide +kernel
theorem dX12_fog_277 : decode cX12_fog 277 = .ok (.goto 4, 3) := by decide +kernel
theorem dX12_fog_280 : decode cX12_fog 280 = .ok (.iconst 0, 1) := by decide +kernel
theorem dX12_fog_281 : decode cX12_fog 281 = .ok (.ireturn, 1) := by decide +kernel
theorem dX12_plain_0 : decode cX12_plain 0 = .ok (.iload_n 0, 1) := by decide +kernel
theorem dX12_plain_1 : decode cX12_plain 1 = .ok (.ifCond .ge 8, 3) := by decide +kernel
theorem dX12_plain_4 : decode cX12_plain 4 = .ok (.iload_n 0, 1) := by decide +kernel
theorem dX12_plain_5 : decode cX12_plain 5 = .ok (.ineg, 1) := by decide +kernel
theorem dX12_plain_6 : decode cX12_plain 6 = .ok (.goto 4, 3) := by decide +kernel
theorem dX12_plain_9 : decode cX12_plain 9 = .ok (.iload_n 0, 1) := by decide +kernel
theorem dX12_plain_10 : decode cX12_plain 10 = .ok (.ireturn, 1) := by decide +kernel
theorem dX12_priceOf_0 : decode cX12_priceOf 0 = .ok (.aload_n 0, 1) := by decide +kernel
theorem dX12_priceOf_1 : decode cX12_priceOf 1 = .ok (.aload_n 0, 1) := by decide +kernel
theorem dX12_priceOf_2 : decode cX12_priceOf 2 = .ok (.getfield 332, 3) := by decide +kernel
theorem dX12_priceOf_5 : decode cX12_priceOf 5 = .ok (.iload_n 1, 1) := by decide +kernel
theorem dX12_priceOf_6 : decode cX12_priceOf 6 = .ok (.iconst 0, 1) := by decide +kernel
theorem dX12_priceOf_7 : decode cX12_priceOf 7 = .ok (.iload_n 2, 1) := by decide +kernel
theorem dX12_priceOf_8 : decode cX12_priceOf 8 = .ok (.iconst 0, 1) := by decide +kernel
theorem dX12_priceOf_9 : decode cX12_priceOf 9 = .ok (.iconst 1, 1) := by decide +kernel
theorem dX12_priceOf_10 : decode cX12_priceOf 10 = .ok (.invokevirtual 335, 3) := by decide +kernel
theorem dX12_priceOf_13 : decode cX12_priceOf 13 = .ok (.iconst 0, 1) := by decide +kernel
theorem dX12_priceOf_14 : decode cX12_priceOf 14 = .ok (.bipush 99, 2) := by decide +kernel
theorem dX12_priceOf_16 : decode cX12_priceOf 16 = .ok (.invokestatic 342, 3) := by decide +kernel
theorem dX12_priceOf_19 : decode cX12_priceOf 19 = .ok (.ireturn, 1) := by decide +kernel
theorem dX12_box_0 : decode cX12_box 0 = .ok (.iload_n 1, 1) := by decide +kernel
theorem dX12_box_1 : decode cX12_box 1 = .ok (.ifCond .lt 57, 3) := by decide +kernel
theorem dX12_box_4 : decode cX12_box 4 = .ok (.iload_n 1, 1) := by decide +kernel
theorem dX12_box_5 : decode cX12_box 5 = .ok (.sipush 1000, 3) := by decide +kernel
theorem dX12_box_8 : decode cX12_box 8 = .ok (.idiv, 1) := by decide +kernel
theorem dX12_box_9 : decode cX12_box 9 = .ok (.sipush 198, 3) := by decide +kernel
theorem dX12_box_12 : decode cX12_box 12 = .ok (.if_icmp .gt 46, 3) := by decide +kernel
theorem dX12_box_15 : decode cX12_box 15 = .ok (.iload_n 1, 1) := by decide +kernel
theorem dX12_box_16 : decode cX12_box 16 = .ok (.sipush 1000, 3) := by decide +kernel
theorem dX12_box_19 : decode cX12_box 19 = .ok (.irem, 1) := by decide +kernel
theorem dX12_box_20 : decode cX12_box 20 = .ok (.sipush 198, 3) := by decide +kernel
theorem dX12_box_23 : decode cX12_box 23 = .ok (.if_icmp .gt 35, 3) := by decide +kernel
theorem dX12_box_26 : decode cX12_box 26 = .ok (.iload_n 2, 1) := by decide +kernel
theorem dX12_box_27 : decode cX12_box 27 = .ok (.i2l, 1) := by decide +kernel
theorem dX12_box_28 : decode cX12_box 28 = .ok (.lconst 0, 1) := by decide +kernel
theorem dX12_box_29 : decode cX12_box 29 = .ok (.ldc2_w 151, 3) := by decide +kernel
theorem dX12_box_32 : decode cX12_box 32 = .ok (.invokestatic 134, 3) := by decide +kernel
theorem dX12_box_35 : decode cX12_box 35 = .ok (.ifCond .eq 23, 3) := by decide +kernel
theorem dX12_box_38 : decode cX12_box 38 = .ok (.iload_n 3, 1) := by decide +kernel
theorem dX12_box_39 : decode cX12_box 39 = .ok (.i2l, 1) := by decide +kernel
theorem dX12_box_40 : decode cX12_box 40 = .ok (.lconst 0, 1) := by decide +kernel
theorem dX12_box_41 : decode cX12_box 41 = .ok (.ldc2_w 397, 3) := by decide +kernel
theorem dX12_box_44 : decode cX12_box 44 = .ok (.invokestatic 134, 3) := by decide +kernel
theorem dX12_box_47 : decode cX12_box 47 = .ok (.ifCond .eq 11, 3) := by decide +kernel
theorem dX12_box_50 : decode cX12_box 50 = .ok (.iload 4, 2) := by decide +kernel
theorem dX12_box_52 : decode cX12_box 52 = .ok (.invokestatic 179, 3) := by decide +kernel
theorem dX12_box_55 : decode cX12_box 55 = .ok (.ifCond .ne 6, 3) := by decide +kernel
theorem dX12_box_58 : decode cX12_box 58 = .ok (.bipush (-2), 2) := by decide +kernel
theorem dX12_box_60 : decode cX12_box 60 = .ok (.ireturn, 1) := by decide +kernel
theorem dX12_box_61 : decode cX12_box 61 = .ok (.aload_n 0, 1) := by decide +kernel
theorem dX12_box_62 : decode cX12_box 62 = .ok (.iconst 1, 1) := by decide +kernel
theorem dX12_box_63 : decode cX12_box 63 = .ok (.iload 4, 2) := by decide +kernel
theorem dX12_box_65 : decode cX12_box 65 = .ok (.invokevirtual 399, 3) := by decide +kernel
theorem dX12_box_68 : decode cX12_box 68 = .ok (.istore 5, 2) := by decide +kernel
theorem dX12_box_70 : decode cX12_box 70 = .ok (.aload_n 0, 1) := by decide +kernel
theorem dX12_box_71 : decode cX12_box 71 = .ok (.iconst 0, 1) := by decide +kernel
theorem dX12_box_72 : decode cX12_box 72 = .ok (.iload 4, 2) := by decide +kernel
theorem dX12_box_74 : decode cX12_box 74 = .ok (.invokevirtual 399, 3) := by decide +kernel
theorem dX12_box_77 : decode cX12_box 77 = .ok (.istore 6, 2) := by decide +kernel
theorem dX12_box_79 : decode cX12_box 79 = .ok (.iconst 0, 1) := by decide +kernel
theorem dX12_box_80 : decode cX12_box 80 = .ok (.istore 7, 2) := by decide +kernel
theorem dX12_box_82 : decode cX12_box 82 = .ok (.iconst 0, 1) := by decide +kernel
theorem dX12_box_83 : decode cX12_box 83 = .ok (.istore 8, 2) := by decide +kernel
theorem dX12_box_85 : decode cX12_box 85 = .ok (.iload 8, 2) := by decide +kernel
theorem dX12_box_87 : decode cX12_box 87 = .ok (.bipush 100, 2) := by decide +kernel
theorem dX12_box_89 : decode cX12_box 89 = .ok (.if_icmp .ge 98, 3) := by decide +kernel
theorem dX12_box_92 : decode cX12_box 92 = .ok (.iconst 0, 1) := by decide +kernel
theorem dX12_box_93 : decode cX12_box 93 = .ok (.istore 9, 2) := by decide +kernel
theorem dX12_box_95 : decode cX12_box 95 = .ok (.iload 9, 2) := by decide +kernel
theorem dX12_box_97 : decode cX12_box 97 = .ok (.bipush 100, 2) := by decide +kernel
theorem dX12_box_99 : decode cX12_box 99 = .ok (.if_icmp .ge 82, 3) := by decide +kernel
theorem dX12_box_102 : decode cX12_box 102 = .ok (.iload 8, 2) := by decide +kernel
theorem dX12_box_104 : decode cX12_box 104 = .ok (.iload 9, 2) := by decide +kernel
theorem dX12_box_106 : decode cX12_box 106 = .ok (.iadd, 1) := by decide +kernel
theorem dX12_box_107 : decode cX12_box 107 = .ok (.iload_n 1, 1) := by decide +kernel
theorem dX12_box_108 : decode cX12_box 108 = .ok (.sipush 1000, 3) := by decide +kernel
theorem dX12_box_111 : decode cX12_box 111 = .ok (.idiv, 1) := by decide +kernel
theorem dX12_box_112 : decode cX12_box 112 = .ok (.isub, 1) := by decide +kernel
theorem dX12_box_113 : decode cX12_box 113 = .ok (.invokestatic 391, 3) := by decide +kernel
theorem dX12_box_116 : decode cX12_box 116 = .ok (.iload_n 2, 1) := by decide +kernel
theorem dX12_box_117 : decode cX12_box 117 = .ok (.if_icmp .gt 25, 3) := by decide +kernel
theorem dX12_box_120 : decode cX12_box 120 = .ok (.iload 8, 2) := by decide +kernel
theorem dX12_box_122 : decode cX12_box 122 = .ok (.iload 9, 2) := by decide +kernel
theorem dX12_box_124 : decode cX12_box 124 = .ok (.iadd, 1) := by decide +kernel
theorem dX12_box_125 : decode cX12_box 125 = .ok (.iload_n 1, 1) := by decide +kernel
theorem dX12_box_126 : decode cX12_box 126 = .ok (.sipush 1000, 3) := by decide +kernel
theorem dX12_box_129 : decode cX12_box 129 = .ok (.irem, 1) := by decide +kernel
theorem dX12_box_130 : decode cX12_box 130 = .ok (.isub, 1) := by decide +kernel
theorem dX12_box_131 : decode cX12_box 131 = .ok (.invokestatic 391, 3) := by decide +kernel
theorem dX12_box_134 : decode cX12_box 134 = .ok (.iload_n 2, 1) := by decide +kernel
theorem dX12_box_135 : decode cX12_box 135 = .ok (.if_icmp .gt 7, 3) := by decide +kernel
theorem dX12_box_138 : decode cX12_box 138 = .ok (.iconst 1, 1) := by decide +kernel
theorem dX12_box_139 : decode cX12_box 139 = .ok (.goto 4, 3) := by decide +kernel
theorem dX12_box_142 : decode cX12_box 142 = .ok (.iconst 0, 1) := by decide +kernel
theorem dX12_box_143 : decode cX12_box 143 = .ok (.istore 10, 2) := by decide +kernel
theorem dX12_box_145 : decode cX12_box 145 = .ok (.iload 7, 2) := by decide +kernel
theorem dX12_box_147 : decode cX12_box 147 = .ok (.iload 10, 2) := by decide +kernel
theorem dX12_box_149 : decode cX12_box 149 = .ok (.ifCond .eq 22, 3) := by decide +kernel
theorem dX12_box_152 : decode cX12_box 152 = .ok (.iload 8, 2) := by decide +kernel
theorem dX12_box_154 : decode cX12_box 154 = .ok (.iload 5, 2) := by decide +kernel
theorem dX12_box_156 : decode cX12_box 156 = .ok (.imul, 1) := by decide +kernel
theorem dX12_box_157 : decode cX12_box 157 = .ok (.iload 9, 2) := by decide +kernel
theorem dX12_box_159 : decode cX12_box 159 = .ok (.iload 6, 2) := by decide +kernel
theorem dX12_box_161 : decode cX12_box 161 = .ok (.imul, 1) := by decide +kernel
theorem dX12_box_162 : decode cX12_box 162 = .ok (.iadd, 1) := by decide +kernel
theorem dX12_box_163 : decode cX12_box 163 = .ok (.iload_n 3, 1) := by decide +kernel
theorem dX12_box_164 : decode cX12_box 164 = .ok (.if_icmp .ne 7, 3) := by decide +kernel
theorem dX12_box_167 : decode cX12_box 167 = .ok (.iconst 1, 1) := by decide +kernel
theorem dX12_box_168 : decode cX12_box 168 = .ok (.goto 4, 3) := by decide +kernel
theorem dX12_box_171 : decode cX12_box 171 = .ok (.iconst 0, 1) := by decide +kernel
theorem dX12_box_172 : decode cX12_box 172 = .ok (.iadd, 1) := by decide +kernel
theorem dX12_box_173 : decode cX12_box 173 = .ok (.istore 7, 2) := by decide +kernel
theorem dX12_box_175 : decode cX12_box 175 = .ok (.iinc 9 1, 3) := by decide +kernel
theorem dX12_box_178 : decode cX12_box 178 = .ok (.goto (-83), 3) := by decide +kernel
theorem dX12_box_181 : decode cX12_box 181 = .ok (.iinc 8 1, 3) := by decide +kernel
theorem dX12_box_184 : decode cX12_box 184 = .ok (.goto (-99), 3) := by decide +kernel
theorem dX12_box_187 : decode cX12_box 187 = .ok (.iload 7, 2) := by decide +kernel
theorem dX12_box_189 : decode cX12_box 189 = .ok (.ireturn, 1) := by decide +kernel
theorem dX12_shares_0 : decode cX12_shares 0 = .ok (.aload_n 0, 1) := by decide +kernel
theorem dX12_shares_1 : decode cX12_shares 1 = .ok (.iload_n 1, 1) := by decide +kernel
theorem dX12_shares_2 : decode cX12_shares 2 = .ok (.invokevirtual 159, 3) := by decide +kernel
theorem dX12_shares_5 : decode cX12_shares 5 = .ok (.ifCond .eq 38, 3) := by decide +kernel
theorem dX12_shares_8 : decode cX12_shares 8 = .ok (.iload_n 2, 1) := by decide +kernel
theorem dX12_shares_9 : decode cX12_shares 9 = .ok (.i2l, 1) := by decide +kernel
theorem dX12_shares_10 : decode cX12_shares 10 = .ok (.lconst 0, 1) := by decide +kernel
theorem dX12_shares_11 : decode cX12_shares 11 = .ok (.ldc2_w 397, 3) := by decide +kernel
theorem dX12_shares_14 : decode cX12_shares 14 = .ok (.invokestatic 134, 3) := by decide +kernel
theorem dX12_shares_17 : decode cX12_shares 17 = .ok (.ifCond .eq 26, 3) := by decide +kernel
theorem dX12_shares_20 : decode cX12_shares 20 = .ok (.iload_n 3, 1) := by decide +kernel
theorem dX12_shares_21 : decode cX12_shares 21 = .ok (.iconst (-1), 1) := by decide +kernel
theorem dX12_shares_22 : decode cX12_shares 22 = .ok (.if_icmp .eq 24, 3) := by decide +kernel
theorem dX12_shares_25 : decode cX12_shares 25 = .ok (.aload_n 0, 1) := by decide +kernel
theorem dX12_shares_26 : decode cX12_shares 26 = .ok (.iload_n 3, 1) := by decide +kernel
theorem dX12_shares_27 : decode cX12_shares 27 = .ok (.invokevirtual 170, 3) := by decide +kernel
theorem dX12_shares_30 : decode cX12_shares 30 = .ok (.ifCond .eq 13, 3) := by decide +kernel
theorem dX12_shares_33 : decode cX12_shares 33 = .ok (.aload_n 0, 1) := by decide +kernel
theorem dX12_shares_34 : decode cX12_shares 34 = .ok (.getfield 44, 3) := by decide +kernel
theorem dX12_shares_37 : decode cX12_shares 37 = .ok (.iload_n 3, 1) := by decide +kernel
theorem dX12_shares_38 : decode cX12_shares 38 = .ok (.iaload, 1) := by decide +kernel
theorem dX12_shares_39 : decode cX12_shares 39 = .ok (.iload_n 1, 1) := by decide +kernel
theorem dX12_shares_40 : decode cX12_shares 40 = .ok (.if_icmp .eq 6, 3) := by decide +kernel
theorem dX12_shares_43 : decode cX12_shares 43 = .ok (.bipush (-2), 2) := by decide +kernel
theorem dX12_shares_45 : decode cX12_shares 45 = .ok (.ireturn, 1) := by decide +kernel
theorem dX12_shares_46 : decode cX12_shares 46 = .ok (.iconst 0, 1) := by decide +kernel
theorem dX12_shares_47 : decode cX12_shares 47 = .ok (.istore 4, 2) := by decide +kernel
theorem dX12_shares_49 : decode cX12_shares 49 = .ok (.iconst 0, 1) := by decide +kernel
theorem dX12_shares_50 : decode cX12_shares 50 = .ok (.istore 5, 2) := by decide +kernel
theorem dX12_shares_52 : decode cX12_shares 52 = .ok (.iload 5, 2) := by decide +kernel
theorem dX12_shares_54 : decode cX12_shares 54 = .ok (.aload_n 0, 1) := by decide +kernel
theorem dX12_shares_55 : decode cX12_shares 55 = .ok (.getfield 138, 3) := by decide +kernel
theorem dX12_shares_58 : decode cX12_shares 58 = .ok (.if_icmp .ge 35, 3) := by decide +kernel
theorem dX12_shares_61 : decode cX12_shares 61 = .ok (.iload 4, 2) := by decide +kernel
theorem dX12_shares_63 : decode cX12_shares 63 = .ok (.aload_n 0, 1) := by decide +kernel
theorem dX12_shares_64 : decode cX12_shares 64 = .ok (.getfield 44, 3) := by decide +kernel
theorem dX12_shares_67 : decode cX12_shares 67 = .ok (.iload 5, 2) := by decide +kernel
theorem dX12_shares_69 : decode cX12_shares 69 = .ok (.iaload, 1) := by decide +kernel
theorem dX12_shares_70 : decode cX12_shares 70 = .ok (.iload_n 1, 1) := by decide +kernel
theorem dX12_shares_71 : decode cX12_shares 71 = .ok (.if_icmp .ne 12, 3) := by decide +kernel
theorem dX12_shares_74 : decode cX12_shares 74 = .ok (.aload_n 0, 1) := by decide +kernel
theorem dX12_shares_75 : decode cX12_shares 75 = .ok (.iload 5, 2) := by decide +kernel
theorem dX12_shares_77 : decode cX12_shares 77 = .ok (.invokevirtual 191, 3) := by decide +kernel
theorem dX12_shares_80 : decode cX12_shares 80 = .ok (.goto 4, 3) := by decide +kernel
theorem dX12_shares_83 : decode cX12_shares 83 = .ok (.iconst 0, 1) := by decide +kernel
theorem dX12_shares_84 : decode cX12_shares 84 = .ok (.iadd, 1) := by decide +kernel
theorem dX12_shares_85 : decode cX12_shares 85 = .ok (.istore 4, 2) := by decide +kernel
theorem dX12_shares_87 : decode cX12_shares 87 = .ok (.iinc 5 1, 3) := by decide +kernel
theorem dX12_shares_90 : decode cX12_shares 90 = .ok (.goto (-38), 3) := by decide +kernel
theorem dX12_shares_93 : decode cX12_shares 93 = .ok (.iload_n 3, 1) := by decide +kernel
theorem dX12_shares_94 : decode cX12_shares 94 = .ok (.iconst (-1), 1) := by decide +kernel
theorem dX12_shares_95 : decode cX12_shares 95 = .ok (.if_icmp .eq 14, 3) := by decide +kernel
theorem dX12_shares_98 : decode cX12_shares 98 = .ok (.iload_n 2, 1) := by decide +kernel
theorem dX12_shares_99 : decode cX12_shares 99 = .ok (.aload_n 0, 1) := by decide +kernel
theorem dX12_shares_100 : decode cX12_shares 100 = .ok (.iload_n 3, 1) := by decide +kernel
theorem dX12_shares_101 : decode cX12_shares 101 = .ok (.invokevirtual 191, 3) := by decide +kernel
theorem dX12_shares_104 : decode cX12_shares 104 = .ok (.imul, 1) := by decide +kernel
theorem dX12_shares_105 : decode cX12_shares 105 = .ok (.iload 4, 2) := by decide +kernel
theorem dX12_shares_107 : decode cX12_shares 107 = .ok (.idiv, 1) := by decide +kernel
theorem dX12_shares_108 : decode cX12_shares 108 = .ok (.ireturn, 1) := by decide +kernel
theorem dX12_shares_109 : decode cX12_shares 109 = .ok (.iload_n 2, 1) := by decide +kernel
theorem dX12_shares_110 : decode cX12_shares 110 = .ok (.istore 5, 2) := by decide +kernel
theorem dX12_shares_112 : decode cX12_shares 112 = .ok (.iconst 0, 1) := by decide +kernel
theorem dX12_shares_113 : decode cX12_shares 113 = .ok (.istore 6, 2) := by decide +kernel
theorem dX12_shares_115 : decode cX12_shares 115 = .ok (.iload 6, 2) := by decide +kernel
theorem dX12_shares_117 : decode cX12_shares 117 = .ok (.aload_n 0, 1) := by decide +kernel
theorem dX12_shares_118 : decode cX12_shares 118 = .ok (.getfield 138, 3) := by decide +kernel
theorem dX12_shares_121 : decode cX12_shares 121 = .ok (.if_icmp .ge 40, 3) := by decide +kernel
theorem dX12_shares_124 : decode cX12_shares 124 = .ok (.iload 5, 2) := by decide +kernel
theorem dX12_shares_126 : decode cX12_shares 126 = .ok (.aload_n 0, 1) := by decide +kernel
theorem dX12_shares_127 : decode cX12_shares 127 = .ok (.getfield 44, 3) := by decide +kernel
theorem dX12_shares_130 : decode cX12_shares 130 = .ok (.iload 6, 2) := by decide +kernel
theorem dX12_shares_132 : decode cX12_shares 132 = .ok (.iaload, 1) := by decide +kernel
theorem dX12_shares_133 : decode cX12_shares 133 = .ok (.iload_n 1, 1) := by decide +kernel
theorem dX12_shares_134 : decode cX12_shares 134 = .ok (.if_icmp .ne 17, 3) := by decide +kernel
theorem dX12_shares_137 : decode cX12_shares 137 = .ok (.iload_n 2, 1) := by decide +kernel
theorem dX12_shares_138 : decode cX12_shares 138 = .ok (.aload_n 0, 1) := by decide +kernel
theorem dX12_shares_139 : decode cX12_shares 139 = .ok (.iload 6, 2) := by decide +kernel
theorem dX12_shares_141 : decode cX12_shares 141 = .ok (.invokevirtual 191, 3) := by decide +kernel
theorem dX12_shares_144 : decode cX12_shares 144 = .ok (.imul, 1) := by decide +kernel
theorem dX12_shares_145 : decode cX12_shares 145 = .ok (.iload 4, 2) := by decide +kernel
theorem dX12_shares_147 : decode cX12_shares 147 = .ok (.idiv, 1) := by decide +kernel
theorem dX12_shares_148 : decode cX12_shares 148 = .ok (.goto 4, 3) := by decide +kernel
theorem dX12_shares_151 : decode cX12_shares 151 = .ok (.iconst 0, 1) := by decide +kernel
theorem dX12_shares_152 : decode cX12_shares 152 = .ok (.isub, 1) := by decide +kernel
theorem dX12_shares_153 : decode cX12_shares 153 = .ok (.istore 5, 2) := by decide +kernel
theorem dX12_shares_155 : decode cX12_shares 155 = .ok (.iinc 6 1, 3) := by decide +kernel
theorem dX12_shares_158 : decode cX12_shares 158 = .ok (.goto (-43), 3) := by decide +kernel
theorem dX12_shares_161 : decode cX12_shares 161 = .ok (.iload 5, 2) := by decide +kernel
theorem dX12_shares_163 : decode cX12_shares 163 = .ok (.ireturn, 1) := by decide +kernel
theorem dX12_bridge_0 : decode cX12_bridge 0 = .ok (.aload_n 0, 1) := by decide +kernel
theorem dX12_bridge_1 : decode cX12_bridge 1 = .ok (.iload_n 1, 1) := by decide +kernel
theorem dX12_bridge_2 : decode cX12_bridge 2 = .ok (.invokevirtual 159, 3) := by decide +kernel
theorem dX12_bridge_5 : decode cX12_bridge 5 = .ok (.ifCond .eq 32, 3) := by decide +kernel
theorem dX12_bridge_8 : decode cX12_bridge 8 = .ok (.iload_n 2, 1) := by decide +kernel
theorem dX12_bridge_9 : decode cX12_bridge 9 = .ok (.i2l, 1) := by decide +kernel
theorem dX12_bridge_10 : decode cX12_bridge 10 = .ok (.lconst 0, 1) := by decide +kernel
theorem dX12_bridge_11 : decode cX12_bridge 11 = .ok (.ldc2_w 402, 3) := by decide +kernel
theorem dX12_bridge_14 : decode cX12_bridge 14 = .ok (.invokestatic 134, 3) := by decide +kernel
theorem dX12_bridge_17 : decode cX12_bridge 17 = .ok (.ifCond .eq 20, 3) := by decide +kernel
theorem dX12_bridge_20 : decode cX12_bridge 20 = .ok (.aload_n 0, 1) := by decide +kernel
theorem dX12_bridge_21 : decode cX12_bridge 21 = .ok (.getfield 32, 3) := by decide +kernel
theorem dX12_bridge_24 : decode cX12_bridge 24 = .ok (.iload_n 1, 1) := by decide +kernel
theorem dX12_bridge_25 : decode cX12_bridge 25 = .ok (.iaload, 1) := by decide +kernel
theorem dX12_bridge_26 : decode cX12_bridge 26 = .ok (.bipush 100, 2) := by decide +kernel
theorem dX12_bridge_28 : decode cX12_bridge 28 = .ok (.iload_n 2, 1) := by decide +kernel
theorem dX12_bridge_29 : decode cX12_bridge 29 = .ok (.isub, 1) := by decide +kernel
theorem dX12_bridge_30 : decode cX12_bridge 30 = .ok (.imul, 1) := by decide +kernel
theorem dX12_bridge_31 : decode cX12_bridge 31 = .ok (.bipush 100, 2) := by decide +kernel
theorem dX12_bridge_33 : decode cX12_bridge 33 = .ok (.idiv, 1) := by decide +kernel
theorem dX12_bridge_34 : decode cX12_bridge 34 = .ok (.goto 5, 3) := by decide +kernel
theorem dX12_bridge_37 : decode cX12_bridge 37 = .ok (.bipush (-2), 2) := by decide +kernel
theorem dX12_bridge_39 : decode cX12_bridge 39 = .ok (.ireturn, 1) := by decide +kernel
theorem dX12_image_0 : decode cX12_image 0 = .ok (.aload_n 0, 1) := by decide +kernel
theorem dX12_image_1 : decode cX12_image 1 = .ok (.iconst 1, 1) := by decide +kernel
theorem dX12_image_2 : decode cX12_image 2 = .ok (.putfield 404, 3) := by decide +kernel
theorem dX12_image_5 : decode cX12_image 5 = .ok (.aload_n 0, 1) := by decide +kernel
theorem dX12_image_6 : decode cX12_image 6 = .ok (.aload_n 0, 1) := by decide +kernel
theorem dX12_image_7 : decode cX12_image 7 = .ok (.getfield 131, 3) := by decide +kernel
theorem dX12_image_10 : decode cX12_image 10 = .ok (.putfield 407, 3) := by decide +kernel
theorem dX12_image_13 : decode cX12_image 13 = .ok (.aload_n 0, 1) := by decide +kernel
theorem dX12_image_14 : decode cX12_image 14 = .ok (.aload_n 0, 1) := by decide +kernel
theorem dX12_image_15 : decode cX12_image 15 = .ok (.getfield 138, 3) := by decide +kernel
theorem dX12_image_18 : decode cX12_image 18 = .ok (.putfield 410, 3) := by decide +kernel
theorem dX12_image_21 : decode cX12_image 21 = .ok (.aload_n 0, 1) := by decide +kernel
theorem dX12_image_22 : decode cX12_image 22 = .ok (.aload_n 0, 1) := by decide +kernel
theorem dX12_image_23 : decode cX12_image 23 = .ok (.getfield 153, 3) := by decide +kernel
theorem dX12_image_26 : decode cX12_image 26 = .ok (.putfield 413, 3) := by decide +kernel
theorem dX12_image_29 : decode cX12_image 29 = .ok (.aload_n 0, 1) := by decide +kernel
theorem dX12_image_30 : decode cX12_image 30 = .ok (.aload_n 0, 1) := by decide +kernel
theorem dX12_image_31 : decode cX12_image 31 = .ok (.getfield 156, 3) := by decide +kernel
theorem dX12_image_34 : decode cX12_image 34 = .ok (.putfield 416, 3) := by decide +kernel
theorem dX12_image_37 : decode cX12_image 37 = .ok (.aload_n 0, 1) := by decide +kernel
theorem dX12_image_38 : decode cX12_image 38 = .ok (.aload_n 0, 1) := by decide +kernel
theorem dX12_image_39 : decode cX12_image 39 = .ok (.getfield 332, 3) := by decide +kernel
theorem dX12_image_42 : decode cX12_image 42 = .ok (.putfield 419, 3) := by decide +kernel
theorem dX12_image_45 : decode cX12_image 45 = .ok (.iconst 0, 1) := by decide +kernel
theorem dX12_image_46 : decode cX12_image 46 = .ok (.istore_n 1, 1) := by decide +kernel
theorem dX12_image_47 : decode cX12_image 47 = .ok (.iload_n 1, 1) := by decide +kernel
theorem dX12_image_48 : decode cX12_image 48 = .ok (.aload_n 0, 1) := by decide +kernel
theorem dX12_image_49 : decode cX12_image 49 = .ok (.getfield 131, 3) := by decide +kernel
theorem dX12_image_52 : decode cX12_image 52 = .ok (.if_icmp .ge 33, 3) := by decide +kernel
theorem dX12_image_55 : decode cX12_image 55 = .ok (.aload_n 0, 1) := by decide +kernel
theorem dX12_image_56 : decode cX12_image 56 = .ok (.getfield 80, 3) := by decide +kernel
theorem dX12_image_59 : decode cX12_image 59 = .ok (.iload_n 1, 1) := by decide +kernel
theorem dX12_image_60 : decode cX12_image 60 = .ok (.aload_n 0, 1) := by decide +kernel
theorem dX12_image_61 : decode cX12_image 61 = .ok (.getfield 29, 3) := by decide +kernel
theorem dX12_image_64 : decode cX12_image 64 = .ok (.iload_n 1, 1) := by decide +kernel
theorem dX12_image_65 : decode cX12_image 65 = .ok (.iaload, 1) := by decide +kernel
theorem dX12_image_66 : decode cX12_image 66 = .ok (.iastore, 1) := by decide +kernel
theorem dX12_image_67 : decode cX12_image 67 = .ok (.aload_n 0, 1) := by decide +kernel
theorem dX12_image_68 : decode cX12_image 68 = .ok (.getfield 83, 3) := by decide +kernel
theorem dX12_image_71 : decode cX12_image 71 = .ok (.iload_n 1, 1) := by decide +kernel
theorem dX12_image_72 : decode cX12_image 72 = .ok (.aload_n 0, 1) := by decide +kernel
theorem dX12_image_73 : decode cX12_image 73 = .ok (.getfield 32, 3) := by decide +kernel
theorem dX12_image_76 : decode cX12_image 76 = .ok (.iload_n 1, 1) := by decide +kernel
theorem dX12_image_77 : decode cX12_image 77 = .ok (.iaload, 1) := by decide +kernel
theorem dX12_image_78 : decode cX12_image 78 = .ok (.iastore, 1) := by decide +kernel
theorem dX12_image_79 : decode cX12_image 79 = .ok (.iinc 1 1, 3) := by decide +kernel
theorem dX12_image_82 : decode cX12_image 82 = .ok (.goto (-35), 3) := by decide +kernel
theorem dX12_image_85 : decode cX12_image 85 = .ok (.iconst 0, 1) := by decide +kernel
theorem dX12_image_86 : decode cX12_image 86 = .ok (.istore_n 1, 1) := by decide +kernel
theorem dX12_image_87 : decode cX12_image 87 = .ok (.iload_n 1, 1) := by decide +kernel
theorem dX12_image_88 : decode cX12_image 88 = .ok (.aload_n 0, 1) := by decide +kernel
theorem dX12_image_89 : decode cX12_image 89 = .ok (.getfield 138, 3) := by decide +kernel
theorem dX12_image_92 : decode cX12_image 92 = .ok (.if_icmp .ge 33, 3) := by decide +kernel
theorem dX12_image_95 : decode cX12_image 95 = .ok (.aload_n 0, 1) := by decide +kernel
theorem dX12_image_96 : decode cX12_image 96 = .ok (.getfield 86, 3) := by decide +kernel
theorem dX12_image_99 : decode cX12_image 99 = .ok (.iload_n 1, 1) := by decide +kernel
theorem dX12_image_100 : decode cX12_image 100 = .ok (.aload_n 0, 1) := by decide +kernel
theorem dX12_image_101 : decode cX12_image 101 = .ok (.getfield 50, 3) := by decide +kernel
theorem dX12_image_104 : decode cX12_image 104 = .ok (.iload_n 1, 1) := by decide +kernel
theorem dX12_image_105 : decode cX12_image 105 = .ok (.iaload, 1) := by decide +kernel
theorem dX12_image_106 : decode cX12_image 106 = .ok (.iastore, 1) := by decide +kernel
theorem dX12_image_107 : decode cX12_image 107 = .ok (.aload_n 0, 1) := by decide +kernel
theorem dX12_image_108 : decode cX12_image 108 = .ok (.getfield 89, 3) := by decide +kernel
theorem dX12_image_111 : decode cX12_image 111 = .ok (.iload_n 1, 1) := by decide +kernel
theorem dX12_image_112 : decode cX12_image 112 = .ok (.aload_n 0, 1) := by decide +kernel
theorem dX12_image_113 : decode cX12_image 113 = .ok (.getfield 53, 3) := by decide +kernel
theorem dX12_image_116 : decode cX12_image 116 = .ok (.iload_n 1, 1) := by decide +kernel
theorem dX12_image_117 : decode cX12_image 117 = .ok (.iaload, 1) := by decide +kernel
theorem dX12_image_118 : decode cX12_image 118 = .ok (.iastore, 1) := by decide +kernel
theorem dX12_image_119 : decode cX12_image 119 = .ok (.iinc 1 1, 3) := by decide +kernel
theorem dX12_image_122 : decode cX12_image 122 = .ok (.goto (-35), 3) := by decide +kernel
theorem dX12_image_125 : decode cX12_image 125 = .ok (.iconst 0, 1) := by decide +kernel
theorem dX12_image_126 : decode cX12_image 126 = .ok (.istore_n 1, 1) := by decide +kernel
theorem dX12_image_127 : decode cX12_image 127 = .ok (.iload_n 1, 1) := by decide +kernel
theorem dX12_image_128 : decode cX12_image 128 = .ok (.bipush 100, 2) := by decide +kernel
theorem dX12_image_130 : decode cX12_image 130 = .ok (.if_icmp .ge 21, 3) := by decide +kernel
theorem dX12_image_133 : decode cX12_image 133 = .ok (.aload_n 0, 1) := by decide +kernel
theorem dX12_image_134 : decode cX12_image 134 = .ok (.getfield 92, 3) := by decide +kernel
theorem dX12_image_137 : decode cX12_image 137 = .ok (.iload_n 1, 1) := by decide +kernel
theorem dX12_image_138 : decode cX12_image 138 = .ok (.aload_n 0, 1) := by decide +kernel
theorem dX12_image_139 : decode cX12_image 139 = .ok (.getfield 71, 3) := by decide +kernel
theorem dX12_image_142 : decode cX12_image 142 = .ok (.iload_n 1, 1) := by decide +kernel
theorem dX12_image_143 : decode cX12_image 143 = .ok (.iaload, 1) := by decide +kernel
theorem dX12_image_144 : decode cX12_image 144 = .ok (.iastore, 1) := by decide +kernel
theorem dX12_image_145 : decode cX12_image 145 = .ok (.iinc 1 1, 3) := by decide +kernel
theorem dX12_image_148 : decode cX12_image 148 = .ok (.goto (-21), 3) := by decide +kernel
theorem dX12_image_151 : decode cX12_image 151 = .ok (.aload_n 0, 1) := by decide +kernel
theorem dX12_image_152 : decode cX12_image 152 = .ok (.getfield 138, 3) := by decide +kernel
theorem dX12_image_155 : decode cX12_image 155 = .ok (.ireturn, 1) := by decide +kernel
theorem dX12_back_0 : decode cX12_back 0 = .ok (.aload_n 0, 1) := by decide +kernel
theorem dX12_back_1 : decode cX12_back 1 = .ok (.getfield 404, 3) := by decide +kernel
theorem dX12_back_4 : decode cX12_back 4 = .ok (.ifCond .ne 6, 3) := by decide +kernel
theorem dX12_back_7 : decode cX12_back 7 = .ok (.bipush (-3), 2) := by decide +kernel
theorem dX12_back_9 : decode cX12_back 9 = .ok (.ireturn, 1) := by decide +kernel
theorem dX12_back_10 : decode cX12_back 10 = .ok (.aload_n 0, 1) := by decide +kernel
theorem dX12_back_11 : decode cX12_back 11 = .ok (.aload_n 0, 1) := by decide +kernel
theorem dX12_back_12 : decode cX12_back 12 = .ok (.getfield 413, 3) := by decide +kernel
theorem dX12_back_15 : decode cX12_back 15 = .ok (.putfield 153, 3) := by decide +kernel
theorem dX12_back_18 : decode cX12_back 18 = .ok (.aload_n 0, 1) := by decide +kernel
theorem dX12_back_19 : decode cX12_back 19 = .ok (.aload_n 0, 1) := by decide +kernel
theorem dX12_back_20 : decode cX12_back 20 = .ok (.getfield 416, 3) := by decide +kernel
theorem dX12_back_23 : decode cX12_back 23 = .ok (.putfield 156, 3) := by decide +kernel
theorem dX12_back_26 : decode cX12_back 26 = .ok (.aload_n 0, 1) := by decide +kernel
theorem dX12_back_27 : decode cX12_back 27 = .ok (.aload_n 0, 1) := by decide +kernel
theorem dX12_back_28 : decode cX12_back 28 = .ok (.getfield 419, 3) := by decide +kernel
theorem dX12_back_31 : decode cX12_back 31 = .ok (.putfield 332, 3) := by decide +kernel
theorem dX12_back_34 : decode cX12_back 34 = .ok (.iconst 0, 1) := by decide +kernel
theorem dX12_back_35 : decode cX12_back 35 = .ok (.istore_n 1, 1) := by decide +kernel
theorem dX12_back_36 : decode cX12_back 36 = .ok (.iload_n 1, 1) := by decide +kernel
theorem dX12_back_37 : decode cX12_back 37 = .ok (.aload_n 0, 1) := by decide +kernel
theorem dX12_back_38 : decode cX12_back 38 = .ok (.getfield 407, 3) := by decide +kernel
theorem dX12_back_41 : decode cX12_back 41 = .ok (.if_icmp .ge 33, 3) := by decide +kernel
theorem dX12_back_44 : decode cX12_back 44 = .ok (.aload_n 0, 1) := by decide +kernel
theorem dX12_back_45 : decode cX12_back 45 = .ok (.getfield 29, 3) := by decide +kernel
theorem dX12_back_48 : decode cX12_back 48 = .ok (.iload_n 1, 1) := by decide +kernel
theorem dX12_back_49 : decode cX12_back 49 = .ok (.aload_n 0, 1) := by decide +kernel
theorem dX12_back_50 : decode cX12_back 50 = .ok (.getfield 80, 3) := by decide +kernel
theorem dX12_back_53 : decode cX12_back 53 = .ok (.iload_n 1, 1) := by decide +kernel
theorem dX12_back_54 : decode cX12_back 54 = .ok (.iaload, 1) := by decide +kernel
theorem dX12_back_55 : decode cX12_back 55 = .ok (.iastore, 1) := by decide +kernel
theorem dX12_back_56 : decode cX12_back 56 = .ok (.aload_n 0, 1) := by decide +kernel
theorem dX12_back_57 : decode cX12_back 57 = .ok (.getfield 32, 3) := by decide +kernel
theorem dX12_back_60 : decode cX12_back 60 = .ok (.iload_n 1, 1) := by decide +kernel
theorem dX12_back_61 : decode cX12_back 61 = .ok (.aload_n 0, 1) := by decide +kernel
theorem dX12_back_62 : decode cX12_back 62 = .ok (.getfield 83, 3) := by decide +kernel
theorem dX12_back_65 : decode cX12_back 65 = .ok (.iload_n 1, 1) := by decide +kernel
theorem dX12_back_66 : decode cX12_back 66 = .ok (.iaload, 1) := by decide +kernel
theorem dX12_back_67 : decode cX12_back 67 = .ok (.iastore, 1) := by decide +kernel
theorem dX12_back_68 : decode cX12_back 68 = .ok (.iinc 1 1, 3) := by decide +kernel
theorem dX12_back_71 : decode cX12_back 71 = .ok (.goto (-35), 3) := by decide +kernel
theorem dX12_back_74 : decode cX12_back 74 = .ok (.iconst 0, 1) := by decide +kernel
theorem dX12_back_75 : decode cX12_back 75 = .ok (.istore_n 1, 1) := by decide +kernel
theorem dX12_back_76 : decode cX12_back 76 = .ok (.iload_n 1, 1) := by decide +kernel
theorem dX12_back_77 : decode cX12_back 77 = .ok (.aload_n 0, 1) := by decide +kernel
theorem dX12_back_78 : decode cX12_back 78 = .ok (.getfield 410, 3) := by decide +kernel
theorem dX12_back_81 : decode cX12_back 81 = .ok (.if_icmp .ge 33, 3) := by decide +kernel
theorem dX12_back_84 : decode cX12_back 84 = .ok (.aload_n 0, 1) := by decide +kernel
theorem dX12_back_85 : decode cX12_back 85 = .ok (.getfield 50, 3) := by decide +kernel
theorem dX12_back_88 : decode cX12_back 88 = .ok (.iload_n 1, 1) := by decide +kernel
theorem dX12_back_89 : decode cX12_back 89 = .ok (.aload_n 0, 1) := by decide +kernel
theorem dX12_back_90 : decode cX12_back 90 = .ok (.getfield 86, 3) := by decide +kernel
theorem dX12_back_93 : decode cX12_back 93 = .ok (.iload_n 1, 1) := by decide +kernel
theorem dX12_back_94 : decode cX12_back 94 = .ok (.iaload, 1) := by decide +kernel
theorem dX12_back_95 : decode cX12_back 95 = .ok (.iastore, 1) := by decide +kernel
theorem dX12_back_96 : decode cX12_back 96 = .ok (.aload_n 0, 1) := by decide +kernel
theorem dX12_back_97 : decode cX12_back 97 = .ok (.getfield 53, 3) := by decide +kernel
theorem dX12_back_100 : decode cX12_back 100 = .ok (.iload_n 1, 1) := by decide +kernel
theorem dX12_back_101 : decode cX12_back 101 = .ok (.aload_n 0, 1) := by decide +kernel
theorem dX12_back_102 : decode cX12_back 102 = .ok (.getfield 89, 3) := by decide +kernel
theorem dX12_back_105 : decode cX12_back 105 = .ok (.iload_n 1, 1) := by decide +kernel
theorem dX12_back_106 : decode cX12_back 106 = .ok (.iaload, 1) := by decide +kernel
theorem dX12_back_107 : decode cX12_back 107 = .ok (.iastore, 1) := by decide +kernel
theorem dX12_back_108 : decode cX12_back 108 = .ok (.iinc 1 1, 3) := by decide +kernel
theorem dX12_back_111 : decode cX12_back 111 = .ok (.goto (-35), 3) := by decide +kernel
theorem dX12_back_114 : decode cX12_back 114 = .ok (.iconst 0, 1) := by decide +kernel
theorem dX12_back_115 : decode cX12_back 115 = .ok (.istore_n 1, 1) := by decide +kernel
theorem dX12_back_116 : decode cX12_back 116 = .ok (.iload_n 1, 1) := by decide +kernel
theorem dX12_back_117 : decode cX12_back 117 = .ok (.bipush 100, 2) := by decide +kernel
theorem dX12_back_119 : decode cX12_back 119 = .ok (.if_icmp .ge 21, 3) := by decide +kernel
theorem dX12_back_122 : decode cX12_back 122 = .ok (.aload_n 0, 1) := by decide +kernel
theorem dX12_back_123 : decode cX12_back 123 = .ok (.getfield 71, 3) := by decide +kernel
theorem dX12_back_126 : decode cX12_back 126 = .ok (.iload_n 1, 1) := by decide +kernel
theorem dX12_back_127 : decode cX12_back 127 = .ok (.aload_n 0, 1) := by decide +kernel
theorem dX12_back_128 : decode cX12_back 128 = .ok (.getfield 92, 3) := by decide +kernel
theorem dX12_back_131 : decode cX12_back 131 = .ok (.iload_n 1, 1) := by decide +kernel
theorem dX12_back_132 : decode cX12_back 132 = .ok (.iaload, 1) := by decide +kernel
theorem dX12_back_133 : decode cX12_back 133 = .ok (.iastore, 1) := by decide +kernel
theorem dX12_back_134 : decode cX12_back 134 = .ok (.iinc 1 1, 3) := by decide +kernel
theorem dX12_back_137 : decode cX12_back 137 = .ok (.goto (-21), 3) := by decide +kernel
theorem dX12_back_140 : decode cX12_back 140 = .ok (.aload_n 0, 1) := by decide +kernel
theorem dX12_back_141 : decode cX12_back 141 = .ok (.getfield 138, 3) := by decide +kernel
theorem dX12_back_144 : decode cX12_back 144 = .ok (.ireturn, 1) := by decide +kernel
theorem dX12_count_0 : decode cX12_count 0 = .ok (.iconst 0, 1) := by decide +kernel
theorem dX12_count_1 : decode cX12_count 1 = .ok (.istore_n 2, 1) := by decide +kernel
theorem dX12_count_2 : decode cX12_count 2 = .ok (.iload_n 1, 1) := by decide +kernel
theorem dX12_count_3 : decode cX12_count 3 = .ok (.tableswitch 151 0 7 #[45, 50, 55, 82, 109, 136, 141, 146], 45) := by decide +kernel
theorem dX12_count_48 : decode cX12_count 48 = .ok (.aload_n 0, 1) := by decide +kernel
theorem dX12_count_49 : decode cX12_count 49 = .ok (.getfield 131, 3) := by decide +kernel
theorem dX12_count_52 : decode cX12_count 52 = .ok (.ireturn, 1) := by decide +kernel
theorem dX12_count_53 : decode cX12_count 53 = .ok (.aload_n 0, 1) := by decide +kernel
theorem dX12_count_54 : decode cX12_count 54 = .ok (.getfield 138, 3) := by decide +kernel
theorem dX12_count_57 : decode cX12_count 57 = .ok (.ireturn, 1) := by decide +kernel
theorem dX12_count_58 : decode cX12_count 58 = .ok (.iconst 0, 1) := by decide +kernel
theorem dX12_count_59 : decode cX12_count 59 = .ok (.istore_n 3, 1) := by decide +kernel
theorem dX12_count_60 : decode cX12_count 60 = .ok (.iload_n 3, 1) := by decide +kernel
theorem dX12_count_61 : decode cX12_count 61 = .ok (.aload_n 0, 1) := by decide +kernel
theorem dX12_count_62 : decode cX12_count 62 = .ok (.getfield 131, 3) := by decide +kernel
theorem dX12_count_65 : decode cX12_count 65 = .ok (.if_icmp .ge 18, 3) := by decide +kernel
theorem dX12_count_68 : decode cX12_count 68 = .ok (.iload_n 2, 1) := by decide +kernel
theorem dX12_count_69 : decode cX12_count 69 = .ok (.aload_n 0, 1) := by decide +kernel
theorem dX12_count_70 : decode cX12_count 70 = .ok (.getfield 29, 3) := by decide +kernel
theorem dX12_count_73 : decode cX12_count 73 = .ok (.iload_n 3, 1) := by decide +kernel
theorem dX12_count_74 : decode cX12_count 74 = .ok (.iaload, 1) := by decide +kernel
theorem dX12_count_75 : decode cX12_count 75 = .ok (.iadd, 1) := by decide +kernel
theorem dX12_count_76 : decode cX12_count 76 = .ok (.istore_n 2, 1) := by decide +kernel
theorem dX12_count_77 : decode cX12_count 77 = .ok (.iinc 3 1, 3) := by decide +kernel
theorem dX12_count_80 : decode cX12_count 80 = .ok (.goto (-20), 3) := by decide +kernel
theorem dX12_count_83 : decode cX12_count 83 = .ok (.iload_n 2, 1) := by decide +kernel
theorem dX12_count_84 : decode cX12_count 84 = .ok (.ireturn, 1) := by decide +kernel
theorem dX12_count_85 : decode cX12_count 85 = .ok (.iconst 0, 1) := by decide +kernel
theorem dX12_count_86 : decode cX12_count 86 = .ok (.istore_n 3, 1) := by decide +kernel
theorem dX12_count_87 : decode cX12_count 87 = .ok (.iload_n 3, 1) := by decide +kernel
theorem dX12_count_88 : decode cX12_count 88 = .ok (.aload_n 0, 1) := by decide +kernel
theorem dX12_count_89 : decode cX12_count 89 = .ok (.getfield 138, 3) := by decide +kernel
theorem dX12_count_92 : decode cX12_count 92 = .ok (.if_icmp .ge 18, 3) := by decide +kernel
theorem dX12_count_95 : decode cX12_count 95 = .ok (.iload_n 2, 1) := by decide +kernel
theorem dX12_count_96 : decode cX12_count 96 = .ok (.aload_n 0, 1) := by decide +kernel
theorem dX12_count_97 : decode cX12_count 97 = .ok (.getfield 50, 3) := by decide +kernel
theorem dX12_count_100 : decode cX12_count 100 = .ok (.iload_n 3, 1) := by decide +kernel
theorem dX12_count_101 : decode cX12_count 101 = .ok (.iaload, 1) := by decide +kernel
theorem dX12_count_102 : decode cX12_count 102 = .ok (.iadd, 1) := by decide +kernel
theorem dX12_count_103 : decode cX12_count 103 = .ok (.istore_n 2, 1) := by decide +kernel
theorem dX12_count_104 : decode cX12_count 104 = .ok (.iinc 3 1, 3) := by decide +kernel
theorem dX12_count_107 : decode cX12_count 107 = .ok (.goto (-20), 3) := by decide +kernel
theorem dX12_count_110 : decode cX12_count 110 = .ok (.iload_n 2, 1) := by decide +kernel
theorem dX12_count_111 : decode cX12_count 111 = .ok (.ireturn, 1) := by decide +kernel
theorem dX12_count_112 : decode cX12_count 112 = .ok (.iconst 0, 1) := by decide +kernel
theorem dX12_count_113 : decode cX12_count 113 = .ok (.istore_n 3, 1) := by decide +kernel
theorem dX12_count_114 : decode cX12_count 114 = .ok (.iload_n 3, 1) := by decide +kernel
theorem dX12_count_115 : decode cX12_count 115 = .ok (.aload_n 0, 1) := by decide +kernel
theorem dX12_count_116 : decode cX12_count 116 = .ok (.getfield 138, 3) := by decide +kernel
theorem dX12_count_119 : decode cX12_count 119 = .ok (.if_icmp .ge 18, 3) := by decide +kernel
theorem dX12_count_122 : decode cX12_count 122 = .ok (.iload_n 2, 1) := by decide +kernel
theorem dX12_count_123 : decode cX12_count 123 = .ok (.aload_n 0, 1) := by decide +kernel
theorem dX12_count_124 : decode cX12_count 124 = .ok (.getfield 53, 3) := by decide +kernel
theorem dX12_count_127 : decode cX12_count 127 = .ok (.iload_n 3, 1) := by decide +kernel
theorem dX12_count_128 : decode cX12_count 128 = .ok (.iaload, 1) := by decide +kernel
theorem dX12_count_129 : decode cX12_count 129 = .ok (.iadd, 1) := by decide +kernel
theorem dX12_count_130 : decode cX12_count 130 = .ok (.istore_n 2, 1) := by decide +kernel
theorem dX12_count_131 : decode cX12_count 131 = .ok (.iinc 3 1, 3) := by decide +kernel
theorem dX12_count_134 : decode cX12_count 134 = .ok (.goto (-20), 3) := by decide +kernel
theorem dX12_count_137 : decode cX12_count 137 = .ok (.iload_n 2, 1) := by decide +kernel
theorem dX12_count_138 : decode cX12_count 138 = .ok (.ireturn, 1) := by decide +kernel
theorem dX12_count_139 : decode cX12_count 139 = .ok (.aload_n 0, 1) := by decide +kernel
theorem dX12_count_140 : decode cX12_count 140 = .ok (.getfield 126, 3) := by decide +kernel
theorem dX12_count_143 : decode cX12_count 143 = .ok (.ireturn, 1) := by decide +kernel
theorem dX12_count_144 : decode cX12_count 144 = .ok (.aload_n 0, 1) := by decide +kernel
theorem dX12_count_145 : decode cX12_count 145 = .ok (.getfield 200, 3) := by decide +kernel
theorem dX12_count_148 : decode cX12_count 148 = .ok (.ireturn, 1) := by decide +kernel
theorem dX12_count_149 : decode cX12_count 149 = .ok (.aload_n 0, 1) := by decide +kernel
theorem dX12_count_150 : decode cX12_count 150 = .ok (.getfield 332, 3) := by decide +kernel
theorem dX12_count_153 : decode cX12_count 153 = .ok (.ireturn, 1) := by decide +kernel
theorem dX12_count_154 : decode cX12_count 154 = .ok (.bipush (-2), 2) := by decide +kernel
theorem dX12_count_156 : decode cX12_count 156 = .ok (.ireturn, 1) := by decide +kernel
theorem dX12_isSheet_0 : decode cX12_isSheet 0 = .ok (.iload_n 0, 1) := by decide +kernel
theorem dX12_isSheet_1 : decode cX12_isSheet 1 = .ok (.i2l, 1) := by decide +kernel
theorem dX12_isSheet_2 : decode cX12_isSheet 2 = .ok (.lconst 0, 1) := by decide +kernel
theorem dX12_isSheet_3 : decode cX12_isSheet 3 = .ok (.ldc2_w 374, 3) := by decide +kernel
theorem dX12_isSheet_6 : decode cX12_isSheet 6 = .ok (.invokestatic 134, 3) := by decide +kernel
theorem dX12_isSheet_9 : decode cX12_isSheet 9 = .ok (.ireturn, 1) := by decide +kernel
theorem dX12_sheet_0 : decode cX12_sheet 0 = .ok (.iload_n 1, 1) := by decide +kernel
theorem dX12_sheet_1 : decode cX12_sheet 1 = .ok (.invokestatic 346, 3) := by decide +kernel
theorem dX12_sheet_4 : decode cX12_sheet 4 = .ok (.ifCond .eq 27, 3) := by decide +kernel
theorem dX12_sheet_7 : decode cX12_sheet 7 = .ok (.iload_n 2, 1) := by decide +kernel
theorem dX12_sheet_8 : decode cX12_sheet 8 = .ok (.i2l, 1) := by decide +kernel
theorem dX12_sheet_9 : decode cX12_sheet 9 = .ok (.ldc2_w 233, 3) := by decide +kernel
theorem dX12_sheet_12 : decode cX12_sheet 12 = .ok (.ldc2_w 381, 3) := by decide +kernel
theorem dX12_sheet_15 : decode cX12_sheet 15 = .ok (.invokestatic 134, 3) := by decide +kernel
theorem dX12_sheet_18 : decode cX12_sheet 18 = .ok (.ifCond .eq 13, 3) := by decide +kernel
theorem dX12_sheet_21 : decode cX12_sheet 21 = .ok (.iload_n 2, 1) := by decide +kernel
theorem dX12_sheet_22 : decode cX12_sheet 22 = .ok (.ifCond .lt 12, 3) := by decide +kernel
theorem dX12_sheet_25 : decode cX12_sheet 25 = .ok (.iload_n 3, 1) := by decide +kernel
theorem dX12_sheet_26 : decode cX12_sheet 26 = .ok (.bipush 40, 2) := by decide +kernel
theorem dX12_sheet_28 : decode cX12_sheet 28 = .ok (.if_icmp .le 6, 3) := by decide +kernel
theorem dX12_sheet_31 : decode cX12_sheet 31 = .ok (.bipush (-2), 2) := by decide +kernel
theorem dX12_sheet_33 : decode cX12_sheet 33 = .ok (.ireturn, 1) := by decide +kernel
theorem dX12_sheet_34 : decode cX12_sheet 34 = .ok (.iload_n 2, 1) := by decide +kernel
theorem dX12_sheet_35 : decode cX12_sheet 35 = .ok (.ifCond .lt 10, 3) := by decide +kernel
theorem dX12_sheet_38 : decode cX12_sheet 38 = .ok (.iload_n 3, 1) := by decide +kernel
theorem dX12_sheet_39 : decode cX12_sheet 39 = .ok (.ifCond .ge 6, 3) := by decide +kernel
theorem dX12_sheet_42 : decode cX12_sheet 42 = .ok (.bipush (-14), 2) := by decide +kernel
theorem dX12_sheet_44 : decode cX12_sheet 44 = .ok (.ireturn, 1) := by decide +kernel
theorem dX12_sheet_45 : decode cX12_sheet 45 = .ok (.aload_n 0, 1) := by decide +kernel
theorem dX12_sheet_46 : decode cX12_sheet 46 = .ok (.getfield 95, 3) := by decide +kernel
theorem dX12_sheet_49 : decode cX12_sheet 49 = .ok (.iload_n 1, 1) := by decide +kernel
theorem dX12_sheet_50 : decode cX12_sheet 50 = .ok (.iload_n 2, 1) := by decide +kernel
theorem dX12_sheet_51 : decode cX12_sheet 51 = .ok (.ifCond .lt 7, 3) := by decide +kernel
theorem dX12_sheet_54 : decode cX12_sheet 54 = .ok (.iconst 1, 1) := by decide +kernel
theorem dX12_sheet_55 : decode cX12_sheet 55 = .ok (.goto 4, 3) := by decide +kernel
theorem dX12_sheet_58 : decode cX12_sheet 58 = .ok (.iconst 0, 1) := by decide +kernel
theorem dX12_sheet_59 : decode cX12_sheet 59 = .ok (.bastore, 1) := by decide +kernel
theorem dX12_sheet_60 : decode cX12_sheet 60 = .ok (.aload_n 0, 1) := by decide +kernel
theorem dX12_sheet_61 : decode cX12_sheet 61 = .ok (.getfield 99, 3) := by decide +kernel
theorem dX12_sheet_64 : decode cX12_sheet 64 = .ok (.iload_n 1, 1) := by decide +kernel
theorem dX12_sheet_65 : decode cX12_sheet 65 = .ok (.iload_n 2, 1) := by decide +kernel
theorem dX12_sheet_66 : decode cX12_sheet 66 = .ok (.iastore, 1) := by decide +kernel
theorem dX12_sheet_67 : decode cX12_sheet 67 = .ok (.aload_n 0, 1) := by decide +kernel
theorem dX12_sheet_68 : decode cX12_sheet 68 = .ok (.getfield 102, 3) := by decide +kernel
theorem dX12_sheet_71 : decode cX12_sheet 71 = .ok (.iload_n 1, 1) := by decide +kernel
theorem dX12_sheet_72 : decode cX12_sheet 72 = .ok (.iload_n 3, 1) := by decide +kernel
theorem dX12_sheet_73 : decode cX12_sheet 73 = .ok (.iastore, 1) := by decide +kernel
theorem dX12_sheet_74 : decode cX12_sheet 74 = .ok (.iconst 0, 1) := by decide +kernel
theorem dX12_sheet_75 : decode cX12_sheet 75 = .ok (.istore 4, 2) := by decide +kernel
theorem dX12_sheet_77 : decode cX12_sheet 77 = .ok (.iload 4, 2) := by decide +kernel
theorem dX12_sheet_79 : decode cX12_sheet 79 = .ok (.iload_n 3, 1) := by decide +kernel
theorem dX12_sheet_80 : decode cX12_sheet 80 = .ok (.if_icmp .ge 26, 3) := by decide +kernel
theorem dX12_sheet_83 : decode cX12_sheet 83 = .ok (.iload_n 2, 1) := by decide +kernel
theorem dX12_sheet_84 : decode cX12_sheet 84 = .ok (.ifCond .lt 22, 3) := by decide +kernel
theorem dX12_sheet_87 : decode cX12_sheet 87 = .ok (.aload_n 0, 1) := by decide +kernel
theorem dX12_sheet_88 : decode cX12_sheet 88 = .ok (.getfield 105, 3) := by decide +kernel
theorem dX12_sheet_91 : decode cX12_sheet 91 = .ok (.bipush 40, 2) := by decide +kernel
theorem dX12_sheet_93 : decode cX12_sheet 93 = .ok (.iload_n 1, 1) := by decide +kernel
theorem dX12_sheet_94 : decode cX12_sheet 94 = .ok (.imul, 1) := by decide +kernel
theorem dX12_sheet_95 : decode cX12_sheet 95 = .ok (.iload 4, 2) := by decide +kernel
theorem dX12_sheet_97 : decode cX12_sheet 97 = .ok (.iadd, 1) := by decide +kernel
theorem dX12_sheet_98 : decode cX12_sheet 98 = .ok (.iconst 0, 1) := by decide +kernel
theorem dX12_sheet_99 : decode cX12_sheet 99 = .ok (.iastore, 1) := by decide +kernel
theorem dX12_sheet_100 : decode cX12_sheet 100 = .ok (.iinc 4 1, 3) := by decide +kernel
theorem dX12_sheet_103 : decode cX12_sheet 103 = .ok (.goto (-26), 3) := by decide +kernel
theorem dX12_sheet_106 : decode cX12_sheet 106 = .ok (.iconst 1, 1) := by decide +kernel
theorem dX12_sheet_107 : decode cX12_sheet 107 = .ok (.ireturn, 1) := by decide +kernel
theorem dX12_cell_0 : decode cX12_cell 0 = .ok (.iload_n 1, 1) := by decide +kernel
theorem dX12_cell_1 : decode cX12_cell 1 = .ok (.invokestatic 346, 3) := by decide +kernel
theorem dX12_cell_4 : decode cX12_cell 4 = .ok (.ifCond .ne 6, 3) := by decide +kernel
theorem dX12_cell_7 : decode cX12_cell 7 = .ok (.bipush (-2), 2) := by decide +kernel
theorem dX12_cell_9 : decode cX12_cell 9 = .ok (.ireturn, 1) := by decide +kernel
theorem dX12_cell_10 : decode cX12_cell 10 = .ok (.aload_n 0, 1) := by decide +kernel
theorem dX12_cell_11 : decode cX12_cell 11 = .ok (.getfield 95, 3) := by decide +kernel
theorem dX12_cell_14 : decode cX12_cell 14 = .ok (.iload_n 1, 1) := by decide +kernel
theorem dX12_cell_15 : decode cX12_cell 15 = .ok (.baload, 1) := by decide +kernel
theorem dX12_cell_16 : decode cX12_cell 16 = .ok (.ifCond .ne 6, 3) := by decide +kernel
theorem dX12_cell_19 : decode cX12_cell 19 = .ok (.bipush (-11), 2) := by decide +kernel
theorem dX12_cell_21 : decode cX12_cell 21 = .ok (.ireturn, 1) := by decide +kernel
theorem dX12_cell_22 : decode cX12_cell 22 = .ok (.iload_n 2, 1) := by decide +kernel
theorem dX12_cell_23 : decode cX12_cell 23 = .ok (.i2l, 1) := by decide +kernel
theorem dX12_cell_24 : decode cX12_cell 24 = .ok (.lconst 0, 1) := by decide +kernel
theorem dX12_cell_25 : decode cX12_cell 25 = .ok (.aload_n 0, 1) := by decide +kernel
theorem dX12_cell_26 : decode cX12_cell 26 = .ok (.getfield 102, 3) := by decide +kernel
theorem dX12_cell_29 : decode cX12_cell 29 = .ok (.iload_n 1, 1) := by decide +kernel
theorem dX12_cell_30 : decode cX12_cell 30 = .ok (.iaload, 1) := by decide +kernel
theorem dX12_cell_31 : decode cX12_cell 31 = .ok (.iconst 1, 1) := by decide +kernel
theorem dX12_cell_32 : decode cX12_cell 32 = .ok (.isub, 1) := by decide +kernel
theorem dX12_cell_33 : decode cX12_cell 33 = .ok (.i2l, 1) := by decide +kernel
theorem dX12_cell_34 : decode cX12_cell 34 = .ok (.invokestatic 134, 3) := by decide +kernel
theorem dX12_cell_37 : decode cX12_cell 37 = .ok (.ifCond .ne 6, 3) := by decide +kernel
theorem dX12_cell_40 : decode cX12_cell 40 = .ok (.bipush (-12), 2) := by decide +kernel
theorem dX12_cell_42 : decode cX12_cell 42 = .ok (.ireturn, 1) := by decide +kernel
theorem dX12_cell_43 : decode cX12_cell 43 = .ok (.aload_n 0, 1) := by decide +kernel
theorem dX12_cell_44 : decode cX12_cell 44 = .ok (.getfield 105, 3) := by decide +kernel
theorem dX12_cell_47 : decode cX12_cell 47 = .ok (.bipush 40, 2) := by decide +kernel
theorem dX12_cell_49 : decode cX12_cell 49 = .ok (.iload_n 1, 1) := by decide +kernel
theorem dX12_cell_50 : decode cX12_cell 50 = .ok (.imul, 1) := by decide +kernel
theorem dX12_cell_51 : decode cX12_cell 51 = .ok (.iload_n 2, 1) := by decide +kernel
theorem dX12_cell_52 : decode cX12_cell 52 = .ok (.iadd, 1) := by decide +kernel
theorem dX12_cell_53 : decode cX12_cell 53 = .ok (.aload_n 0, 1) := by decide +kernel
theorem dX12_cell_54 : decode cX12_cell 54 = .ok (.getfield 99, 3) := by decide +kernel
theorem dX12_cell_57 : decode cX12_cell 57 = .ok (.iload_n 1, 1) := by decide +kernel
theorem dX12_cell_58 : decode cX12_cell 58 = .ok (.iaload, 1) := by decide +kernel
theorem dX12_cell_59 : decode cX12_cell 59 = .ok (.ifCond .ne 8, 3) := by decide +kernel
theorem dX12_cell_62 : decode cX12_cell 62 = .ok (.iload_n 3, 1) := by decide +kernel
theorem dX12_cell_63 : decode cX12_cell 63 = .ok (.i2b, 1) := by decide +kernel
theorem dX12_cell_64 : decode cX12_cell 64 = .ok (.goto 19, 3) := by decide +kernel
theorem dX12_cell_67 : decode cX12_cell 67 = .ok (.aload_n 0, 1) := by decide +kernel
theorem dX12_cell_68 : decode cX12_cell 68 = .ok (.getfield 99, 3) := by decide +kernel
theorem dX12_cell_71 : decode cX12_cell 71 = .ok (.iload_n 1, 1) := by decide +kernel
theorem dX12_cell_72 : decode cX12_cell 72 = .ok (.iaload, 1) := by decide +kernel
theorem dX12_cell_73 : decode cX12_cell 73 = .ok (.iconst 1, 1) := by decide +kernel
theorem dX12_cell_74 : decode cX12_cell 74 = .ok (.if_icmp .ne 8, 3) := by decide +kernel
theorem dX12_cell_77 : decode cX12_cell 77 = .ok (.iload_n 3, 1) := by decide +kernel
theorem dX12_cell_78 : decode cX12_cell 78 = .ok (.i2s, 1) := by decide +kernel
theorem dX12_cell_79 : decode cX12_cell 79 = .ok (.goto 4, 3) := by decide +kernel
theorem dX12_cell_82 : decode cX12_cell 82 = .ok (.iload_n 3, 1) := by decide +kernel
theorem dX12_cell_83 : decode cX12_cell 83 = .ok (.iastore, 1) := by decide +kernel
theorem dX12_cell_84 : decode cX12_cell 84 = .ok (.iconst 1, 1) := by decide +kernel
theorem dX12_cell_85 : decode cX12_cell 85 = .ok (.ireturn, 1) := by decide +kernel
theorem dX12_copy_0 : decode cX12_copy 0 = .ok (.iload_n 1, 1) := by decide +kernel
theorem dX12_copy_1 : decode cX12_copy 1 = .ok (.invokestatic 346, 3) := by decide +kernel
theorem dX12_copy_4 : decode cX12_copy 4 = .ok (.ifCond .eq 10, 3) := by decide +kernel
theorem dX12_copy_7 : decode cX12_copy 7 = .ok (.iload_n 3, 1) := by decide +kernel
theorem dX12_copy_8 : decode cX12_copy 8 = .ok (.invokestatic 346, 3) := by decide +kernel
theorem dX12_copy_11 : decode cX12_copy 11 = .ok (.ifCond .ne 6, 3) := by decide +kernel
theorem dX12_copy_14 : decode cX12_copy 14 = .ok (.bipush (-2), 2) := by decide +kernel
theorem dX12_copy_16 : decode cX12_copy 16 = .ok (.ireturn, 1) := by decide +kernel
theorem dX12_copy_17 : decode cX12_copy 17 = .ok (.aload_n 0, 1) := by decide +kernel
theorem dX12_copy_18 : decode cX12_copy 18 = .ok (.getfield 95, 3) := by decide +kernel
theorem dX12_copy_21 : decode cX12_copy 21 = .ok (.iload_n 1, 1) := by decide +kernel
theorem dX12_copy_22 : decode cX12_copy 22 = .ok (.baload, 1) := by decide +kernel
theorem dX12_copy_23 : decode cX12_copy 23 = .ok (.ifCond .eq 12, 3) := by decide +kernel
theorem dX12_copy_26 : decode cX12_copy 26 = .ok (.aload_n 0, 1) := by decide +kernel
theorem dX12_copy_27 : decode cX12_copy 27 = .ok (.getfield 95, 3) := by decide +kernel
theorem dX12_copy_30 : decode cX12_copy 30 = .ok (.iload_n 3, 1) := by decide +kernel
theorem dX12_copy_31 : decode cX12_copy 31 = .ok (.baload, 1) := by decide +kernel
theorem dX12_copy_32 : decode cX12_copy 32 = .ok (.ifCond .ne 6, 3) := by decide +kernel
theorem dX12_copy_35 : decode cX12_copy 35 = .ok (.bipush (-11), 2) := by decide +kernel
theorem dX12_copy_37 : decode cX12_copy 37 = .ok (.ireturn, 1) := by decide +kernel
theorem dX12_copy_38 : decode cX12_copy 38 = .ok (.aload_n 0, 1) := by decide +kernel
theorem dX12_copy_39 : decode cX12_copy 39 = .ok (.getfield 99, 3) := by decide +kernel
theorem dX12_copy_42 : decode cX12_copy 42 = .ok (.iload_n 1, 1) := by decide +kernel
theorem dX12_copy_43 : decode cX12_copy 43 = .ok (.iaload, 1) := by decide +kernel
theorem dX12_copy_44 : decode cX12_copy 44 = .ok (.aload_n 0, 1) := by decide +kernel
theorem dX12_copy_45 : decode cX12_copy 45 = .ok (.getfield 99, 3) := by decide +kernel
theorem dX12_copy_48 : decode cX12_copy 48 = .ok (.iload_n 3, 1) := by decide +kernel
theorem dX12_copy_49 : decode cX12_copy 49 = .ok (.iaload, 1) := by decide +kernel
theorem dX12_copy_50 : decode cX12_copy 50 = .ok (.if_icmp .eq 6, 3) := by decide +kernel
theorem dX12_copy_53 : decode cX12_copy 53 = .ok (.bipush (-13), 2) := by decide +kernel
theorem dX12_copy_55 : decode cX12_copy 55 = .ok (.ireturn, 1) := by decide +kernel
theorem dX12_copy_56 : decode cX12_copy 56 = .ok (.iload 5, 2) := by decide +kernel
theorem dX12_copy_58 : decode cX12_copy 58 = .ok (.ifCond .lt 39, 3) := by decide +kernel
theorem dX12_copy_61 : decode cX12_copy 61 = .ok (.iload_n 2, 1) := by decide +kernel
theorem dX12_copy_62 : decode cX12_copy 62 = .ok (.ifCond .lt 35, 3) := by decide +kernel
theorem dX12_copy_65 : decode cX12_copy 65 = .ok (.iload 4, 2) := by decide +kernel
theorem dX12_copy_67 : decode cX12_copy 67 = .ok (.ifCond .lt 30, 3) := by decide +kernel
theorem dX12_copy_70 : decode cX12_copy 70 = .ok (.iload_n 2, 1) := by decide +kernel
theorem dX12_copy_71 : decode cX12_copy 71 = .ok (.aload_n 0, 1) := by decide +kernel
theorem dX12_copy_72 : decode cX12_copy 72 = .ok (.getfield 102, 3) := by decide +kernel
theorem dX12_copy_75 : decode cX12_copy 75 = .ok (.iload_n 1, 1) := by decide +kernel
theorem dX12_copy_76 : decode cX12_copy 76 = .ok (.iaload, 1) := by decide +kernel
theorem dX12_copy_77 : decode cX12_copy 77 = .ok (.iload 5, 2) := by decide +kernel
theorem dX12_copy_79 : decode cX12_copy 79 = .ok (.isub, 1) := by decide +kernel
theorem dX12_copy_80 : decode cX12_copy 80 = .ok (.if_icmp .gt 17, 3) := by decide +kernel
theorem dX12_copy_83 : decode cX12_copy 83 = .ok (.iload 4, 2) := by decide +kernel
theorem dX12_copy_85 : decode cX12_copy 85 = .ok (.aload_n 0, 1) := by decide +kernel
theorem dX12_copy_86 : decode cX12_copy 86 = .ok (.getfield 102, 3) := by decide +kernel
theorem dX12_copy_89 : decode cX12_copy 89 = .ok (.iload_n 3, 1) := by decide +kernel
theorem dX12_copy_90 : decode cX12_copy 90 = .ok (.iaload, 1) := by decide +kernel
theorem dX12_copy_91 : decode cX12_copy 91 = .ok (.iload 5, 2) := by decide +kernel
theorem dX12_copy_93 : decode cX12_copy 93 = .ok (.isub, 1) := by decide +kernel
theorem dX12_copy_94 : decode cX12_copy 94 = .ok (.if_icmp .le 6, 3) := by decide +kernel
theorem dX12_copy_97 : decode cX12_copy 97 = .ok (.bipush (-12), 2) := by decide +kernel
theorem dX12_copy_99 : decode cX12_copy 99 = .ok (.ireturn, 1) := by decide +kernel
theorem dX12_copy_100 : decode cX12_copy 100 = .ok (.iload_n 1, 1) := by decide +kernel
theorem dX12_copy_101 : decode cX12_copy 101 = .ok (.iload_n 3, 1) := by decide +kernel
theorem dX12_copy_102 : decode cX12_copy 102 = .ok (.if_icmp .ne 13, 3) := by decide +kernel
theorem dX12_copy_105 : decode cX12_copy 105 = .ok (.iload_n 2, 1) := by decide +kernel
theorem dX12_copy_106 : decode cX12_copy 106 = .ok (.iload 4, 2) := by decide +kernel
theorem dX12_copy_108 : decode cX12_copy 108 = .ok (.if_icmp .ge 7, 3) := by decide +kernel
theorem dX12_copy_111 : decode cX12_copy 111 = .ok (.iconst 1, 1) := by decide +kernel
theorem dX12_copy_112 : decode cX12_copy 112 = .ok (.goto 4, 3) := by decide +kernel
theorem dX12_copy_115 : decode cX12_copy 115 = .ok (.iconst 0, 1) := by decide +kernel
theorem dX12_copy_116 : decode cX12_copy 116 = .ok (.istore 6, 2) := by decide +kernel
theorem dX12_copy_118 : decode cX12_copy 118 = .ok (.iconst 0, 1) := by decide +kernel
theorem dX12_copy_119 : decode cX12_copy 119 = .ok (.istore 7, 2) := by decide +kernel
theorem dX12_copy_121 : decode cX12_copy 121 = .ok (.iload 7, 2) := by decide +kernel
theorem dX12_copy_123 : decode cX12_copy 123 = .ok (.iload 5, 2) := by decide +kernel
theorem dX12_copy_125 : decode cX12_copy 125 = .ok (.if_icmp .ge 57, 3) := by decide +kernel
theorem dX12_copy_128 : decode cX12_copy 128 = .ok (.iload 6, 2) := by decide +kernel
theorem dX12_copy_130 : decode cX12_copy 130 = .ok (.ifCond .eq 13, 3) := by decide +kernel
theorem dX12_copy_133 : decode cX12_copy 133 = .ok (.iload 5, 2) := by decide +kernel
theorem dX12_copy_135 : decode cX12_copy 135 = .ok (.iconst 1, 1) := by decide +kernel
theorem dX12_copy_136 : decode cX12_copy 136 = .ok (.isub, 1) := by decide +kernel
theorem dX12_copy_137 : decode cX12_copy 137 = .ok (.iload 7, 2) := by decide +kernel
theorem dX12_copy_139 : decode cX12_copy 139 = .ok (.isub, 1) := by decide +kernel
theorem dX12_copy_140 : decode cX12_copy 140 = .ok (.goto 5, 3) := by decide +kernel
theorem dX12_copy_143 : decode cX12_copy 143 = .ok (.iload 7, 2) := by decide +kernel
theorem dX12_copy_145 : decode cX12_copy 145 = .ok (.istore 8, 2) := by decide +kernel
theorem dX12_copy_147 : decode cX12_copy 147 = .ok (.aload_n 0, 1) := by decide +kernel
theorem dX12_copy_148 : decode cX12_copy 148 = .ok (.getfield 105, 3) := by decide +kernel
theorem dX12_copy_151 : decode cX12_copy 151 = .ok (.bipush 40, 2) := by decide +kernel
theorem dX12_copy_153 : decode cX12_copy 153 = .ok (.iload_n 3, 1) := by decide +kernel
theorem dX12_copy_154 : decode cX12_copy 154 = .ok (.imul, 1) := by decide +kernel
theorem dX12_copy_155 : decode cX12_copy 155 = .ok (.iload 4, 2) := by decide +kernel
theorem dX12_copy_157 : decode cX12_copy 157 = .ok (.iadd, 1) := by decide +kernel
theorem dX12_copy_158 : decode cX12_copy 158 = .ok (.iload 8, 2) := by decide +kernel
theorem dX12_copy_160 : decode cX12_copy 160 = .ok (.iadd, 1) := by decide +kernel
theorem dX12_copy_161 : decode cX12_copy 161 = .ok (.aload_n 0, 1) := by decide +kernel
theorem dX12_copy_162 : decode cX12_copy 162 = .ok (.getfield 105, 3) := by decide +kernel
theorem dX12_copy_165 : decode cX12_copy 165 = .ok (.bipush 40, 2) := by decide +kernel
theorem dX12_copy_167 : decode cX12_copy 167 = .ok (.iload_n 1, 1) := by decide +kernel
theorem dX12_copy_168 : decode cX12_copy 168 = .ok (.imul, 1) := by decide +kernel
theorem dX12_copy_169 : decode cX12_copy 169 = .ok (.iload_n 2, 1) := by decide +kernel
theorem dX12_copy_170 : decode cX12_copy 170 = .ok (.iadd, 1) := by decide +kernel
theorem dX12_copy_171 : decode cX12_copy 171 = .ok (.iload 8, 2) := by decide +kernel
theorem dX12_copy_173 : decode cX12_copy 173 = .ok (.iadd, 1) := by decide +kernel
theorem dX12_copy_174 : decode cX12_copy 174 = .ok (.iaload, 1) := by decide +kernel
theorem dX12_copy_175 : decode cX12_copy 175 = .ok (.iastore, 1) := by decide +kernel
theorem dX12_copy_176 : decode cX12_copy 176 = .ok (.iinc 7 1, 3) := by decide +kernel
theorem dX12_copy_179 : decode cX12_copy 179 = .ok (.goto (-58), 3) := by decide +kernel
theorem dX12_copy_182 : decode cX12_copy 182 = .ok (.iload 5, 2) := by decide +kernel
theorem dX12_copy_184 : decode cX12_copy 184 = .ok (.ireturn, 1) := by decide +kernel
theorem dX12_rowers_0 : decode cX12_rowers 0 = .ok (.iload_n 1, 1) := by decide +kernel
theorem dX12_rowers_1 : decode cX12_rowers 1 = .ok (.invokestatic 346, 3) := by decide +kernel
theorem dX12_rowers_4 : decode cX12_rowers 4 = .ok (.ifCond .eq 28, 3) := by decide +kernel
theorem dX12_rowers_7 : decode cX12_rowers 7 = .ok (.iload_n 2, 1) := by decide +kernel
theorem dX12_rowers_8 : decode cX12_rowers 8 = .ok (.i2l, 1) := by decide +kernel
theorem dX12_rowers_9 : decode cX12_rowers 9 = .ok (.lconst 0, 1) := by decide +kernel
theorem dX12_rowers_10 : decode cX12_rowers 10 = .ok (.ldc2_w 381, 3) := by decide +kernel
theorem dX12_rowers_13 : decode cX12_rowers 13 = .ok (.invokestatic 134, 3) := by decide +kernel
theorem dX12_rowers_16 : decode cX12_rowers 16 = .ok (.ifCond .eq 16, 3) := by decide +kernel
theorem dX12_rowers_19 : decode cX12_rowers 19 = .ok (.iload 4, 2) := by decide +kernel
theorem dX12_rowers_21 : decode cX12_rowers 21 = .ok (.i2l, 1) := by decide +kernel
theorem dX12_rowers_22 : decode cX12_rowers 22 = .ok (.lconst 0, 1) := by decide +kernel
theorem dX12_rowers_23 : decode cX12_rowers 23 = .ok (.ldc2_w 422, 3) := by decide +kernel
theorem dX12_rowers_26 : decode cX12_rowers 26 = .ok (.invokestatic 134, 3) := by decide +kernel
theorem dX12_rowers_29 : decode cX12_rowers 29 = .ok (.ifCond .ne 6, 3) := by decide +kernel
theorem dX12_rowers_32 : decode cX12_rowers 32 = .ok (.bipush (-2), 2) := by decide +kernel
theorem dX12_rowers_34 : decode cX12_rowers 34 = .ok (.ireturn, 1) := by decide +kernel
theorem dX12_rowers_35 : decode cX12_rowers 35 = .ok (.aload_n 0, 1) := by decide +kernel
theorem dX12_rowers_36 : decode cX12_rowers 36 = .ok (.getfield 95, 3) := by decide +kernel
theorem dX12_rowers_39 : decode cX12_rowers 39 = .ok (.iload_n 1, 1) := by decide +kernel
theorem dX12_rowers_40 : decode cX12_rowers 40 = .ok (.baload, 1) := by decide +kernel
theorem dX12_rowers_41 : decode cX12_rowers 41 = .ok (.ifCond .eq 16, 3) := by decide +kernel
theorem dX12_rowers_44 : decode cX12_rowers 44 = .ok (.aload_n 0, 1) := by decide +kernel
theorem dX12_rowers_45 : decode cX12_rowers 45 = .ok (.getfield 99, 3) := by decide +kernel
theorem dX12_rowers_48 : decode cX12_rowers 48 = .ok (.iload_n 1, 1) := by decide +kernel
theorem dX12_rowers_49 : decode cX12_rowers 49 = .ok (.iaload, 1) := by decide +kernel
theorem dX12_rowers_50 : decode cX12_rowers 50 = .ok (.iload_n 2, 1) := by decide +kernel
theorem dX12_rowers_51 : decode cX12_rowers 51 = .ok (.if_icmp .eq 6, 3) := by decide +kernel
theorem dX12_rowers_54 : decode cX12_rowers 54 = .ok (.bipush (-13), 2) := by decide +kernel
theorem dX12_rowers_56 : decode cX12_rowers 56 = .ok (.ireturn, 1) := by decide +kernel
theorem dX12_rowers_57 : decode cX12_rowers 57 = .ok (.aload_n 0, 1) := by decide +kernel
theorem dX12_rowers_58 : decode cX12_rowers 58 = .ok (.getfield 95, 3) := by decide +kernel
theorem dX12_rowers_61 : decode cX12_rowers 61 = .ok (.iload_n 1, 1) := by decide +kernel
theorem dX12_rowers_62 : decode cX12_rowers 62 = .ok (.baload, 1) := by decide +kernel
theorem dX12_rowers_63 : decode cX12_rowers 63 = .ok (.ifCond .ne 6, 3) := by decide +kernel
theorem dX12_rowers_66 : decode cX12_rowers 66 = .ok (.bipush (-11), 2) := by decide +kernel
theorem dX12_rowers_68 : decode cX12_rowers 68 = .ok (.ireturn, 1) := by decide +kernel
theorem dX12_rowers_69 : decode cX12_rowers 69 = .ok (.iconst 0, 1) := by decide +kernel
theorem dX12_rowers_70 : decode cX12_rowers 70 = .ok (.istore 5, 2) := by decide +kernel
theorem dX12_rowers_72 : decode cX12_rowers 72 = .ok (.iconst 0, 1) := by decide +kernel
theorem dX12_rowers_73 : decode cX12_rowers 73 = .ok (.istore 6, 2) := by decide +kernel
theorem dX12_rowers_75 : decode cX12_rowers 75 = .ok (.iload 6, 2) := by decide +kernel
theorem dX12_rowers_77 : decode cX12_rowers 77 = .ok (.iload 4, 2) := by decide +kernel
theorem dX12_rowers_79 : decode cX12_rowers 79 = .ok (.if_icmp .ge 88, 3) := by decide +kernel
theorem dX12_rowers_82 : decode cX12_rowers 82 = .ok (.iload_n 3, 1) := by decide +kernel
theorem dX12_rowers_83 : decode cX12_rowers 83 = .ok (.ifCond .lt 20, 3) := by decide +kernel
theorem dX12_rowers_86 : decode cX12_rowers 86 = .ok (.iload_n 3, 1) := by decide +kernel
theorem dX12_rowers_87 : decode cX12_rowers 87 = .ok (.aload_n 0, 1) := by decide +kernel
theorem dX12_rowers_88 : decode cX12_rowers 88 = .ok (.getfield 102, 3) := by decide +kernel
theorem dX12_rowers_91 : decode cX12_rowers 91 = .ok (.iload_n 1, 1) := by decide +kernel
theorem dX12_rowers_92 : decode cX12_rowers 92 = .ok (.iaload, 1) := by decide +kernel
theorem dX12_rowers_93 : decode cX12_rowers 93 = .ok (.iconst 3, 1) := by decide +kernel
theorem dX12_rowers_94 : decode cX12_rowers 94 = .ok (.iload 6, 2) := by decide +kernel
theorem dX12_rowers_96 : decode cX12_rowers 96 = .ok (.imul, 1) := by decide +kernel
theorem dX12_rowers_97 : decode cX12_rowers 97 = .ok (.isub, 1) := by decide +kernel
theorem dX12_rowers_98 : decode cX12_rowers 98 = .ok (.iconst 3, 1) := by decide +kernel
theorem dX12_rowers_99 : decode cX12_rowers 99 = .ok (.isub, 1) := by decide +kernel
theorem dX12_rowers_100 : decode cX12_rowers 100 = .ok (.if_icmp .le 6, 3) := by decide +kernel
theorem dX12_rowers_103 : decode cX12_rowers 103 = .ok (.bipush (-12), 2) := by decide +kernel
theorem dX12_rowers_105 : decode cX12_rowers 105 = .ok (.ireturn, 1) := by decide +kernel
theorem dX12_rowers_106 : decode cX12_rowers 106 = .ok (.bipush 40, 2) := by decide +kernel
theorem dX12_rowers_108 : decode cX12_rowers 108 = .ok (.iload_n 1, 1) := by decide +kernel
theorem dX12_rowers_109 : decode cX12_rowers 109 = .ok (.imul, 1) := by decide +kernel
theorem dX12_rowers_110 : decode cX12_rowers 110 = .ok (.iload_n 3, 1) := by decide +kernel
theorem dX12_rowers_111 : decode cX12_rowers 111 = .ok (.iadd, 1) := by decide +kernel
theorem dX12_rowers_112 : decode cX12_rowers 112 = .ok (.iconst 3, 1) := by decide +kernel
theorem dX12_rowers_113 : decode cX12_rowers 113 = .ok (.iload 6, 2) := by decide +kernel
theorem dX12_rowers_115 : decode cX12_rowers 115 = .ok (.imul, 1) := by decide +kernel
theorem dX12_rowers_116 : decode cX12_rowers 116 = .ok (.iadd, 1) := by decide +kernel
theorem dX12_rowers_117 : decode cX12_rowers 117 = .ok (.istore 7, 2) := by decide +kernel
theorem dX12_rowers_119 : decode cX12_rowers 119 = .ok (.iload 5, 2) := by decide +kernel
theorem dX12_rowers_121 : decode cX12_rowers 121 = .ok (.aload_n 0, 1) := by decide +kernel
theorem dX12_rowers_122 : decode cX12_rowers 122 = .ok (.aload_n 0, 1) := by decide +kernel
theorem dX12_rowers_123 : decode cX12_rowers 123 = .ok (.getfield 105, 3) := by decide +kernel
theorem dX12_rowers_126 : decode cX12_rowers 126 = .ok (.iload 7, 2) := by decide +kernel
theorem dX12_rowers_128 : decode cX12_rowers 128 = .ok (.iaload, 1) := by decide +kernel
theorem dX12_rowers_129 : decode cX12_rowers 129 = .ok (.aload_n 0, 1) := by decide +kernel
theorem dX12_rowers_130 : decode cX12_rowers 130 = .ok (.getfield 105, 3) := by decide +kernel
theorem dX12_rowers_133 : decode cX12_rowers 133 = .ok (.iload 7, 2) := by decide +kernel
theorem dX12_rowers_135 : decode cX12_rowers 135 = .ok (.iconst 1, 1) := by decide +kernel
theorem dX12_rowers_136 : decode cX12_rowers 136 = .ok (.iadd, 1) := by decide +kernel
theorem dX12_rowers_137 : decode cX12_rowers 137 = .ok (.iaload, 1) := by decide +kernel
theorem dX12_rowers_138 : decode cX12_rowers 138 = .ok (.aload_n 0, 1) := by decide +kernel
theorem dX12_rowers_139 : decode cX12_rowers 139 = .ok (.getfield 105, 3) := by decide +kernel
theorem dX12_rowers_142 : decode cX12_rowers 142 = .ok (.iload 7, 2) := by decide +kernel
theorem dX12_rowers_144 : decode cX12_rowers 144 = .ok (.iconst 2, 1) := by decide +kernel
theorem dX12_rowers_145 : decode cX12_rowers 145 = .ok (.iadd, 1) := by decide +kernel
theorem dX12_rowers_146 : decode cX12_rowers 146 = .ok (.iaload, 1) := by decide +kernel
theorem dX12_rowers_147 : decode cX12_rowers 147 = .ok (.invokevirtual 424, 3) := by decide +kernel
theorem dX12_rowers_150 : decode cX12_rowers 150 = .ok (.ifCond .lt 7, 3) := by decide +kernel
theorem dX12_rowers_153 : decode cX12_rowers 153 = .ok (.iconst 1, 1) := by decide +kernel
theorem dX12_rowers_154 : decode cX12_rowers 154 = .ok (.goto 4, 3) := by decide +kernel
theorem dX12_rowers_157 : decode cX12_rowers 157 = .ok (.iconst 0, 1) := by decide +kernel
theorem dX12_rowers_158 : decode cX12_rowers 158 = .ok (.iadd, 1) := by decide +kernel
theorem dX12_rowers_159 : decode cX12_rowers 159 = .ok (.istore 5, 2) := by decide +kernel
theorem dX12_rowers_161 : decode cX12_rowers 161 = .ok (.iinc 6 1, 3) := by decide +kernel
theorem dX12_rowers_164 : decode cX12_rowers 164 = .ok (.goto (-89), 3) := by decide +kernel
theorem dX12_rowers_167 : decode cX12_rowers 167 = .ok (.iload 5, 2) := by decide +kernel
theorem dX12_rowers_169 : decode cX12_rowers 169 = .ok (.ireturn, 1) := by decide +kernel
theorem dX12_over_0 : decode cX12_over 0 = .ok (.iload_n 0, 1) := by decide +kernel
theorem dX12_over_1 : decode cX12_over 1 = .ok (.ifCond .ne 7, 3) := by decide +kernel
theorem dX12_over_4 : decode cX12_over 4 = .ok (.iconst (-1), 1) := by decide +kernel
theorem dX12_over_5 : decode cX12_over 5 = .ok (.goto 22, 3) := by decide +kernel
theorem dX12_over_8 : decode cX12_over 8 = .ok (.iload_n 0, 1) := by decide +kernel
theorem dX12_over_9 : decode cX12_over 9 = .ok (.iconst 3, 1) := by decide +kernel
theorem dX12_over_10 : decode cX12_over 10 = .ok (.if_icmp .ne 7, 3) := by decide +kernel
theorem dX12_over_13 : decode cX12_over 13 = .ok (.iconst 1, 1) := by decide +kernel
theorem dX12_over_14 : decode cX12_over 14 = .ok (.goto 13, 3) := by decide +kernel
theorem dX12_over_17 : decode cX12_over 17 = .ok (.iload_n 0, 1) := by decide +kernel
theorem dX12_over_18 : decode cX12_over 18 = .ok (.iconst 5, 1) := by decide +kernel
theorem dX12_over_19 : decode cX12_over 19 = .ok (.if_icmp .ne 7, 3) := by decide +kernel
theorem dX12_over_22 : decode cX12_over 22 = .ok (.iconst 2, 1) := by decide +kernel
theorem dX12_over_23 : decode cX12_over 23 = .ok (.goto 4, 3) := by decide +kernel
theorem dX12_over_26 : decode cX12_over 26 = .ok (.iconst 0, 1) := by decide +kernel
theorem dX12_over_27 : decode cX12_over 27 = .ok (.ireturn, 1) := by decide +kernel
theorem dX12_taken_0 : decode cX12_taken 0 = .ok (.iload_n 2, 1) := by decide +kernel
theorem dX12_taken_1 : decode cX12_taken 1 = .ok (.i2l, 1) := by decide +kernel
theorem dX12_taken_2 : decode cX12_taken 2 = .ok (.lconst 0, 1) := by decide +kernel
theorem dX12_taken_3 : decode cX12_taken 3 = .ok (.ldc2_w 164, 3) := by decide +kernel
theorem dX12_taken_6 : decode cX12_taken 6 = .ok (.invokestatic 134, 3) := by decide +kernel
theorem dX12_taken_9 : decode cX12_taken 9 = .ok (.ifCond .ne 6, 3) := by decide +kernel
theorem dX12_taken_12 : decode cX12_taken 12 = .ok (.bipush (-2), 2) := by decide +kernel
theorem dX12_taken_14 : decode cX12_taken 14 = .ok (.ireturn, 1) := by decide +kernel
theorem dX12_taken_15 : decode cX12_taken 15 = .ok (.aload_n 0, 1) := by decide +kernel
theorem dX12_taken_16 : decode cX12_taken 16 = .ok (.iload_n 1, 1) := by decide +kernel
theorem dX12_taken_17 : decode cX12_taken 17 = .ok (.invokevirtual 170, 3) := by decide +kernel
theorem dX12_taken_20 : decode cX12_taken 20 = .ok (.ifCond .ne 6, 3) := by decide +kernel
theorem dX12_taken_23 : decode cX12_taken 23 = .ok (.bipush (-11), 2) := by decide +kernel
theorem dX12_taken_25 : decode cX12_taken 25 = .ok (.ireturn, 1) := by decide +kernel
theorem dX12_taken_26 : decode cX12_taken 26 = .ok (.aload_n 0, 1) := by decide +kernel
theorem dX12_taken_27 : decode cX12_taken 27 = .ok (.getfield 35, 3) := by decide +kernel
theorem dX12_taken_30 : decode cX12_taken 30 = .ok (.iload_n 1, 1) := by decide +kernel
theorem dX12_taken_31 : decode cX12_taken 31 = .ok (.iaload, 1) := by decide +kernel
theorem dX12_taken_32 : decode cX12_taken 32 = .ok (.istore_n 3, 1) := by decide +kernel
theorem dX12_taken_33 : decode cX12_taken 33 = .ok (.iload_n 3, 1) := by decide +kernel
theorem dX12_taken_34 : decode cX12_taken 34 = .ok (.iconst (-1), 1) := by decide +kernel
theorem dX12_taken_35 : decode cX12_taken 35 = .ok (.if_icmp .eq 16, 3) := by decide +kernel
theorem dX12_taken_38 : decode cX12_taken 38 = .ok (.iload_n 3, 1) := by decide +kernel
theorem dX12_taken_39 : decode cX12_taken 39 = .ok (.iload_n 2, 1) := by decide +kernel
theorem dX12_taken_40 : decode cX12_taken 40 = .ok (.if_icmp .eq 11, 3) := by decide +kernel
theorem dX12_taken_43 : decode cX12_taken 43 = .ok (.iload_n 3, 1) := by decide +kernel
theorem dX12_taken_44 : decode cX12_taken 44 = .ok (.invokestatic 427, 3) := by decide +kernel
theorem dX12_taken_47 : decode cX12_taken 47 = .ok (.istore_n 3, 1) := by decide +kernel
theorem dX12_taken_48 : decode cX12_taken 48 = .ok (.goto (-15), 3) := by decide +kernel
theorem dX12_taken_51 : decode cX12_taken 51 = .ok (.iload_n 3, 1) := by decide +kernel
theorem dX12_taken_52 : decode cX12_taken 52 = .ok (.iload_n 2, 1) := by decide +kernel
theorem dX12_taken_53 : decode cX12_taken 53 = .ok (.if_icmp .ne 12, 3) := by decide +kernel
theorem dX12_taken_56 : decode cX12_taken 56 = .ok (.aload_n 0, 1) := by decide +kernel
theorem dX12_taken_57 : decode cX12_taken 57 = .ok (.getfield 41, 3) := by decide +kernel
theorem dX12_taken_60 : decode cX12_taken 60 = .ok (.iload_n 1, 1) := by decide +kernel
theorem dX12_taken_61 : decode cX12_taken 61 = .ok (.iaload, 1) := by decide +kernel
theorem dX12_taken_62 : decode cX12_taken 62 = .ok (.goto 5, 3) := by decide +kernel
theorem dX12_taken_65 : decode cX12_taken 65 = .ok (.bipush (-13), 2) := by decide +kernel
theorem dX12_taken_67 : decode cX12_taken 67 = .ok (.ireturn, 1) := by decide +kernel
end
section
theorem dJ11_isValidCodePoint_9a6ad_0 : decode cJ11_isValidCodePoint_9a6ad 0 = .ok (.iload_n 0, 1) := by decide +kernel
theorem dJ11_isValidCodePoint_9a6ad_1 : decode cJ11_isValidCodePoint_9a6ad 1 = .ok (.bipush 16, 2) := by decide +kernel
theorem dJ11_isValidCodePoint_9a6ad_3 : decode cJ11_isValidCodePoint_9a6ad 3 = .ok (.iushr, 1) := by decide +kernel
theorem dJ11_isValidCodePoint_9a6ad_4 : decode cJ11_isValidCodePoint_9a6ad 4 = .ok (.istore_n 1, 1) := by decide +kernel
theorem dJ11_isValidCodePoint_9a6ad_5 : decode cJ11_isValidCodePoint_9a6ad 5 = .ok (.iload_n 1, 1) := by decide +kernel
theorem dJ11_isValidCodePoint_9a6ad_6 : decode cJ11_isValidCodePoint_9a6ad 6 = .ok (.bipush 17, 2) := by decide +kernel
theorem dJ11_isValidCodePoint_9a6ad_8 : decode cJ11_isValidCodePoint_9a6ad 8 = .ok (.if_icmp .ge 7, 3) := by decide +kernel
theorem dJ11_isValidCodePoint_9a6ad_11 : decode cJ11_isValidCodePoint_9a6ad 11 = .ok (.iconst 1, 1) := by decide +kernel
theorem dJ11_isValidCodePoint_9a6ad_12 : decode cJ11_isValidCodePoint_9a6ad 12 = .ok (.goto 4, 3) := by decide +kernel
theorem dJ11_isValidCodePoint_9a6ad_15 : decode cJ11_isValidCodePoint_9a6ad 15 = .ok (.iconst 0, 1) := by decide +kernel
theorem dJ11_isValidCodePoint_9a6ad_16 : decode cJ11_isValidCodePoint_9a6ad 16 = .ok (.ireturn, 1) := by decide +kernel
theorem dJ11_highSurrogate_5068e_0 : decode cJ11_highSurrogate_5068e 0 = .ok (.iload_n 0, 1) := by decide +kernel
theorem dJ11_highSurrogate_5068e_1 : decode cJ11_highSurrogate_5068e 1 = .ok (.bipush 10, 2) := by decide +kernel
theorem dJ11_highSurrogate_5068e_3 : decode cJ11_highSurrogate_5068e 3 = .ok (.iushr, 1) := by decide +kernel
theorem dJ11_highSurrogate_5068e_4 : decode cJ11_highSurrogate_5068e 4 = .ok (.ldc 110, 2) := by decide +kernel
theorem dJ11_highSurrogate_5068e_6 : decode cJ11_highSurrogate_5068e 6 = .ok (.iadd, 1) := by decide +kernel
theorem dJ11_highSurrogate_5068e_7 : decode cJ11_highSurrogate_5068e 7 = .ok (.i2c, 1) := by decide +kernel
theorem dJ11_highSurrogate_5068e_8 : decode cJ11_highSurrogate_5068e 8 = .ok (.ireturn, 1) := by decide +kernel
theorem dJ11_lowSurrogate_5068e_0 : decode cJ11_lowSurrogate_5068e 0 = .ok (.iload_n 0, 1) := by decide +kernel
theorem dJ11_lowSurrogate_5068e_1 : decode cJ11_lowSurrogate_5068e 1 = .ok (.sipush 1023, 3) := by decide +kernel
theorem dJ11_lowSurrogate_5068e_4 : decode cJ11_lowSurrogate_5068e 4 = .ok (.iand, 1) := by decide +kernel
theorem dJ11_lowSurrogate_5068e_5 : decode cJ11_lowSurrogate_5068e 5 = .ok (.ldc 76, 2) := by decide +kernel
theorem dJ11_lowSurrogate_5068e_7 : decode cJ11_lowSurrogate_5068e 7 = .ok (.iadd, 1) := by decide +kernel
theorem dJ11_lowSurrogate_5068e_8 : decode cJ11_lowSurrogate_5068e 8 = .ok (.i2c, 1) := by decide +kernel
theorem dJ11_lowSurrogate_5068e_9 : decode cJ11_lowSurrogate_5068e 9 = .ok (.ireturn, 1) := by decide +kernel
theorem dJ9_abs_0f7a4_0 : decode cJ9_abs_0f7a4 0 = .ok (.iload_n 0, 1) := by decide +kernel
theorem dJ9_abs_0f7a4_1 : decode cJ9_abs_0f7a4 1 = .ok (.ifCond .ge 8, 3) := by decide +kernel
theorem dJ9_abs_0f7a4_4 : decode cJ9_abs_0f7a4 4 = .ok (.iload_n 0, 1) := by decide +kernel
theorem dJ9_abs_0f7a4_5 : decode cJ9_abs_0f7a4 5 = .ok (.ineg, 1) := by decide +kernel
theorem dJ9_abs_0f7a4_6 : decode cJ9_abs_0f7a4 6 = .ok (.goto 4, 3) := by decide +kernel
theorem dJ9_abs_0f7a4_9 : decode cJ9_abs_0f7a4 9 = .ok (.iload_n 0, 1) := by decide +kernel
theorem dJ9_abs_0f7a4_10 : decode cJ9_abs_0f7a4 10 = .ok (.ireturn, 1) := by decide +kernel
theorem dJ9_max_7cf53_0 : decode cJ9_max_7cf53 0 = .ok (.iload_n 0, 1) := by decide +kernel
theorem dJ9_max_7cf53_1 : decode cJ9_max_7cf53 1 = .ok (.iload_n 1, 1) := by decide +kernel
theorem dJ9_max_7cf53_2 : decode cJ9_max_7cf53 2 = .ok (.if_icmp .lt 7, 3) := by decide +kernel
theorem dJ9_max_7cf53_5 : decode cJ9_max_7cf53 5 = .ok (.iload_n 0, 1) := by decide +kernel
theorem dJ9_max_7cf53_6 : decode cJ9_max_7cf53 6 = .ok (.goto 4, 3) := by decide +kernel
theorem dJ9_max_7cf53_9 : decode cJ9_max_7cf53 9 = .ok (.iload_n 1, 1) := by decide +kernel
theorem dJ9_max_7cf53_10 : decode cJ9_max_7cf53 10 = .ok (.ireturn, 1) := by decide +kernel
theorem dJ9_min_7cf53_0 : decode cJ9_min_7cf53 0 = .ok (.iload_n 0, 1) := by decide +kernel
theorem dJ9_min_7cf53_1 : decode cJ9_min_7cf53 1 = .ok (.iload_n 1, 1) := by decide +kernel
theorem dJ9_min_7cf53_2 : decode cJ9_min_7cf53 2 = .ok (.if_icmp .gt 7, 3) := by decide +kernel
theorem dJ9_min_7cf53_5 : decode cJ9_min_7cf53 5 = .ok (.iload_n 0, 1) := by decide +kernel
theorem dJ9_min_7cf53_6 : decode cJ9_min_7cf53 6 = .ok (.goto 4, 3) := by decide +kernel
theorem dJ9_min_7cf53_9 : decode cJ9_min_7cf53 9 = .ok (.iload_n 1, 1) := by decide +kernel
theorem dJ9_min_7cf53_10 : decode cJ9_min_7cf53 10 = .ok (.ireturn, 1) := by decide +kernel
theorem dJ9_min_f86c9_0 : decode cJ9_min_f86c9 0 = .ok (.lload_n 0, 1) := by decide +kernel
theorem dJ9_min_f86c9_1 : decode cJ9_min_f86c9 1 = .ok (.lload_n 2, 1) := by decide +kernel
theorem dJ9_min_f86c9_2 : decode cJ9_min_f86c9 2 = .ok (.lcmp, 1) := by decide +kernel
theorem dJ9_min_f86c9_3 : decode cJ9_min_f86c9 3 = .ok (.ifCond .gt 7, 3) := by decide +kernel
theorem dJ9_min_f86c9_6 : decode cJ9_min_f86c9 6 = .ok (.lload_n 0, 1) := by decide +kernel
theorem dJ9_min_f86c9_7 : decode cJ9_min_f86c9 7 = .ok (.goto 4, 3) := by decide +kernel
theorem dJ9_min_f86c9_10 : decode cJ9_min_f86c9 10 = .ok (.lload_n 2, 1) := by decide +kernel
theorem dJ9_min_f86c9_11 : decode cJ9_min_f86c9 11 = .ok (.lreturn, 1) := by decide +kernel
theorem dJ0_length_8abf5_0 : decode cJ0_length_8abf5 0 = .ok (.aload_n 0, 1) := by decide +kernel
theorem dJ0_length_8abf5_1 : decode cJ0_length_8abf5 1 = .ok (.getfield 9, 3) := by decide +kernel
theorem dJ0_length_8abf5_4 : decode cJ0_length_8abf5 4 = .ok (.arraylength, 1) := by decide +kernel
theorem dJ0_length_8abf5_5 : decode cJ0_length_8abf5 5 = .ok (.aload_n 0, 1) := by decide +kernel
theorem dJ0_length_8abf5_6 : decode cJ0_length_8abf5 6 = .ok (.invokevirtual 335, 3) := by decide +kernel
theorem dJ0_length_8abf5_9 : decode cJ0_length_8abf5 9 = .ok (.ishr, 1) := by decide +kernel
theorem dJ0_length_8abf5_10 : decode cJ0_length_8abf5 10 = .ok (.ireturn, 1) := by decide +kernel
theorem dJ0_charAt_5068e_0 : decode cJ0_charAt_5068e 0 = .ok (.aload_n 0, 1) := by decide +kernel
theorem dJ0_charAt_5068e_1 : decode cJ0_charAt_5068e 1 = .ok (.invokevirtual 492, 3) := by decide +kernel
theorem dJ0_charAt_5068e_4 : decode cJ0_charAt_5068e 4 = .ok (.ifCond .eq 12, 3) := by decide +kernel
theorem dJ0_charAt_5068e_7 : decode cJ0_charAt_5068e 7 = .ok (.aload_n 0, 1) := by decide +kernel
theorem dJ0_charAt_5068e_8 : decode cJ0_charAt_5068e 8 = .ok (.getfield 9, 3) := by decide +kernel
theorem dJ0_charAt_5068e_11 : decode cJ0_charAt_5068e 11 = .ok (.iload_n 1, 1) := by decide +kernel
theorem dJ0_charAt_5068e_12 : decode cJ0_charAt_5068e 12 = .ok (.invokestatic 495, 3) := by decide +kernel
theorem dJ0_charAt_5068e_15 : decode cJ0_charAt_5068e 15 = .ok (.ireturn, 1) := by decide +kernel
theorem dJ0_charAt_5068e_16 : decode cJ0_charAt_5068e 16 = .ok (.aload_n 0, 1) := by decide +kernel
theorem dJ0_charAt_5068e_17 : decode cJ0_charAt_5068e 17 = .ok (.getfield 9, 3) := by decide +kernel
theorem dJ0_charAt_5068e_20 : decode cJ0_charAt_5068e 20 = .ok (.iload_n 1, 1) := by decide +kernel
theorem dJ0_charAt_5068e_21 : decode cJ0_charAt_5068e 21 = .ok (.invokestatic 498, 3) := by decide +kernel
theorem dJ0_charAt_5068e_24 : decode cJ0_charAt_5068e 24 = .ok (.ireturn, 1) := by decide +kernel
theorem dJ0_indexOf_0f7a4_0 : decode cJ0_indexOf_0f7a4 0 = .ok (.aload_n 0, 1) := by decide +kernel
theorem dJ0_indexOf_0f7a4_1 : decode cJ0_indexOf_0f7a4 1 = .ok (.iload_n 1, 1) := by decide +kernel
theorem dJ0_indexOf_0f7a4_2 : decode cJ0_indexOf_0f7a4 2 = .ok (.iconst 0, 1) := by decide +kernel
theorem dJ0_indexOf_0f7a4_3 : decode cJ0_indexOf_0f7a4 3 = .ok (.invokevirtual 633, 3) := by decide +kernel
theorem dJ0_indexOf_0f7a4_6 : decode cJ0_indexOf_0f7a4 6 = .ok (.ireturn, 1) := by decide +kernel
theorem dJ0_indexOf_7cf53_0 : decode cJ0_indexOf_7cf53 0 = .ok (.aload_n 0, 1) := by decide +kernel
theorem dJ0_indexOf_7cf53_1 : decode cJ0_indexOf_7cf53 1 = .ok (.invokevirtual 492, 3) := by decide +kernel
theorem dJ0_indexOf_7cf53_4 : decode cJ0_indexOf_7cf53 4 = .ok (.ifCond .eq 19, 3) := by decide +kernel
theorem dJ0_indexOf_7cf53_7 : decode cJ0_indexOf_7cf53 7 = .ok (.aload_n 0, 1) := by decide +kernel
theorem dJ0_indexOf_7cf53_8 : decode cJ0_indexOf_7cf53 8 = .ok (.getfield 9, 3) := by decide +kernel
theorem dJ0_indexOf_7cf53_11 : decode cJ0_indexOf_7cf53 11 = .ok (.iload_n 1, 1) := by decide +kernel
theorem dJ0_indexOf_7cf53_12 : decode cJ0_indexOf_7cf53 12 = .ok (.iload_n 2, 1) := by decide +kernel
theorem dJ0_indexOf_7cf53_13 : decode cJ0_indexOf_7cf53 13 = .ok (.aload_n 0, 1) := by decide +kernel
theorem dJ0_indexOf_7cf53_14 : decode cJ0_indexOf_7cf53 14 = .ok (.invokevirtual 505, 3) := by decide +kernel
theorem dJ0_indexOf_7cf53_17 : decode cJ0_indexOf_7cf53 17 = .ok (.invokestatic 637, 3) := by decide +kernel
theorem dJ0_indexOf_7cf53_20 : decode cJ0_indexOf_7cf53 20 = .ok (.goto 16, 3) := by decide +kernel
theorem dJ0_indexOf_7cf53_23 : decode cJ0_indexOf_7cf53 23 = .ok (.aload_n 0, 1) := by decide +kernel
theorem dJ0_indexOf_7cf53_24 : decode cJ0_indexOf_7cf53 24 = .ok (.getfield 9, 3) := by decide +kernel
theorem dJ0_indexOf_7cf53_27 : decode cJ0_indexOf_7cf53 27 = .ok (.iload_n 1, 1) := by decide +kernel
theorem dJ0_indexOf_7cf53_28 : decode cJ0_indexOf_7cf53 28 = .ok (.iload_n 2, 1) := by decide +kernel
theorem dJ0_indexOf_7cf53_29 : decode cJ0_indexOf_7cf53 29 = .ok (.aload_n 0, 1) := by decide +kernel
theorem dJ0_indexOf_7cf53_30 : decode cJ0_indexOf_7cf53 30 = .ok (.invokevirtual 505, 3) := by decide +kernel
theorem dJ0_indexOf_7cf53_33 : decode cJ0_indexOf_7cf53 33 = .ok (.invokestatic 640, 3) := by decide +kernel
theorem dJ0_indexOf_7cf53_36 : decode cJ0_indexOf_7cf53 36 = .ok (.ireturn, 1) := by decide +kernel
theorem dJ0_coder_7d493_0 : decode cJ0_coder_7d493 0 = .ok (.getstatic 38, 3) := by decide +kernel
theorem dJ0_coder_7d493_3 : decode cJ0_coder_7d493 3 = .ok (.ifCond .eq 10, 3) := by decide +kernel
theorem dJ0_coder_7d493_6 : decode cJ0_coder_7d493 6 = .ok (.aload_n 0, 1) := by decide +kernel
theorem dJ0_coder_7d493_7 : decode cJ0_coder_7d493 7 = .ok (.getfield 15, 3) := by decide +kernel
theorem dJ0_coder_7d493_10 : decode cJ0_coder_7d493 10 = .ok (.goto 4, 3) := by decide +kernel
theorem dJ0_coder_7d493_13 : decode cJ0_coder_7d493 13 = .ok (.iconst 1, 1) := by decide +kernel
theorem dJ0_coder_7d493_14 : decode cJ0_coder_7d493 14 = .ok (.ireturn, 1) := by decide +kernel
theorem dJ0_isLatin1_aae02_0 : decode cJ0_isLatin1_aae02 0 = .ok (.getstatic 38, 3) := by decide +kernel
theorem dJ0_isLatin1_aae02_3 : decode cJ0_isLatin1_aae02 3 = .ok (.ifCond .eq 14, 3) := by decide +kernel
theorem dJ0_isLatin1_aae02_6 : decode cJ0_isLatin1_aae02 6 = .ok (.aload_n 0, 1) := by decide +kernel
theorem dJ0_isLatin1_aae02_7 : decode cJ0_isLatin1_aae02 7 = .ok (.getfield 15, 3) := by decide +kernel
theorem dJ0_isLatin1_aae02_10 : decode cJ0_isLatin1_aae02 10 = .ok (.ifCond .ne 7, 3) := by decide +kernel
theorem dJ0_isLatin1_aae02_13 : decode cJ0_isLatin1_aae02 13 = .ok (.iconst 1, 1) := by decide +kernel
theorem dJ0_isLatin1_aae02_14 : decode cJ0_isLatin1_aae02 14 = .ok (.goto 4, 3) := by decide +kernel
theorem dJ0_isLatin1_aae02_17 : decode cJ0_isLatin1_aae02 17 = .ok (.iconst 0, 1) := by decide +kernel
theorem dJ0_isLatin1_aae02_18 : decode cJ0_isLatin1_aae02 18 = .ok (.ireturn, 1) := by decide +kernel
theorem dJ0_checkIndex_df160_0 : decode cJ0_checkIndex_df160 0 = .ok (.iload_n 0, 1) := by decide +kernel
theorem dJ0_checkIndex_df160_1 : decode cJ0_checkIndex_df160 1 = .ok (.iload_n 1, 1) := by decide +kernel
theorem dJ0_checkIndex_df160_2 : decode cJ0_checkIndex_df160 2 = .ok (.getstatic 1053, 3) := by decide +kernel
theorem dJ0_checkIndex_df160_5 : decode cJ0_checkIndex_df160 5 = .ok (.invokestatic 1059, 3) := by decide +kernel
theorem dJ0_checkIndex_df160_8 : decode cJ0_checkIndex_df160 8 = .ok (.pop, 1) := by decide +kernel
theorem dJ0_checkIndex_df160_9 : decode cJ0_checkIndex_df160 9 = .ok (.return_, 1) := by decide +kernel
theorem dJ0_checkBoundsBeginEnd_23922_0 : decode cJ0_checkBoundsBeginEnd_23922 0 = .ok (.iload_n 0, 1) := by decide +kernel
theorem dJ0_checkBoundsBeginEnd_23922_1 : decode cJ0_checkBoundsBeginEnd_23922 1 = .ok (.iload_n 1, 1) := by decide +kernel
theorem dJ0_checkBoundsBeginEnd_23922_2 : decode cJ0_checkBoundsBeginEnd_23922 2 = .ok (.iload_n 2, 1) := by decide +kernel
theorem dJ0_checkBoundsBeginEnd_23922_3 : decode cJ0_checkBoundsBeginEnd_23922 3 = .ok (.getstatic 1053, 3) := by decide +kernel
theorem dJ0_checkBoundsBeginEnd_23922_6 : decode cJ0_checkBoundsBeginEnd_23922 6 = .ok (.invokestatic 1062, 3) := by decide +kernel
theorem dJ0_checkBoundsBeginEnd_23922_9 : decode cJ0_checkBoundsBeginEnd_23922 9 = .ok (.pop, 1) := by decide +kernel
theorem dJ0_checkBoundsBeginEnd_23922_10 : decode cJ0_checkBoundsBeginEnd_23922 10 = .ok (.return_, 1) := by decide +kernel
theorem dJ1_charAt_3b067_0 : decode cJ1_charAt_3b067 0 = .ok (.iload_n 1, 1) := by decide +kernel
theorem dJ1_charAt_3b067_1 : decode cJ1_charAt_3b067 1 = .ok (.aload_n 0, 1) := by decide +kernel
theorem dJ1_charAt_3b067_2 : decode cJ1_charAt_3b067 2 = .ok (.arraylength, 1) := by decide +kernel
theorem dJ1_charAt_3b067_3 : decode cJ1_charAt_3b067 3 = .ok (.invokestatic 9, 3) := by decide +kernel
theorem dJ1_charAt_3b067_6 : decode cJ1_charAt_3b067 6 = .ok (.aload_n 0, 1) := by decide +kernel
theorem dJ1_charAt_3b067_7 : decode cJ1_charAt_3b067 7 = .ok (.iload_n 1, 1) := by decide +kernel
theorem dJ1_charAt_3b067_8 : decode cJ1_charAt_3b067 8 = .ok (.baload, 1) := by decide +kernel
theorem dJ1_charAt_3b067_9 : decode cJ1_charAt_3b067 9 = .ok (.sipush 255, 3) := by decide +kernel
theorem dJ1_charAt_3b067_12 : decode cJ1_charAt_3b067 12 = .ok (.iand, 1) := by decide +kernel
theorem dJ1_charAt_3b067_13 : decode cJ1_charAt_3b067 13 = .ok (.i2c, 1) := by decide +kernel
theorem dJ1_charAt_3b067_14 : decode cJ1_charAt_3b067 14 = .ok (.ireturn, 1) := by decide +kernel
theorem dJ1_canEncode_9a6ad_0 : decode cJ1_canEncode_9a6ad 0 = .ok (.iload_n 0, 1) := by decide +kernel
theorem dJ1_canEncode_9a6ad_1 : decode cJ1_canEncode_9a6ad 1 = .ok (.ifCond .lt 14, 3) := by decide +kernel
theorem dJ1_canEncode_9a6ad_4 : decode cJ1_canEncode_9a6ad 4 = .ok (.iload_n 0, 1) := by decide +kernel
theorem dJ1_canEncode_9a6ad_5 : decode cJ1_canEncode_9a6ad 5 = .ok (.sipush 255, 3) := by decide +kernel
theorem dJ1_canEncode_9a6ad_8 : decode cJ1_canEncode_9a6ad 8 = .ok (.if_icmp .gt 7, 3) := by decide +kernel
theorem dJ1_canEncode_9a6ad_11 : decode cJ1_canEncode_9a6ad 11 = .ok (.iconst 1, 1) := by decide +kernel
theorem dJ1_canEncode_9a6ad_12 : decode cJ1_canEncode_9a6ad 12 = .ok (.goto 4, 3) := by decide +kernel
theorem dJ1_canEncode_9a6ad_15 : decode cJ1_canEncode_9a6ad 15 = .ok (.iconst 0, 1) := by decide +kernel
theorem dJ1_canEncode_9a6ad_16 : decode cJ1_canEncode_9a6ad 16 = .ok (.ireturn, 1) := by decide +kernel
theorem dJ1_indexOf_4cfef_0 : decode cJ1_indexOf_4cfef 0 = .ok (.iload_n 1, 1) := by decide +kernel
theorem dJ1_indexOf_4cfef_1 : decode cJ1_indexOf_4cfef 1 = .ok (.invokestatic 88, 3) := by decide +kernel
theorem dJ1_indexOf_4cfef_4 : decode cJ1_indexOf_4cfef 4 = .ok (.ifCond .ne 5, 3) := by decide +kernel
theorem dJ1_indexOf_4cfef_7 : decode cJ1_indexOf_4cfef 7 = .ok (.iconst (-1), 1) := by decide +kernel
theorem dJ1_indexOf_4cfef_8 : decode cJ1_indexOf_4cfef 8 = .ok (.ireturn, 1) := by decide +kernel
theorem dJ1_indexOf_4cfef_9 : decode cJ1_indexOf_4cfef 9 = .ok (.iload_n 2, 1) := by decide +kernel
theorem dJ1_indexOf_4cfef_10 : decode cJ1_indexOf_4cfef 10 = .ok (.iconst 0, 1) := by decide +kernel
theorem dJ1_indexOf_4cfef_11 : decode cJ1_indexOf_4cfef 11 = .ok (.invokestatic 92, 3) := by decide +kernel
theorem dJ1_indexOf_4cfef_14 : decode cJ1_indexOf_4cfef 14 = .ok (.istore_n 2, 1) := by decide +kernel
theorem dJ1_indexOf_4cfef_15 : decode cJ1_indexOf_4cfef 15 = .ok (.iload_n 3, 1) := by decide +kernel
theorem dJ1_indexOf_4cfef_16 : decode cJ1_indexOf_4cfef 16 = .ok (.aload_n 0, 1) := by decide +kernel
theorem dJ1_indexOf_4cfef_17 : decode cJ1_indexOf_4cfef 17 = .ok (.arraylength, 1) := by decide +kernel
theorem dJ1_indexOf_4cfef_18 : decode cJ1_indexOf_4cfef 18 = .ok (.invokestatic 38, 3) := by decide +kernel
theorem dJ1_indexOf_4cfef_21 : decode cJ1_indexOf_4cfef 21 = .ok (.istore_n 3, 1) := by decide +kernel
theorem dJ1_indexOf_4cfef_22 : decode cJ1_indexOf_4cfef 22 = .ok (.iload_n 2, 1) := by decide +kernel
theorem dJ1_indexOf_4cfef_23 : decode cJ1_indexOf_4cfef 23 = .ok (.iload_n 3, 1) := by decide +kernel
theorem dJ1_indexOf_4cfef_24 : decode cJ1_indexOf_4cfef 24 = .ok (.if_icmp .lt 5, 3) := by decide +kernel
theorem dJ1_indexOf_4cfef_27 : decode cJ1_indexOf_4cfef 27 = .ok (.iconst (-1), 1) := by decide +kernel
theorem dJ1_indexOf_4cfef_28 : decode cJ1_indexOf_4cfef 28 = .ok (.ireturn, 1) := by decide +kernel
theorem dJ1_indexOf_4cfef_29 : decode cJ1_indexOf_4cfef 29 = .ok (.aload_n 0, 1) := by decide +kernel
theorem dJ1_indexOf_4cfef_30 : decode cJ1_indexOf_4cfef 30 = .ok (.iload_n 1, 1) := by decide +kernel
theorem dJ1_indexOf_4cfef_31 : decode cJ1_indexOf_4cfef 31 = .ok (.iload_n 2, 1) := by decide +kernel
theorem dJ1_indexOf_4cfef_32 : decode cJ1_indexOf_4cfef 32 = .ok (.iload_n 3, 1) := by decide +kernel
theorem dJ1_indexOf_4cfef_33 : decode cJ1_indexOf_4cfef 33 = .ok (.invokestatic 95, 3) := by decide +kernel
theorem dJ1_indexOf_4cfef_36 : decode cJ1_indexOf_4cfef 36 = .ok (.ireturn, 1) := by decide +kernel
theorem dJ1_indexOfChar_4cfef_0 : decode cJ1_indexOfChar_4cfef 0 = .ok (.iload_n 1, 1) := by decide +kernel
theorem dJ1_indexOfChar_4cfef_1 : decode cJ1_indexOfChar_4cfef 1 = .ok (.i2b, 1) := by decide +kernel
theorem dJ1_indexOfChar_4cfef_2 : decode cJ1_indexOfChar_4cfef 2 = .ok (.istore 4, 2) := by decide +kernel
theorem dJ1_indexOfChar_4cfef_4 : decode cJ1_indexOfChar_4cfef 4 = .ok (.iload_n 2, 1) := by decide +kernel
theorem dJ1_indexOfChar_4cfef_5 : decode cJ1_indexOfChar_4cfef 5 = .ok (.istore 5, 2) := by decide +kernel
theorem dJ1_indexOfChar_4cfef_7 : decode cJ1_indexOfChar_4cfef 7 = .ok (.iload 5, 2) := by decide +kernel
theorem dJ1_indexOfChar_4cfef_9 : decode cJ1_indexOfChar_4cfef 9 = .ok (.iload_n 3, 1) := by decide +kernel
theorem dJ1_indexOfChar_4cfef_10 : decode cJ1_indexOfChar_4cfef 10 = .ok (.if_icmp .ge 21, 3) := by decide +kernel
theorem dJ1_indexOfChar_4cfef_13 : decode cJ1_indexOfChar_4cfef 13 = .ok (.aload_n 0, 1) := by decide +kernel
theorem dJ1_indexOfChar_4cfef_14 : decode cJ1_indexOfChar_4cfef 14 = .ok (.iload 5, 2) := by decide +kernel
theorem dJ1_indexOfChar_4cfef_16 : decode cJ1_indexOfChar_4cfef 16 = .ok (.baload, 1) := by decide +kernel
theorem dJ1_indexOfChar_4cfef_17 : decode cJ1_indexOfChar_4cfef 17 = .ok (.iload 4, 2) := by decide +kernel
theorem dJ1_indexOfChar_4cfef_19 : decode cJ1_indexOfChar_4cfef 19 = .ok (.if_icmp .ne 6, 3) := by decide +kernel
theorem dJ1_indexOfChar_4cfef_22 : decode cJ1_indexOfChar_4cfef 22 = .ok (.iload 5, 2) := by decide +kernel
theorem dJ1_indexOfChar_4cfef_24 : decode cJ1_indexOfChar_4cfef 24 = .ok (.ireturn, 1) := by decide +kernel
theorem dJ1_indexOfChar_4cfef_25 : decode cJ1_indexOfChar_4cfef 25 = .ok (.iinc 5 1, 3) := by decide +kernel
theorem dJ1_indexOfChar_4cfef_28 : decode cJ1_indexOfChar_4cfef 28 = .ok (.goto (-21), 3) := by decide +kernel
theorem dJ1_indexOfChar_4cfef_31 : decode cJ1_indexOfChar_4cfef 31 = .ok (.iconst (-1), 1) := by decide +kernel
theorem dJ1_indexOfChar_4cfef_32 : decode cJ1_indexOfChar_4cfef 32 = .ok (.ireturn, 1) := by decide +kernel
theorem dJ2_getChar_3b067_0 : decode cJ2_getChar_3b067 0 = .ok (.getstatic 44, 3) := by decide +kernel
theorem dJ2_getChar_3b067_3 : decode cJ2_getChar_3b067 3 = .ok (.ifCond .ne 25, 3) := by decide +kernel
theorem dJ2_getChar_3b067_6 : decode cJ2_getChar_3b067 6 = .ok (.iload_n 1, 1) := by decide +kernel
theorem dJ2_getChar_3b067_7 : decode cJ2_getChar_3b067 7 = .ok (.ifCond .lt 11, 3) := by decide +kernel
theorem dJ2_getChar_3b067_10 : decode cJ2_getChar_3b067 10 = .ok (.iload_n 1, 1) := by decide +kernel
theorem dJ2_getChar_3b067_11 : decode cJ2_getChar_3b067 11 = .ok (.aload_n 0, 1) := by decide +kernel
theorem dJ2_getChar_3b067_12 : decode cJ2_getChar_3b067 12 = .ok (.invokestatic 48, 3) := by decide +kernel
theorem dJ2_getChar_3b067_15 : decode cJ2_getChar_3b067 15 = .ok (.if_icmp .lt 13, 3) := by decide +kernel
theorem dJ2_getChar_3b067_18 : decode cJ2_getChar_3b067 18 = .ok (.new 52, 3) := by decide +kernel
theorem dJ2_getChar_3b067_21 : decode cJ2_getChar_3b067 21 = .ok (.dup, 1) := by decide +kernel
theorem dJ2_getChar_3b067_22 : decode cJ2_getChar_3b067 22 = .ok (.ldc 54, 2) := by decide +kernel
theorem dJ2_getChar_3b067_24 : decode cJ2_getChar_3b067 24 = .ok (.invokespecial 56, 3) := by decide +kernel
theorem dJ2_getChar_3b067_27 : decode cJ2_getChar_3b067 27 = .ok (.athrow, 1) := by decide +kernel
theorem dJ2_getChar_3b067_28 : decode cJ2_getChar_3b067 28 = .ok (.iload_n 1, 1) := by decide +kernel
theorem dJ2_getChar_3b067_29 : decode cJ2_getChar_3b067 29 = .ok (.iconst 1, 1) := by decide +kernel
theorem dJ2_getChar_3b067_30 : decode cJ2_getChar_3b067 30 = .ok (.ishl, 1) := by decide +kernel
theorem dJ2_getChar_3b067_31 : decode cJ2_getChar_3b067 31 = .ok (.istore_n 1, 1) := by decide +kernel
theorem dJ2_getChar_3b067_32 : decode cJ2_getChar_3b067 32 = .ok (.aload_n 0, 1) := by decide +kernel
theorem dJ2_getChar_3b067_33 : decode cJ2_getChar_3b067 33 = .ok (.iload_n 1, 1) := by decide +kernel
theorem dJ2_getChar_3b067_34 : decode cJ2_getChar_3b067 34 = .ok (.iinc 1 1, 3) := by decide +kernel
theorem dJ2_getChar_3b067_37 : decode cJ2_getChar_3b067 37 = .ok (.baload, 1) := by decide +kernel
theorem dJ2_getChar_3b067_38 : decode cJ2_getChar_3b067 38 = .ok (.sipush 255, 3) := by decide +kernel
theorem dJ2_getChar_3b067_41 : decode cJ2_getChar_3b067 41 = .ok (.iand, 1) := by decide +kernel
theorem dJ2_getChar_3b067_42 : decode cJ2_getChar_3b067 42 = .ok (.getstatic 59, 3) := by decide +kernel
theorem dJ2_getChar_3b067_45 : decode cJ2_getChar_3b067 45 = .ok (.ishl, 1) := by decide +kernel
theorem dJ2_getChar_3b067_46 : decode cJ2_getChar_3b067 46 = .ok (.aload_n 0, 1) := by decide +kernel
theorem dJ2_getChar_3b067_47 : decode cJ2_getChar_3b067 47 = .ok (.iload_n 1, 1) := by decide +kernel
theorem dJ2_getChar_3b067_48 : decode cJ2_getChar_3b067 48 = .ok (.baload, 1) := by decide +kernel
theorem dJ2_getChar_3b067_49 : decode cJ2_getChar_3b067 49 = .ok (.sipush 255, 3) := by decide +kernel
theorem dJ2_getChar_3b067_52 : decode cJ2_getChar_3b067 52 = .ok (.iand, 1) := by decide +kernel
theorem dJ2_getChar_3b067_53 : decode cJ2_getChar_3b067 53 = .ok (.getstatic 63, 3) := by decide +kernel
theorem dJ2_getChar_3b067_56 : decode cJ2_getChar_3b067 56 = .ok (.ishl, 1) := by decide +kernel
theorem dJ2_getChar_3b067_57 : decode cJ2_getChar_3b067 57 = .ok (.ior, 1) := by decide +kernel
theorem dJ2_getChar_3b067_58 : decode cJ2_getChar_3b067 58 = .ok (.i2c, 1) := by decide +kernel
theorem dJ2_getChar_3b067_59 : decode cJ2_getChar_3b067 59 = .ok (.ireturn, 1) := by decide +kernel
theorem dJ2_length_9d52b_0 : decode cJ2_length_9d52b 0 = .ok (.aload_n 0, 1) := by decide +kernel
theorem dJ2_length_9d52b_1 : decode cJ2_length_9d52b 1 = .ok (.arraylength, 1) := by decide +kernel
theorem dJ2_length_9d52b_2 : decode cJ2_length_9d52b 2 = .ok (.iconst 1, 1) := by decide +kernel
theorem dJ2_length_9d52b_3 : decode cJ2_length_9d52b 3 = .ok (.ishr, 1) := by decide +kernel
theorem dJ2_length_9d52b_4 : decode cJ2_length_9d52b 4 = .ok (.ireturn, 1) := by decide +kernel
theorem dJ2_indexOf_4cfef_0 : decode cJ2_indexOf_4cfef 0 = .ok (.iload_n 2, 1) := by decide +kernel
theorem dJ2_indexOf_4cfef_1 : decode cJ2_indexOf_4cfef 1 = .ok (.iconst 0, 1) := by decide +kernel
theorem dJ2_indexOf_4cfef_2 : decode cJ2_indexOf_4cfef 2 = .ok (.invokestatic 224, 3) := by decide +kernel
theorem dJ2_indexOf_4cfef_5 : decode cJ2_indexOf_4cfef 5 = .ok (.istore_n 2, 1) := by decide +kernel
theorem dJ2_indexOf_4cfef_6 : decode cJ2_indexOf_4cfef 6 = .ok (.iload_n 3, 1) := by decide +kernel
theorem dJ2_indexOf_4cfef_7 : decode cJ2_indexOf_4cfef 7 = .ok (.aload_n 0, 1) := by decide +kernel
theorem dJ2_indexOf_4cfef_8 : decode cJ2_indexOf_4cfef 8 = .ok (.arraylength, 1) := by decide +kernel
theorem dJ2_indexOf_4cfef_9 : decode cJ2_indexOf_4cfef 9 = .ok (.iconst 1, 1) := by decide +kernel
theorem dJ2_indexOf_4cfef_10 : decode cJ2_indexOf_4cfef 10 = .ok (.ishr, 1) := by decide +kernel
theorem dJ2_indexOf_4cfef_11 : decode cJ2_indexOf_4cfef 11 = .ok (.invokestatic 183, 3) := by decide +kernel
theorem dJ2_indexOf_4cfef_14 : decode cJ2_indexOf_4cfef 14 = .ok (.istore_n 3, 1) := by decide +kernel
theorem dJ2_indexOf_4cfef_15 : decode cJ2_indexOf_4cfef 15 = .ok (.iload_n 2, 1) := by decide +kernel
theorem dJ2_indexOf_4cfef_16 : decode cJ2_indexOf_4cfef 16 = .ok (.iload_n 3, 1) := by decide +kernel
theorem dJ2_indexOf_4cfef_17 : decode cJ2_indexOf_4cfef 17 = .ok (.if_icmp .lt 5, 3) := by decide +kernel
theorem dJ2_indexOf_4cfef_20 : decode cJ2_indexOf_4cfef 20 = .ok (.iconst (-1), 1) := by decide +kernel
theorem dJ2_indexOf_4cfef_21 : decode cJ2_indexOf_4cfef 21 = .ok (.ireturn, 1) := by decide +kernel
theorem dJ2_indexOf_4cfef_22 : decode cJ2_indexOf_4cfef 22 = .ok (.iload_n 1, 1) := by decide +kernel
theorem dJ2_indexOf_4cfef_23 : decode cJ2_indexOf_4cfef 23 = .ok (.ldc 227, 2) := by decide +kernel
theorem dJ2_indexOf_4cfef_25 : decode cJ2_indexOf_4cfef 25 = .ok (.if_icmp .ge 11, 3) := by decide +kernel
theorem dJ2_indexOf_4cfef_28 : decode cJ2_indexOf_4cfef 28 = .ok (.aload_n 0, 1) := by decide +kernel
theorem dJ2_indexOf_4cfef_29 : decode cJ2_indexOf_4cfef 29 = .ok (.iload_n 1, 1) := by decide +kernel
theorem dJ2_indexOf_4cfef_30 : decode cJ2_indexOf_4cfef 30 = .ok (.iload_n 2, 1) := by decide +kernel
theorem dJ2_indexOf_4cfef_31 : decode cJ2_indexOf_4cfef 31 = .ok (.iload_n 3, 1) := by decide +kernel
theorem dJ2_indexOf_4cfef_32 : decode cJ2_indexOf_4cfef 32 = .ok (.invokestatic 228, 3) := by decide +kernel
theorem dJ2_indexOf_4cfef_35 : decode cJ2_indexOf_4cfef 35 = .ok (.ireturn, 1) := by decide +kernel
theorem dJ2_indexOf_4cfef_36 : decode cJ2_indexOf_4cfef 36 = .ok (.aload_n 0, 1) := by decide +kernel
theorem dJ2_indexOf_4cfef_37 : decode cJ2_indexOf_4cfef 37 = .ok (.iload_n 1, 1) := by decide +kernel
theorem dJ2_indexOf_4cfef_38 : decode cJ2_indexOf_4cfef 38 = .ok (.iload_n 2, 1) := by decide +kernel
theorem dJ2_indexOf_4cfef_39 : decode cJ2_indexOf_4cfef 39 = .ok (.iload_n 3, 1) := by decide +kernel
theorem dJ2_indexOf_4cfef_40 : decode cJ2_indexOf_4cfef 40 = .ok (.invokestatic 232, 3) := by decide +kernel
theorem dJ2_indexOf_4cfef_43 : decode cJ2_indexOf_4cfef 43 = .ok (.ireturn, 1) := by decide +kernel
theorem dJ2_indexOfChar_4cfef_0 : decode cJ2_indexOfChar_4cfef 0 = .ok (.iload_n 2, 1) := by decide +kernel
theorem dJ2_indexOfChar_4cfef_1 : decode cJ2_indexOfChar_4cfef 1 = .ok (.iload_n 3, 1) := by decide +kernel
theorem dJ2_indexOfChar_4cfef_2 : decode cJ2_indexOfChar_4cfef 2 = .ok (.aload_n 0, 1) := by decide +kernel
theorem dJ2_indexOfChar_4cfef_3 : decode cJ2_indexOfChar_4cfef 3 = .ok (.invokestatic 96, 3) := by decide +kernel
theorem dJ2_indexOfChar_4cfef_6 : decode cJ2_indexOfChar_4cfef 6 = .ok (.aload_n 0, 1) := by decide +kernel
theorem dJ2_indexOfChar_4cfef_7 : decode cJ2_indexOfChar_4cfef 7 = .ok (.iload_n 1, 1) := by decide +kernel
theorem dJ2_indexOfChar_4cfef_8 : decode cJ2_indexOfChar_4cfef 8 = .ok (.iload_n 2, 1) := by decide +kernel
theorem dJ2_indexOfChar_4cfef_9 : decode cJ2_indexOfChar_4cfef 9 = .ok (.iload_n 3, 1) := by decide +kernel
theorem dJ2_indexOfChar_4cfef_10 : decode cJ2_indexOfChar_4cfef 10 = .ok (.invokestatic 244, 3) := by decide +kernel
theorem dJ2_indexOfChar_4cfef_13 : decode cJ2_indexOfChar_4cfef 13 = .ok (.ireturn, 1) := by decide +kernel
theorem dJ2_indexOfCharUnsafe_4cfef_0 : decode cJ2_indexOfCharUnsafe_4cfef 0 = .ok (.iload_n 2, 1) := by decide +kernel
theorem dJ2_indexOfCharUnsafe_4cfef_1 : decode cJ2_indexOfCharUnsafe_4cfef 1 = .ok (.istore 4, 2) := by decide +kernel
theorem dJ2_indexOfCharUnsafe_4cfef_3 : decode cJ2_indexOfCharUnsafe_4cfef 3 = .ok (.iload 4, 2) := by decide +kernel
theorem dJ2_indexOfCharUnsafe_4cfef_5 : decode cJ2_indexOfCharUnsafe_4cfef 5 = .ok (.iload_n 3, 1) := by decide +kernel
theorem dJ2_indexOfCharUnsafe_4cfef_6 : decode cJ2_indexOfCharUnsafe_4cfef 6 = .ok (.if_icmp .ge 22, 3) := by decide +kernel
theorem dJ2_indexOfCharUnsafe_4cfef_9 : decode cJ2_indexOfCharUnsafe_4cfef 9 = .ok (.aload_n 0, 1) := by decide +kernel
theorem dJ2_indexOfCharUnsafe_4cfef_10 : decode cJ2_indexOfCharUnsafe_4cfef 10 = .ok (.iload 4, 2) := by decide +kernel
theorem dJ2_indexOfCharUnsafe_4cfef_12 : decode cJ2_indexOfCharUnsafe_4cfef 12 = .ok (.invokestatic 71, 3) := by decide +kernel
theorem dJ2_indexOfCharUnsafe_4cfef_15 : decode cJ2_indexOfCharUnsafe_4cfef 15 = .ok (.iload_n 1, 1) := by decide +kernel
theorem dJ2_indexOfCharUnsafe_4cfef_16 : decode cJ2_indexOfCharUnsafe_4cfef 16 = .ok (.if_icmp .ne 6, 3) := by decide +kernel
theorem dJ2_indexOfCharUnsafe_4cfef_19 : decode cJ2_indexOfCharUnsafe_4cfef 19 = .ok (.iload 4, 2) := by decide +kernel
theorem dJ2_indexOfCharUnsafe_4cfef_21 : decode cJ2_indexOfCharUnsafe_4cfef 21 = .ok (.ireturn, 1) := by decide +kernel
theorem dJ2_indexOfCharUnsafe_4cfef_22 : decode cJ2_indexOfCharUnsafe_4cfef 22 = .ok (.iinc 4 1, 3) := by decide +kernel
theorem dJ2_indexOfCharUnsafe_4cfef_25 : decode cJ2_indexOfCharUnsafe_4cfef 25 = .ok (.goto (-22), 3) := by decide +kernel
theorem dJ2_indexOfCharUnsafe_4cfef_28 : decode cJ2_indexOfCharUnsafe_4cfef 28 = .ok (.iconst (-1), 1) := by decide +kernel
theorem dJ2_indexOfCharUnsafe_4cfef_29 : decode cJ2_indexOfCharUnsafe_4cfef 29 = .ok (.ireturn, 1) := by decide +kernel
theorem dJ2_indexOfSupplementary_4cfef_0 : decode cJ2_indexOfSupplementary_4cfef 0 = .ok (.iload_n 1, 1) := by decide +kernel
theorem dJ2_indexOfSupplementary_4cfef_1 : decode cJ2_indexOfSupplementary_4cfef 1 = .ok (.invokestatic 164, 3) := by decide +kernel
theorem dJ2_indexOfSupplementary_4cfef_4 : decode cJ2_indexOfSupplementary_4cfef 4 = .ok (.ifCond .eq 65, 3) := by decide +kernel
theorem dJ2_indexOfSupplementary_4cfef_7 : decode cJ2_indexOfSupplementary_4cfef 7 = .ok (.iload_n 1, 1) := by decide +kernel
theorem dJ2_indexOfSupplementary_4cfef_8 : decode cJ2_indexOfSupplementary_4cfef 8 = .ok (.invokestatic 157, 3) := by decide +kernel
theorem dJ2_indexOfSupplementary_4cfef_11 : decode cJ2_indexOfSupplementary_4cfef 11 = .ok (.istore 4, 2) := by decide +kernel
theorem dJ2_indexOfSupplementary_4cfef_13 : decode cJ2_indexOfSupplementary_4cfef 13 = .ok (.iload_n 1, 1) := by decide +kernel
theorem dJ2_indexOfSupplementary_4cfef_14 : decode cJ2_indexOfSupplementary_4cfef 14 = .ok (.invokestatic 161, 3) := by decide +kernel
theorem dJ2_indexOfSupplementary_4cfef_17 : decode cJ2_indexOfSupplementary_4cfef 17 = .ok (.istore 5, 2) := by decide +kernel
theorem dJ2_indexOfSupplementary_4cfef_19 : decode cJ2_indexOfSupplementary_4cfef 19 = .ok (.iload_n 2, 1) := by decide +kernel
theorem dJ2_indexOfSupplementary_4cfef_20 : decode cJ2_indexOfSupplementary_4cfef 20 = .ok (.iload_n 3, 1) := by decide +kernel
theorem dJ2_indexOfSupplementary_4cfef_21 : decode cJ2_indexOfSupplementary_4cfef 21 = .ok (.aload_n 0, 1) := by decide +kernel
theorem dJ2_indexOfSupplementary_4cfef_22 : decode cJ2_indexOfSupplementary_4cfef 22 = .ok (.invokestatic 96, 3) := by decide +kernel
theorem dJ2_indexOfSupplementary_4cfef_25 : decode cJ2_indexOfSupplementary_4cfef 25 = .ok (.iload_n 2, 1) := by decide +kernel
theorem dJ2_indexOfSupplementary_4cfef_26 : decode cJ2_indexOfSupplementary_4cfef 26 = .ok (.istore 6, 2) := by decide +kernel
theorem dJ2_indexOfSupplementary_4cfef_28 : decode cJ2_indexOfSupplementary_4cfef 28 = .ok (.iload 6, 2) := by decide +kernel
theorem dJ2_indexOfSupplementary_4cfef_30 : decode cJ2_indexOfSupplementary_4cfef 30 = .ok (.iload_n 3, 1) := by decide +kernel
theorem dJ2_indexOfSupplementary_4cfef_31 : decode cJ2_indexOfSupplementary_4cfef 31 = .ok (.iconst 1, 1) := by decide +kernel
theorem dJ2_indexOfSupplementary_4cfef_32 : decode cJ2_indexOfSupplementary_4cfef 32 = .ok (.isub, 1) := by decide +kernel
theorem dJ2_indexOfSupplementary_4cfef_33 : decode cJ2_indexOfSupplementary_4cfef 33 = .ok (.if_icmp .ge 36, 3) := by decide +kernel
theorem dJ2_indexOfSupplementary_4cfef_36 : decode cJ2_indexOfSupplementary_4cfef 36 = .ok (.aload_n 0, 1) := by decide +kernel
theorem dJ2_indexOfSupplementary_4cfef_37 : decode cJ2_indexOfSupplementary_4cfef 37 = .ok (.iload 6, 2) := by decide +kernel
theorem dJ2_indexOfSupplementary_4cfef_39 : decode cJ2_indexOfSupplementary_4cfef 39 = .ok (.invokestatic 71, 3) := by decide +kernel
theorem dJ2_indexOfSupplementary_4cfef_42 : decode cJ2_indexOfSupplementary_4cfef 42 = .ok (.iload 4, 2) := by decide +kernel
theorem dJ2_indexOfSupplementary_4cfef_44 : decode cJ2_indexOfSupplementary_4cfef 44 = .ok (.if_icmp .ne 19, 3) := by decide +kernel
theorem dJ2_indexOfSupplementary_4cfef_47 : decode cJ2_indexOfSupplementary_4cfef 47 = .ok (.aload_n 0, 1) := by decide +kernel
theorem dJ2_indexOfSupplementary_4cfef_48 : decode cJ2_indexOfSupplementary_4cfef 48 = .ok (.iload 6, 2) := by decide +kernel
theorem dJ2_indexOfSupplementary_4cfef_50 : decode cJ2_indexOfSupplementary_4cfef 50 = .ok (.iconst 1, 1) := by decide +kernel
theorem dJ2_indexOfSupplementary_4cfef_51 : decode cJ2_indexOfSupplementary_4cfef 51 = .ok (.iadd, 1) := by decide +kernel
theorem dJ2_indexOfSupplementary_4cfef_52 : decode cJ2_indexOfSupplementary_4cfef 52 = .ok (.invokestatic 71, 3) := by decide +kernel
theorem dJ2_indexOfSupplementary_4cfef_55 : decode cJ2_indexOfSupplementary_4cfef 55 = .ok (.iload 5, 2) := by decide +kernel
theorem dJ2_indexOfSupplementary_4cfef_57 : decode cJ2_indexOfSupplementary_4cfef 57 = .ok (.if_icmp .ne 6, 3) := by decide +kernel
theorem dJ2_indexOfSupplementary_4cfef_60 : decode cJ2_indexOfSupplementary_4cfef 60 = .ok (.iload 6, 2) := by decide +kernel
theorem dJ2_indexOfSupplementary_4cfef_62 : decode cJ2_indexOfSupplementary_4cfef 62 = .ok (.ireturn, 1) := by decide +kernel
theorem dJ2_indexOfSupplementary_4cfef_63 : decode cJ2_indexOfSupplementary_4cfef 63 = .ok (.iinc 6 1, 3) := by decide +kernel
theorem dJ2_indexOfSupplementary_4cfef_66 : decode cJ2_indexOfSupplementary_4cfef 66 = .ok (.goto (-38), 3) := by decide +kernel
theorem dJ2_indexOfSupplementary_4cfef_69 : decode cJ2_indexOfSupplementary_4cfef 69 = .ok (.iconst (-1), 1) := by decide +kernel
theorem dJ2_indexOfSupplementary_4cfef_70 : decode cJ2_indexOfSupplementary_4cfef 70 = .ok (.ireturn, 1) := by decide +kernel
theorem dJ2_charAt_3b067_0 : decode cJ2_charAt_3b067 0 = .ok (.iload_n 1, 1) := by decide +kernel
theorem dJ2_charAt_3b067_1 : decode cJ2_charAt_3b067 1 = .ok (.aload_n 0, 1) := by decide +kernel
theorem dJ2_charAt_3b067_2 : decode cJ2_charAt_3b067 2 = .ok (.invokestatic 67, 3) := by decide +kernel
theorem dJ2_charAt_3b067_5 : decode cJ2_charAt_3b067 5 = .ok (.aload_n 0, 1) := by decide +kernel
theorem dJ2_charAt_3b067_6 : decode cJ2_charAt_3b067 6 = .ok (.iload_n 1, 1) := by decide +kernel
theorem dJ2_charAt_3b067_7 : decode cJ2_charAt_3b067 7 = .ok (.invokestatic 71, 3) := by decide +kernel
theorem dJ2_charAt_3b067_10 : decode cJ2_charAt_3b067 10 = .ok (.ireturn, 1) := by decide +kernel
theorem dJ2_checkIndex_2214a_0 : decode cJ2_checkIndex_2214a 0 = .ok (.iload_n 0, 1) := by decide +kernel
theorem dJ2_checkIndex_2214a_1 : decode cJ2_checkIndex_2214a 1 = .ok (.aload_n 1, 1) := by decide +kernel
theorem dJ2_checkIndex_2214a_2 : decode cJ2_checkIndex_2214a 2 = .ok (.invokestatic 48, 3) := by decide +kernel
theorem dJ2_checkIndex_2214a_5 : decode cJ2_checkIndex_2214a 5 = .ok (.invokestatic 414, 3) := by decide +kernel
theorem dJ2_checkIndex_2214a_8 : decode cJ2_checkIndex_2214a 8 = .ok (.return_, 1) := by decide +kernel
theorem dJ2_checkBoundsBeginEnd_d044e_0 : decode cJ2_checkBoundsBeginEnd_d044e 0 = .ok (.iload_n 0, 1) := by decide +kernel
theorem dJ2_checkBoundsBeginEnd_d044e_1 : decode cJ2_checkBoundsBeginEnd_d044e 1 = .ok (.iload_n 1, 1) := by decide +kernel
theorem dJ2_checkBoundsBeginEnd_d044e_2 : decode cJ2_checkBoundsBeginEnd_d044e 2 = .ok (.aload_n 2, 1) := by decide +kernel
theorem dJ2_checkBoundsBeginEnd_d044e_3 : decode cJ2_checkBoundsBeginEnd_d044e 3 = .ok (.invokestatic 48, 3) := by decide +kernel
theorem dJ2_checkBoundsBeginEnd_d044e_6 : decode cJ2_checkBoundsBeginEnd_d044e 6 = .ok (.invokestatic 241, 3) := by decide +kernel
theorem dJ2_checkBoundsBeginEnd_d044e_9 : decode cJ2_checkBoundsBeginEnd_d044e 9 = .ok (.return_, 1) := by decide +kernel
theorem dJ7_fill_53178_0 : decode cJ7_fill_53178 0 = .ok (.iconst 0, 1) := by decide +kernel
theorem dJ7_fill_53178_1 : decode cJ7_fill_53178 1 = .ok (.istore_n 2, 1) := by decide +kernel
theorem dJ7_fill_53178_2 : decode cJ7_fill_53178 2 = .ok (.aload_n 0, 1) := by decide +kernel
theorem dJ7_fill_53178_3 : decode cJ7_fill_53178 3 = .ok (.arraylength, 1) := by decide +kernel
theorem dJ7_fill_53178_4 : decode cJ7_fill_53178 4 = .ok (.istore_n 3, 1) := by decide +kernel
theorem dJ7_fill_53178_5 : decode cJ7_fill_53178 5 = .ok (.iload_n 2, 1) := by decide +kernel
theorem dJ7_fill_53178_6 : decode cJ7_fill_53178 6 = .ok (.iload_n 3, 1) := by decide +kernel
theorem dJ7_fill_53178_7 : decode cJ7_fill_53178 7 = .ok (.if_icmp .ge 13, 3) := by decide +kernel
theorem dJ7_fill_53178_10 : decode cJ7_fill_53178 10 = .ok (.aload_n 0, 1) := by decide +kernel
theorem dJ7_fill_53178_11 : decode cJ7_fill_53178 11 = .ok (.iload_n 2, 1) := by decide +kernel
theorem dJ7_fill_53178_12 : decode cJ7_fill_53178 12 = .ok (.iload_n 1, 1) := by decide +kernel
theorem dJ7_fill_53178_13 : decode cJ7_fill_53178 13 = .ok (.iastore, 1) := by decide +kernel
theorem dJ7_fill_53178_14 : decode cJ7_fill_53178 14 = .ok (.iinc 2 1, 3) := by decide +kernel
theorem dJ7_fill_53178_17 : decode cJ7_fill_53178 17 = .ok (.goto (-12), 3) := by decide +kernel
theorem dJ7_fill_53178_20 : decode cJ7_fill_53178 20 = .ok (.return_, 1) := by decide +kernel
theorem dJ3_checkIndex_8e157_0 : decode cJ3_checkIndex_8e157 0 = .ok (.iload_n 0, 1) := by decide +kernel
theorem dJ3_checkIndex_8e157_1 : decode cJ3_checkIndex_8e157 1 = .ok (.ifCond .lt 8, 3) := by decide +kernel
theorem dJ3_checkIndex_8e157_4 : decode cJ3_checkIndex_8e157 4 = .ok (.iload_n 0, 1) := by decide +kernel
theorem dJ3_checkIndex_8e157_5 : decode cJ3_checkIndex_8e157 5 = .ok (.iload_n 1, 1) := by decide +kernel
theorem dJ3_checkIndex_8e157_6 : decode cJ3_checkIndex_8e157 6 = .ok (.if_icmp .lt 10, 3) := by decide +kernel
theorem dJ3_checkIndex_8e157_9 : decode cJ3_checkIndex_8e157 9 = .ok (.aload_n 2, 1) := by decide +kernel
theorem dJ3_checkIndex_8e157_10 : decode cJ3_checkIndex_8e157 10 = .ok (.iload_n 0, 1) := by decide +kernel
theorem dJ3_checkIndex_8e157_11 : decode cJ3_checkIndex_8e157 11 = .ok (.iload_n 1, 1) := by decide +kernel
theorem dJ3_checkIndex_8e157_12 : decode cJ3_checkIndex_8e157 12 = .ok (.invokestatic 95, 3) := by decide +kernel
theorem dJ3_checkIndex_8e157_15 : decode cJ3_checkIndex_8e157 15 = .ok (.athrow, 1) := by decide +kernel
theorem dJ3_checkIndex_8e157_16 : decode cJ3_checkIndex_8e157 16 = .ok (.iload_n 0, 1) := by decide +kernel
theorem dJ3_checkIndex_8e157_17 : decode cJ3_checkIndex_8e157 17 = .ok (.ireturn, 1) := by decide +kernel
theorem dJ3_checkFromToIndex_8c36e_0 : decode cJ3_checkFromToIndex_8c36e 0 = .ok (.iload_n 0, 1) := by decide +kernel
theorem dJ3_checkFromToIndex_8c36e_1 : decode cJ3_checkFromToIndex_8c36e 1 = .ok (.ifCond .lt 13, 3) := by decide +kernel
theorem dJ3_checkFromToIndex_8c36e_4 : decode cJ3_checkFromToIndex_8c36e 4 = .ok (.iload_n 0, 1) := by decide +kernel
theorem dJ3_checkFromToIndex_8c36e_5 : decode cJ3_checkFromToIndex_8c36e 5 = .ok (.iload_n 1, 1) := by decide +kernel
theorem dJ3_checkFromToIndex_8c36e_6 : decode cJ3_checkFromToIndex_8c36e 6 = .ok (.if_icmp .gt 8, 3) := by decide +kernel
theorem dJ3_checkFromToIndex_8c36e_9 : decode cJ3_checkFromToIndex_8c36e 9 = .ok (.iload_n 1, 1) := by decide +kernel
theorem dJ3_checkFromToIndex_8c36e_10 : decode cJ3_checkFromToIndex_8c36e 10 = .ok (.iload_n 2, 1) := by decide +kernel
theorem dJ3_checkFromToIndex_8c36e_11 : decode cJ3_checkFromToIndex_8c36e 11 = .ok (.if_icmp .le 11, 3) := by decide +kernel
theorem dJ3_checkFromToIndex_8c36e_14 : decode cJ3_checkFromToIndex_8c36e 14 = .ok (.aload_n 3, 1) := by decide +kernel
theorem dJ3_checkFromToIndex_8c36e_15 : decode cJ3_checkFromToIndex_8c36e 15 = .ok (.iload_n 0, 1) := by decide +kernel
theorem dJ3_checkFromToIndex_8c36e_16 : decode cJ3_checkFromToIndex_8c36e 16 = .ok (.iload_n 1, 1) := by decide +kernel
theorem dJ3_checkFromToIndex_8c36e_17 : decode cJ3_checkFromToIndex_8c36e 17 = .ok (.iload_n 2, 1) := by decide +kernel
theorem dJ3_checkFromToIndex_8c36e_18 : decode cJ3_checkFromToIndex_8c36e 18 = .ok (.invokestatic 99, 3) := by decide +kernel
theorem dJ3_checkFromToIndex_8c36e_21 : decode cJ3_checkFromToIndex_8c36e 21 = .ok (.athrow, 1) := by decide +kernel
theorem dJ3_checkFromToIndex_8c36e_22 : decode cJ3_checkFromToIndex_8c36e 22 = .ok (.iload_n 0, 1) := by decide +kernel
theorem dJ3_checkFromToIndex_8c36e_23 : decode cJ3_checkFromToIndex_8c36e 23 = .ok (.ireturn, 1) := by decide +kernel
theorem dL_law_0 : decode cL_law 0 = .ok (.new 7, 3) := by decide +kernel
theorem dL_law_3 : decode cL_law 3 = .ok (.dup, 1) := by decide +kernel
theorem dL_law_4 : decode cL_law 4 = .ok (.invokespecial 9, 3) := by decide +kernel
theorem dL_law_7 : decode cL_law 7 = .ok (.astore_n 1, 1) := by decide +kernel
theorem dL_law_8 : decode cL_law 8 = .ok (.new 10, 3) := by decide +kernel
theorem dL_law_11 : decode cL_law 11 = .ok (.dup, 1) := by decide +kernel
theorem dL_law_12 : decode cL_law 12 = .ok (.invokespecial 12, 3) := by decide +kernel
theorem dL_law_15 : decode cL_law 15 = .ok (.astore_n 2, 1) := by decide +kernel
theorem dL_law_16 : decode cL_law 16 = .ok (.iconst 0, 1) := by decide +kernel
theorem dL_law_17 : decode cL_law 17 = .ok (.istore_n 3, 1) := by decide +kernel
theorem dL_law_18 : decode cL_law 18 = .ok (.iload_n 3, 1) := by decide +kernel
theorem dL_law_19 : decode cL_law 19 = .ok (.aload_n 0, 1) := by decide +kernel
theorem dL_law_20 : decode cL_law 20 = .ok (.arraylength, 1) := by decide +kernel
theorem dL_law_21 : decode cL_law 21 = .ok (.bipush 6, 2) := by decide +kernel
theorem dL_law_23 : decode cL_law 23 = .ok (.isub, 1) := by decide +kernel
theorem dL_law_24 : decode cL_law 24 = .ok (.if_icmp .gt 1277, 3) := by decide +kernel
theorem dL_law_27 : decode cL_law 27 = .ok (.aload_n 0, 1) := by decide +kernel
theorem dL_law_28 : decode cL_law 28 = .ok (.iload_n 3, 1) := by decide +kernel
theorem dL_law_29 : decode cL_law 29 = .ok (.iaload, 1) := by decide +kernel
theorem dL_law_30 : decode cL_law 30 = .ok (.bipush 31, 2) := by decide +kernel
theorem dL_law_32 : decode cL_law 32 = .ok (.iand, 1) := by decide +kernel
theorem dL_law_33 : decode cL_law 33 = .ok (.tableswitch 1262 0 30 #[139, 172, 205, 248, 281, 324, 387, 400, 423, 466, 499, 552, 585, 618, 651, 684, 717, 750, 773, 796, 849, 902, 945, 978, 991, 1004, 1027, 1070, 1113, 1176, 1229], 139) := by decide +kernel
theorem dL_law_172 : decode cL_law 172 = .ok (.aload_n 1, 1) := by decide +kernel
theorem dL_law_173 : decode cL_law 173 = .ok (.aload_n 0, 1) := by decide +kernel
theorem dL_law_174 : decode cL_law 174 = .ok (.iload_n 3, 1) := by decide +kernel
theorem dL_law_175 : decode cL_law 175 = .ok (.iconst 1, 1) := by decide +kernel
theorem dL_law_176 : decode cL_law 176 = .ok (.iadd, 1) := by decide +kernel
theorem dL_law_177 : decode cL_law 177 = .ok (.iaload, 1) := by decide +kernel
theorem dL_law_178 : decode cL_law 178 = .ok (.aload_n 0, 1) := by decide +kernel
theorem dL_law_179 : decode cL_law 179 = .ok (.iload_n 3, 1) := by decide +kernel
theorem dL_law_180 : decode cL_law 180 = .ok (.iconst 2, 1) := by decide +kernel
theorem dL_law_181 : decode cL_law 181 = .ok (.iadd, 1) := by decide +kernel
theorem dL_law_182 : decode cL_law 182 = .ok (.iaload, 1) := by decide +kernel
theorem dL_law_183 : decode cL_law 183 = .ok (.invokevirtual 13, 3) := by decide +kernel
theorem dL_law_186 : decode cL_law 186 = .ok (.aload_n 2, 1) := by decide +kernel
theorem dL_law_187 : decode cL_law 187 = .ok (.aload_n 0, 1) := by decide +kernel
theorem dL_law_188 : decode cL_law 188 = .ok (.iload_n 3, 1) := by decide +kernel
theorem dL_law_189 : decode cL_law 189 = .ok (.iconst 1, 1) := by decide +kernel
theorem dL_law_190 : decode cL_law 190 = .ok (.iadd, 1) := by decide +kernel
theorem dL_law_191 : decode cL_law 191 = .ok (.iaload, 1) := by decide +kernel
theorem dL_law_192 : decode cL_law 192 = .ok (.aload_n 0, 1) := by decide +kernel
theorem dL_law_193 : decode cL_law 193 = .ok (.iload_n 3, 1) := by decide +kernel
theorem dL_law_194 : decode cL_law 194 = .ok (.iconst 2, 1) := by decide +kernel
theorem dL_law_195 : decode cL_law 195 = .ok (.iadd, 1) := by decide +kernel
theorem dL_law_196 : decode cL_law 196 = .ok (.iaload, 1) := by decide +kernel
theorem dL_law_197 : decode cL_law 197 = .ok (.invokevirtual 17, 3) := by decide +kernel
theorem dL_law_200 : decode cL_law 200 = .ok (.if_icmp .eq 1095, 3) := by decide +kernel
theorem dL_law_203 : decode cL_law 203 = .ok (.iconst 0, 1) := by decide +kernel
theorem dL_law_204 : decode cL_law 204 = .ok (.ireturn, 1) := by decide +kernel
theorem dL_law_205 : decode cL_law 205 = .ok (.aload_n 1, 1) := by decide +kernel
theorem dL_law_206 : decode cL_law 206 = .ok (.aload_n 0, 1) := by decide +kernel
theorem dL_law_207 : decode cL_law 207 = .ok (.iload_n 3, 1) := by decide +kernel
theorem dL_law_208 : decode cL_law 208 = .ok (.iconst 1, 1) := by decide +kernel
theorem dL_law_209 : decode cL_law 209 = .ok (.iadd, 1) := by decide +kernel
theorem dL_law_210 : decode cL_law 210 = .ok (.iaload, 1) := by decide +kernel
theorem dL_law_211 : decode cL_law 211 = .ok (.aload_n 0, 1) := by decide +kernel
theorem dL_law_212 : decode cL_law 212 = .ok (.iload_n 3, 1) := by decide +kernel
theorem dL_law_213 : decode cL_law 213 = .ok (.iconst 2, 1) := by decide +kernel
theorem dL_law_214 : decode cL_law 214 = .ok (.iadd, 1) := by decide +kernel
theorem dL_law_215 : decode cL_law 215 = .ok (.iaload, 1) := by decide +kernel
theorem dL_law_216 : decode cL_law 216 = .ok (.invokevirtual 18, 3) := by decide +kernel
theorem dL_law_219 : decode cL_law 219 = .ok (.aload_n 2, 1) := by decide +kernel
theorem dL_law_220 : decode cL_law 220 = .ok (.aload_n 0, 1) := by decide +kernel
theorem dL_law_221 : decode cL_law 221 = .ok (.iload_n 3, 1) := by decide +kernel
theorem dL_law_222 : decode cL_law 222 = .ok (.iconst 1, 1) := by decide +kernel
theorem dL_law_223 : decode cL_law 223 = .ok (.iadd, 1) := by decide +kernel
theorem dL_law_224 : decode cL_law 224 = .ok (.iaload, 1) := by decide +kernel
theorem dL_law_225 : decode cL_law 225 = .ok (.aload_n 0, 1) := by decide +kernel
theorem dL_law_226 : decode cL_law 226 = .ok (.iload_n 3, 1) := by decide +kernel
theorem dL_law_227 : decode cL_law 227 = .ok (.iconst 2, 1) := by decide +kernel
theorem dL_law_228 : decode cL_law 228 = .ok (.iadd, 1) := by decide +kernel
theorem dL_law_229 : decode cL_law 229 = .ok (.iaload, 1) := by decide +kernel
theorem dL_law_230 : decode cL_law 230 = .ok (.invokevirtual 21, 3) := by decide +kernel
theorem dL_law_233 : decode cL_law 233 = .ok (.if_icmp .eq 1062, 3) := by decide +kernel
theorem dL_law_236 : decode cL_law 236 = .ok (.iconst 0, 1) := by decide +kernel
theorem dL_law_237 : decode cL_law 237 = .ok (.ireturn, 1) := by decide +kernel
theorem dL_law_238 : decode cL_law 238 = .ok (.aload_n 1, 1) := by decide +kernel
theorem dL_law_239 : decode cL_law 239 = .ok (.aload_n 0, 1) := by decide +kernel
theorem dL_law_240 : decode cL_law 240 = .ok (.iload_n 3, 1) := by decide +kernel
theorem dL_law_241 : decode cL_law 241 = .ok (.iconst 1, 1) := by decide +kernel
theorem dL_law_242 : decode cL_law 242 = .ok (.iadd, 1) := by decide +kernel
theorem dL_law_243 : decode cL_law 243 = .ok (.iaload, 1) := by decide +kernel
theorem dL_law_244 : decode cL_law 244 = .ok (.aload_n 0, 1) := by decide +kernel
theorem dL_law_245 : decode cL_law 245 = .ok (.iload_n 3, 1) := by decide +kernel
theorem dL_law_246 : decode cL_law 246 = .ok (.iconst 2, 1) := by decide +kernel
theorem dL_law_247 : decode cL_law 247 = .ok (.iadd, 1) := by decide +kernel
theorem dL_law_248 : decode cL_law 248 = .ok (.iaload, 1) := by decide +kernel
theorem dL_law_249 : decode cL_law 249 = .ok (.aload_n 0, 1) := by decide +kernel
theorem dL_law_250 : decode cL_law 250 = .ok (.iload_n 3, 1) := by decide +kernel
theorem dL_law_251 : decode cL_law 251 = .ok (.iconst 3, 1) := by decide +kernel
theorem dL_law_252 : decode cL_law 252 = .ok (.iadd, 1) := by decide +kernel
theorem dL_law_253 : decode cL_law 253 = .ok (.iaload, 1) := by decide +kernel
theorem dL_law_254 : decode cL_law 254 = .ok (.invokevirtual 22, 3) := by decide +kernel
theorem dL_law_257 : decode cL_law 257 = .ok (.aload_n 2, 1) := by decide +kernel
theorem dL_law_258 : decode cL_law 258 = .ok (.aload_n 0, 1) := by decide +kernel
theorem dL_law_259 : decode cL_law 259 = .ok (.iload_n 3, 1) := by decide +kernel
theorem dL_law_260 : decode cL_law 260 = .ok (.iconst 1, 1) := by decide +kernel
theorem dL_law_261 : decode cL_law 261 = .ok (.iadd, 1) := by decide +kernel
theorem dL_law_262 : decode cL_law 262 = .ok (.iaload, 1) := by decide +kernel
theorem dL_law_263 : decode cL_law 263 = .ok (.aload_n 0, 1) := by decide +kernel
theorem dL_law_264 : decode cL_law 264 = .ok (.iload_n 3, 1) := by decide +kernel
theorem dL_law_265 : decode cL_law 265 = .ok (.iconst 2, 1) := by decide +kernel
theorem dL_law_266 : decode cL_law 266 = .ok (.iadd, 1) := by decide +kernel
theorem dL_law_267 : decode cL_law 267 = .ok (.iaload, 1) := by decide +kernel
theorem dL_law_268 : decode cL_law 268 = .ok (.aload_n 0, 1) := by decide +kernel
theorem dL_law_269 : decode cL_law 269 = .ok (.iload_n 3, 1) := by decide +kernel
theorem dL_law_270 : decode cL_law 270 = .ok (.iconst 3, 1) := by decide +kernel
theorem dL_law_271 : decode cL_law 271 = .ok (.iadd, 1) := by decide +kernel
theorem dL_law_272 : decode cL_law 272 = .ok (.iaload, 1) := by decide +kernel
theorem dL_law_273 : decode cL_law 273 = .ok (.invokevirtual 26, 3) := by decide +kernel
theorem dL_law_276 : decode cL_law 276 = .ok (.if_icmp .eq 1019, 3) := by decide +kernel
theorem dL_law_279 : decode cL_law 279 = .ok (.iconst 0, 1) := by decide +kernel
theorem dL_law_280 : decode cL_law 280 = .ok (.ireturn, 1) := by decide +kernel
theorem dL_law_281 : decode cL_law 281 = .ok (.aload_n 1, 1) := by decide +kernel
theorem dL_law_282 : decode cL_law 282 = .ok (.aload_n 0, 1) := by decide +kernel
theorem dL_law_283 : decode cL_law 283 = .ok (.iload_n 3, 1) := by decide +kernel
theorem dL_law_284 : decode cL_law 284 = .ok (.iconst 1, 1) := by decide +kernel
theorem dL_law_285 : decode cL_law 285 = .ok (.iadd, 1) := by decide +kernel
theorem dL_law_286 : decode cL_law 286 = .ok (.iaload, 1) := by decide +kernel
theorem dL_law_287 : decode cL_law 287 = .ok (.aload_n 0, 1) := by decide +kernel
theorem dL_law_288 : decode cL_law 288 = .ok (.iload_n 3, 1) := by decide +kernel
theorem dL_law_289 : decode cL_law 289 = .ok (.iconst 2, 1) := by decide +kernel
theorem dL_law_290 : decode cL_law 290 = .ok (.iadd, 1) := by decide +kernel
theorem dL_law_291 : decode cL_law 291 = .ok (.iaload, 1) := by decide +kernel
theorem dL_law_292 : decode cL_law 292 = .ok (.invokevirtual 27, 3) := by decide +kernel
theorem dL_law_295 : decode cL_law 295 = .ok (.aload_n 2, 1) := by decide +kernel
theorem dL_law_296 : decode cL_law 296 = .ok (.aload_n 0, 1) := by decide +kernel
theorem dL_law_297 : decode cL_law 297 = .ok (.iload_n 3, 1) := by decide +kernel
theorem dL_law_298 : decode cL_law 298 = .ok (.iconst 1, 1) := by decide +kernel
theorem dL_law_299 : decode cL_law 299 = .ok (.iadd, 1) := by decide +kernel
theorem dL_law_300 : decode cL_law 300 = .ok (.iaload, 1) := by decide +kernel
theorem dL_law_301 : decode cL_law 301 = .ok (.aload_n 0, 1) := by decide +kernel
theorem dL_law_302 : decode cL_law 302 = .ok (.iload_n 3, 1) := by decide +kernel
theorem dL_law_303 : decode cL_law 303 = .ok (.iconst 2, 1) := by decide +kernel
theorem dL_law_304 : decode cL_law 304 = .ok (.iadd, 1) := by decide +kernel
theorem dL_law_305 : decode cL_law 305 = .ok (.iaload, 1) := by decide +kernel
theorem dL_law_306 : decode cL_law 306 = .ok (.invokevirtual 30, 3) := by decide +kernel
theorem dL_law_309 : decode cL_law 309 = .ok (.if_icmp .eq 986, 3) := by decide +kernel
theorem dL_law_312 : decode cL_law 312 = .ok (.iconst 0, 1) := by decide +kernel
theorem dL_law_313 : decode cL_law 313 = .ok (.ireturn, 1) := by decide +kernel
theorem dL_law_314 : decode cL_law 314 = .ok (.aload_n 1, 1) := by decide +kernel
theorem dL_law_315 : decode cL_law 315 = .ok (.aload_n 0, 1) := by decide +kernel
theorem dL_law_316 : decode cL_law 316 = .ok (.iload_n 3, 1) := by decide +kernel
theorem dL_law_317 : decode cL_law 317 = .ok (.iconst 1, 1) := by decide +kernel
theorem dL_law_318 : decode cL_law 318 = .ok (.iadd, 1) := by decide +kernel
theorem dL_law_319 : decode cL_law 319 = .ok (.iaload, 1) := by decide +kernel
theorem dL_law_320 : decode cL_law 320 = .ok (.aload_n 0, 1) := by decide +kernel
theorem dL_law_321 : decode cL_law 321 = .ok (.iload_n 3, 1) := by decide +kernel
theorem dL_law_322 : decode cL_law 322 = .ok (.iconst 2, 1) := by decide +kernel
theorem dL_law_323 : decode cL_law 323 = .ok (.iadd, 1) := by decide +kernel
theorem dL_law_324 : decode cL_law 324 = .ok (.iaload, 1) := by decide +kernel
theorem dL_law_325 : decode cL_law 325 = .ok (.aload_n 0, 1) := by decide +kernel
theorem dL_law_326 : decode cL_law 326 = .ok (.iload_n 3, 1) := by decide +kernel
theorem dL_law_327 : decode cL_law 327 = .ok (.iconst 3, 1) := by decide +kernel
theorem dL_law_328 : decode cL_law 328 = .ok (.iadd, 1) := by decide +kernel
theorem dL_law_329 : decode cL_law 329 = .ok (.iaload, 1) := by decide +kernel
theorem dL_law_330 : decode cL_law 330 = .ok (.invokevirtual 31, 3) := by decide +kernel
theorem dL_law_333 : decode cL_law 333 = .ok (.aload_n 2, 1) := by decide +kernel
theorem dL_law_334 : decode cL_law 334 = .ok (.aload_n 0, 1) := by decide +kernel
theorem dL_law_335 : decode cL_law 335 = .ok (.iload_n 3, 1) := by decide +kernel
theorem dL_law_336 : decode cL_law 336 = .ok (.iconst 1, 1) := by decide +kernel
theorem dL_law_337 : decode cL_law 337 = .ok (.iadd, 1) := by decide +kernel
theorem dL_law_338 : decode cL_law 338 = .ok (.iaload, 1) := by decide +kernel
theorem dL_law_339 : decode cL_law 339 = .ok (.aload_n 0, 1) := by decide +kernel
theorem dL_law_340 : decode cL_law 340 = .ok (.iload_n 3, 1) := by decide +kernel
theorem dL_law_341 : decode cL_law 341 = .ok (.iconst 2, 1) := by decide +kernel
theorem dL_law_342 : decode cL_law 342 = .ok (.iadd, 1) := by decide +kernel
theorem dL_law_343 : decode cL_law 343 = .ok (.iaload, 1) := by decide +kernel
theorem dL_law_344 : decode cL_law 344 = .ok (.aload_n 0, 1) := by decide +kernel
theorem dL_law_345 : decode cL_law 345 = .ok (.iload_n 3, 1) := by decide +kernel
theorem dL_law_346 : decode cL_law 346 = .ok (.iconst 3, 1) := by decide +kernel
theorem dL_law_347 : decode cL_law 347 = .ok (.iadd, 1) := by decide +kernel
theorem dL_law_348 : decode cL_law 348 = .ok (.iaload, 1) := by decide +kernel
theorem dL_law_349 : decode cL_law 349 = .ok (.invokevirtual 34, 3) := by decide +kernel
theorem dL_law_352 : decode cL_law 352 = .ok (.if_icmp .eq 943, 3) := by decide +kernel
theorem dL_law_355 : decode cL_law 355 = .ok (.iconst 0, 1) := by decide +kernel
theorem dL_law_356 : decode cL_law 356 = .ok (.ireturn, 1) := by decide +kernel
theorem dL_law_357 : decode cL_law 357 = .ok (.aload_n 1, 1) := by decide +kernel
theorem dL_law_358 : decode cL_law 358 = .ok (.aload_n 0, 1) := by decide +kernel
theorem dL_law_359 : decode cL_law 359 = .ok (.iload_n 3, 1) := by decide +kernel
theorem dL_law_360 : decode cL_law 360 = .ok (.iconst 1, 1) := by decide +kernel
theorem dL_law_361 : decode cL_law 361 = .ok (.iadd, 1) := by decide +kernel
theorem dL_law_362 : decode cL_law 362 = .ok (.iaload, 1) := by decide +kernel
theorem dL_law_363 : decode cL_law 363 = .ok (.aload_n 0, 1) := by decide +kernel
theorem dL_law_364 : decode cL_law 364 = .ok (.iload_n 3, 1) := by decide +kernel
theorem dL_law_365 : decode cL_law 365 = .ok (.iconst 2, 1) := by decide +kernel
theorem dL_law_366 : decode cL_law 366 = .ok (.iadd, 1) := by decide +kernel
theorem dL_law_367 : decode cL_law 367 = .ok (.iaload, 1) := by decide +kernel
theorem dL_law_368 : decode cL_law 368 = .ok (.i2l, 1) := by decide +kernel
theorem dL_law_369 : decode cL_law 369 = .ok (.bipush 32, 2) := by decide +kernel
theorem dL_law_371 : decode cL_law 371 = .ok (.lshl, 1) := by decide +kernel
theorem dL_law_372 : decode cL_law 372 = .ok (.aload_n 0, 1) := by decide +kernel
theorem dL_law_373 : decode cL_law 373 = .ok (.iload_n 3, 1) := by decide +kernel
theorem dL_law_374 : decode cL_law 374 = .ok (.iconst 3, 1) := by decide +kernel
theorem dL_law_375 : decode cL_law 375 = .ok (.iadd, 1) := by decide +kernel
theorem dL_law_376 : decode cL_law 376 = .ok (.iaload, 1) := by decide +kernel
theorem dL_law_377 : decode cL_law 377 = .ok (.i2l, 1) := by decide +kernel
theorem dL_law_378 : decode cL_law 378 = .ok (.ldc2_w 35, 3) := by decide +kernel
theorem dL_law_381 : decode cL_law 381 = .ok (.land, 1) := by decide +kernel
theorem dL_law_382 : decode cL_law 382 = .ok (.lor, 1) := by decide +kernel
theorem dL_law_383 : decode cL_law 383 = .ok (.invokevirtual 37, 3) := by decide +kernel
theorem dL_law_386 : decode cL_law 386 = .ok (.aload_n 2, 1) := by decide +kernel
theorem dL_law_387 : decode cL_law 387 = .ok (.aload_n 0, 1) := by decide +kernel
theorem dL_law_388 : decode cL_law 388 = .ok (.iload_n 3, 1) := by decide +kernel
theorem dL_law_389 : decode cL_law 389 = .ok (.iconst 1, 1) := by decide +kernel
theorem dL_law_390 : decode cL_law 390 = .ok (.iadd, 1) := by decide +kernel
theorem dL_law_391 : decode cL_law 391 = .ok (.iaload, 1) := by decide +kernel
theorem dL_law_392 : decode cL_law 392 = .ok (.aload_n 0, 1) := by decide +kernel
theorem dL_law_393 : decode cL_law 393 = .ok (.iload_n 3, 1) := by decide +kernel
theorem dL_law_394 : decode cL_law 394 = .ok (.iconst 2, 1) := by decide +kernel
theorem dL_law_395 : decode cL_law 395 = .ok (.iadd, 1) := by decide +kernel
theorem dL_law_396 : decode cL_law 396 = .ok (.iaload, 1) := by decide +kernel
theorem dL_law_397 : decode cL_law 397 = .ok (.i2l, 1) := by decide +kernel
theorem dL_law_398 : decode cL_law 398 = .ok (.bipush 32, 2) := by decide +kernel
theorem dL_law_400 : decode cL_law 400 = .ok (.lshl, 1) := by decide +kernel
theorem dL_law_401 : decode cL_law 401 = .ok (.aload_n 0, 1) := by decide +kernel
theorem dL_law_402 : decode cL_law 402 = .ok (.iload_n 3, 1) := by decide +kernel
theorem dL_law_403 : decode cL_law 403 = .ok (.iconst 3, 1) := by decide +kernel
theorem dL_law_404 : decode cL_law 404 = .ok (.iadd, 1) := by decide +kernel
theorem dL_law_405 : decode cL_law 405 = .ok (.iaload, 1) := by decide +kernel
theorem dL_law_406 : decode cL_law 406 = .ok (.i2l, 1) := by decide +kernel
theorem dL_law_407 : decode cL_law 407 = .ok (.ldc2_w 35, 3) := by decide +kernel
theorem dL_law_410 : decode cL_law 410 = .ok (.land, 1) := by decide +kernel
theorem dL_law_411 : decode cL_law 411 = .ok (.lor, 1) := by decide +kernel
theorem dL_law_412 : decode cL_law 412 = .ok (.invokevirtual 41, 3) := by decide +kernel
theorem dL_law_415 : decode cL_law 415 = .ok (.if_icmp .eq 880, 3) := by decide +kernel
theorem dL_law_418 : decode cL_law 418 = .ok (.iconst 0, 1) := by decide +kernel
theorem dL_law_419 : decode cL_law 419 = .ok (.ireturn, 1) := by decide +kernel
theorem dL_law_420 : decode cL_law 420 = .ok (.aload_n 1, 1) := by decide +kernel
theorem dL_law_421 : decode cL_law 421 = .ok (.invokevirtual 42, 3) := by decide +kernel
theorem dL_law_424 : decode cL_law 424 = .ok (.aload_n 2, 1) := by decide +kernel
theorem dL_law_425 : decode cL_law 425 = .ok (.invokevirtual 46, 3) := by decide +kernel
theorem dL_law_428 : decode cL_law 428 = .ok (.if_icmp .eq 867, 3) := by decide +kernel
theorem dL_law_431 : decode cL_law 431 = .ok (.iconst 0, 1) := by decide +kernel
theorem dL_law_432 : decode cL_law 432 = .ok (.ireturn, 1) := by decide +kernel
theorem dL_law_433 : decode cL_law 433 = .ok (.aload_n 1, 1) := by decide +kernel
theorem dL_law_434 : decode cL_law 434 = .ok (.aload_n 0, 1) := by decide +kernel
theorem dL_law_435 : decode cL_law 435 = .ok (.iload_n 3, 1) := by decide +kernel
theorem dL_law_436 : decode cL_law 436 = .ok (.iconst 1, 1) := by decide +kernel
theorem dL_law_437 : decode cL_law 437 = .ok (.iadd, 1) := by decide +kernel
theorem dL_law_438 : decode cL_law 438 = .ok (.iaload, 1) := by decide +kernel
theorem dL_law_439 : decode cL_law 439 = .ok (.invokevirtual 47, 3) := by decide +kernel
theorem dL_law_442 : decode cL_law 442 = .ok (.aload_n 2, 1) := by decide +kernel
theorem dL_law_443 : decode cL_law 443 = .ok (.aload_n 0, 1) := by decide +kernel
theorem dL_law_444 : decode cL_law 444 = .ok (.iload_n 3, 1) := by decide +kernel
theorem dL_law_445 : decode cL_law 445 = .ok (.iconst 1, 1) := by decide +kernel
theorem dL_law_446 : decode cL_law 446 = .ok (.iadd, 1) := by decide +kernel
theorem dL_law_447 : decode cL_law 447 = .ok (.iaload, 1) := by decide +kernel
theorem dL_law_448 : decode cL_law 448 = .ok (.invokevirtual 51, 3) := by decide +kernel
theorem dL_law_451 : decode cL_law 451 = .ok (.if_icmp .eq 844, 3) := by decide +kernel
theorem dL_law_454 : decode cL_law 454 = .ok (.iconst 0, 1) := by decide +kernel
theorem dL_law_455 : decode cL_law 455 = .ok (.ireturn, 1) := by decide +kernel
theorem dL_law_456 : decode cL_law 456 = .ok (.aload_n 1, 1) := by decide +kernel
theorem dL_law_457 : decode cL_law 457 = .ok (.aload_n 0, 1) := by decide +kernel
theorem dL_law_458 : decode cL_law 458 = .ok (.iload_n 3, 1) := by decide +kernel
theorem dL_law_459 : decode cL_law 459 = .ok (.iconst 1, 1) := by decide +kernel
theorem dL_law_460 : decode cL_law 460 = .ok (.iadd, 1) := by decide +kernel
theorem dL_law_461 : decode cL_law 461 = .ok (.iaload, 1) := by decide +kernel
theorem dL_law_462 : decode cL_law 462 = .ok (.aload_n 0, 1) := by decide +kernel
theorem dL_law_463 : decode cL_law 463 = .ok (.iload_n 3, 1) := by decide +kernel
theorem dL_law_464 : decode cL_law 464 = .ok (.iconst 2, 1) := by decide +kernel
theorem dL_law_465 : decode cL_law 465 = .ok (.iadd, 1) := by decide +kernel
theorem dL_law_466 : decode cL_law 466 = .ok (.iaload, 1) := by decide +kernel
theorem dL_law_467 : decode cL_law 467 = .ok (.aload_n 0, 1) := by decide +kernel
theorem dL_law_468 : decode cL_law 468 = .ok (.iload_n 3, 1) := by decide +kernel
theorem dL_law_469 : decode cL_law 469 = .ok (.iconst 3, 1) := by decide +kernel
theorem dL_law_470 : decode cL_law 470 = .ok (.iadd, 1) := by decide +kernel
theorem dL_law_471 : decode cL_law 471 = .ok (.iaload, 1) := by decide +kernel
theorem dL_law_472 : decode cL_law 472 = .ok (.invokevirtual 52, 3) := by decide +kernel
theorem dL_law_475 : decode cL_law 475 = .ok (.aload_n 2, 1) := by decide +kernel
theorem dL_law_476 : decode cL_law 476 = .ok (.aload_n 0, 1) := by decide +kernel
theorem dL_law_477 : decode cL_law 477 = .ok (.iload_n 3, 1) := by decide +kernel
theorem dL_law_478 : decode cL_law 478 = .ok (.iconst 1, 1) := by decide +kernel
theorem dL_law_479 : decode cL_law 479 = .ok (.iadd, 1) := by decide +kernel
theorem dL_law_480 : decode cL_law 480 = .ok (.iaload, 1) := by decide +kernel
theorem dL_law_481 : decode cL_law 481 = .ok (.aload_n 0, 1) := by decide +kernel
theorem dL_law_482 : decode cL_law 482 = .ok (.iload_n 3, 1) := by decide +kernel
theorem dL_law_483 : decode cL_law 483 = .ok (.iconst 2, 1) := by decide +kernel
theorem dL_law_484 : decode cL_law 484 = .ok (.iadd, 1) := by decide +kernel
theorem dL_law_485 : decode cL_law 485 = .ok (.iaload, 1) := by decide +kernel
theorem dL_law_486 : decode cL_law 486 = .ok (.aload_n 0, 1) := by decide +kernel
theorem dL_law_487 : decode cL_law 487 = .ok (.iload_n 3, 1) := by decide +kernel
theorem dL_law_488 : decode cL_law 488 = .ok (.iconst 3, 1) := by decide +kernel
theorem dL_law_489 : decode cL_law 489 = .ok (.iadd, 1) := by decide +kernel
theorem dL_law_490 : decode cL_law 490 = .ok (.iaload, 1) := by decide +kernel
theorem dL_law_491 : decode cL_law 491 = .ok (.invokevirtual 55, 3) := by decide +kernel
theorem dL_law_494 : decode cL_law 494 = .ok (.if_icmp .eq 801, 3) := by decide +kernel
theorem dL_law_497 : decode cL_law 497 = .ok (.iconst 0, 1) := by decide +kernel
theorem dL_law_498 : decode cL_law 498 = .ok (.ireturn, 1) := by decide +kernel
theorem dL_law_499 : decode cL_law 499 = .ok (.aload_n 1, 1) := by decide +kernel
theorem dL_law_500 : decode cL_law 500 = .ok (.aload_n 0, 1) := by decide +kernel
theorem dL_law_501 : decode cL_law 501 = .ok (.iload_n 3, 1) := by decide +kernel
theorem dL_law_502 : decode cL_law 502 = .ok (.iconst 1, 1) := by decide +kernel
theorem dL_law_503 : decode cL_law 503 = .ok (.iadd, 1) := by decide +kernel
theorem dL_law_504 : decode cL_law 504 = .ok (.iaload, 1) := by decide +kernel
theorem dL_law_505 : decode cL_law 505 = .ok (.aload_n 0, 1) := by decide +kernel
theorem dL_law_506 : decode cL_law 506 = .ok (.iload_n 3, 1) := by decide +kernel
theorem dL_law_507 : decode cL_law 507 = .ok (.iconst 2, 1) := by decide +kernel
theorem dL_law_508 : decode cL_law 508 = .ok (.iadd, 1) := by decide +kernel
theorem dL_law_509 : decode cL_law 509 = .ok (.iaload, 1) := by decide +kernel
theorem dL_law_510 : decode cL_law 510 = .ok (.invokevirtual 56, 3) := by decide +kernel
theorem dL_law_513 : decode cL_law 513 = .ok (.aload_n 2, 1) := by decide +kernel
theorem dL_law_514 : decode cL_law 514 = .ok (.aload_n 0, 1) := by decide +kernel
theorem dL_law_515 : decode cL_law 515 = .ok (.iload_n 3, 1) := by decide +kernel
theorem dL_law_516 : decode cL_law 516 = .ok (.iconst 1, 1) := by decide +kernel
theorem dL_law_517 : decode cL_law 517 = .ok (.iadd, 1) := by decide +kernel
theorem dL_law_518 : decode cL_law 518 = .ok (.iaload, 1) := by decide +kernel
theorem dL_law_519 : decode cL_law 519 = .ok (.aload_n 0, 1) := by decide +kernel
theorem dL_law_520 : decode cL_law 520 = .ok (.iload_n 3, 1) := by decide +kernel
theorem dL_law_521 : decode cL_law 521 = .ok (.iconst 2, 1) := by decide +kernel
theorem dL_law_522 : decode cL_law 522 = .ok (.iadd, 1) := by decide +kernel
theorem dL_law_523 : decode cL_law 523 = .ok (.iaload, 1) := by decide +kernel
theorem dL_law_524 : decode cL_law 524 = .ok (.invokevirtual 59, 3) := by decide +kernel
theorem dL_law_527 : decode cL_law 527 = .ok (.if_icmp .eq 768, 3) := by decide +kernel
theorem dL_law_530 : decode cL_law 530 = .ok (.iconst 0, 1) := by decide +kernel
theorem dL_law_531 : decode cL_law 531 = .ok (.ireturn, 1) := by decide +kernel
theorem dL_law_532 : decode cL_law 532 = .ok (.aload_n 1, 1) := by decide +kernel
theorem dL_law_533 : decode cL_law 533 = .ok (.aload_n 0, 1) := by decide +kernel
theorem dL_law_534 : decode cL_law 534 = .ok (.iload_n 3, 1) := by decide +kernel
theorem dL_law_535 : decode cL_law 535 = .ok (.iconst 1, 1) := by decide +kernel
theorem dL_law_536 : decode cL_law 536 = .ok (.iadd, 1) := by decide +kernel
theorem dL_law_537 : decode cL_law 537 = .ok (.iaload, 1) := by decide +kernel
theorem dL_law_538 : decode cL_law 538 = .ok (.aload_n 0, 1) := by decide +kernel
theorem dL_law_539 : decode cL_law 539 = .ok (.iload_n 3, 1) := by decide +kernel
theorem dL_law_540 : decode cL_law 540 = .ok (.iconst 2, 1) := by decide +kernel
theorem dL_law_541 : decode cL_law 541 = .ok (.iadd, 1) := by decide +kernel
theorem dL_law_542 : decode cL_law 542 = .ok (.iaload, 1) := by decide +kernel
theorem dL_law_543 : decode cL_law 543 = .ok (.aload_n 0, 1) := by decide +kernel
theorem dL_law_544 : decode cL_law 544 = .ok (.iload_n 3, 1) := by decide +kernel
theorem dL_law_545 : decode cL_law 545 = .ok (.iconst 3, 1) := by decide +kernel
theorem dL_law_546 : decode cL_law 546 = .ok (.iadd, 1) := by decide +kernel
theorem dL_law_547 : decode cL_law 547 = .ok (.iaload, 1) := by decide +kernel
theorem dL_law_548 : decode cL_law 548 = .ok (.aload_n 0, 1) := by decide +kernel
theorem dL_law_549 : decode cL_law 549 = .ok (.iload_n 3, 1) := by decide +kernel
theorem dL_law_550 : decode cL_law 550 = .ok (.iconst 4, 1) := by decide +kernel
theorem dL_law_551 : decode cL_law 551 = .ok (.iadd, 1) := by decide +kernel
theorem dL_law_552 : decode cL_law 552 = .ok (.iaload, 1) := by decide +kernel
theorem dL_law_553 : decode cL_law 553 = .ok (.invokevirtual 60, 3) := by decide +kernel
theorem dL_law_556 : decode cL_law 556 = .ok (.aload_n 2, 1) := by decide +kernel
theorem dL_law_557 : decode cL_law 557 = .ok (.aload_n 0, 1) := by decide +kernel
theorem dL_law_558 : decode cL_law 558 = .ok (.iload_n 3, 1) := by decide +kernel
theorem dL_law_559 : decode cL_law 559 = .ok (.iconst 1, 1) := by decide +kernel
theorem dL_law_560 : decode cL_law 560 = .ok (.iadd, 1) := by decide +kernel
theorem dL_law_561 : decode cL_law 561 = .ok (.iaload, 1) := by decide +kernel
theorem dL_law_562 : decode cL_law 562 = .ok (.aload_n 0, 1) := by decide +kernel
theorem dL_law_563 : decode cL_law 563 = .ok (.iload_n 3, 1) := by decide +kernel
theorem dL_law_564 : decode cL_law 564 = .ok (.iconst 2, 1) := by decide +kernel
theorem dL_law_565 : decode cL_law 565 = .ok (.iadd, 1) := by decide +kernel
theorem dL_law_566 : decode cL_law 566 = .ok (.iaload, 1) := by decide +kernel
theorem dL_law_567 : decode cL_law 567 = .ok (.aload_n 0, 1) := by decide +kernel
theorem dL_law_568 : decode cL_law 568 = .ok (.iload_n 3, 1) := by decide +kernel
theorem dL_law_569 : decode cL_law 569 = .ok (.iconst 3, 1) := by decide +kernel
theorem dL_law_570 : decode cL_law 570 = .ok (.iadd, 1) := by decide +kernel
theorem dL_law_571 : decode cL_law 571 = .ok (.iaload, 1) := by decide +kernel
theorem dL_law_572 : decode cL_law 572 = .ok (.aload_n 0, 1) := by decide +kernel
theorem dL_law_573 : decode cL_law 573 = .ok (.iload_n 3, 1) := by decide +kernel
theorem dL_law_574 : decode cL_law 574 = .ok (.iconst 4, 1) := by decide +kernel
theorem dL_law_575 : decode cL_law 575 = .ok (.iadd, 1) := by decide +kernel
theorem dL_law_576 : decode cL_law 576 = .ok (.iaload, 1) := by decide +kernel
theorem dL_law_577 : decode cL_law 577 = .ok (.invokevirtual 64, 3) := by decide +kernel
theorem dL_law_580 : decode cL_law 580 = .ok (.if_icmp .eq 715, 3) := by decide +kernel
theorem dL_law_583 : decode cL_law 583 = .ok (.iconst 0, 1) := by decide +kernel
theorem dL_law_584 : decode cL_law 584 = .ok (.ireturn, 1) := by decide +kernel
theorem dL_law_585 : decode cL_law 585 = .ok (.aload_n 1, 1) := by decide +kernel
theorem dL_law_586 : decode cL_law 586 = .ok (.aload_n 0, 1) := by decide +kernel
theorem dL_law_587 : decode cL_law 587 = .ok (.iload_n 3, 1) := by decide +kernel
theorem dL_law_588 : decode cL_law 588 = .ok (.iconst 1, 1) := by decide +kernel
theorem dL_law_589 : decode cL_law 589 = .ok (.iadd, 1) := by decide +kernel
theorem dL_law_590 : decode cL_law 590 = .ok (.iaload, 1) := by decide +kernel
theorem dL_law_591 : decode cL_law 591 = .ok (.aload_n 0, 1) := by decide +kernel
theorem dL_law_592 : decode cL_law 592 = .ok (.iload_n 3, 1) := by decide +kernel
theorem dL_law_593 : decode cL_law 593 = .ok (.iconst 2, 1) := by decide +kernel
theorem dL_law_594 : decode cL_law 594 = .ok (.iadd, 1) := by decide +kernel
theorem dL_law_595 : decode cL_law 595 = .ok (.iaload, 1) := by decide +kernel
theorem dL_law_596 : decode cL_law 596 = .ok (.invokevirtual 65, 3) := by decide +kernel
theorem dL_law_599 : decode cL_law 599 = .ok (.aload_n 2, 1) := by decide +kernel
theorem dL_law_600 : decode cL_law 600 = .ok (.aload_n 0, 1) := by decide +kernel
theorem dL_law_601 : decode cL_law 601 = .ok (.iload_n 3, 1) := by decide +kernel
theorem dL_law_602 : decode cL_law 602 = .ok (.iconst 1, 1) := by decide +kernel
theorem dL_law_603 : decode cL_law 603 = .ok (.iadd, 1) := by decide +kernel
theorem dL_law_604 : decode cL_law 604 = .ok (.iaload, 1) := by decide +kernel
theorem dL_law_605 : decode cL_law 605 = .ok (.aload_n 0, 1) := by decide +kernel
theorem dL_law_606 : decode cL_law 606 = .ok (.iload_n 3, 1) := by decide +kernel
theorem dL_law_607 : decode cL_law 607 = .ok (.iconst 2, 1) := by decide +kernel
theorem dL_law_608 : decode cL_law 608 = .ok (.iadd, 1) := by decide +kernel
theorem dL_law_609 : decode cL_law 609 = .ok (.iaload, 1) := by decide +kernel
theorem dL_law_610 : decode cL_law 610 = .ok (.invokevirtual 68, 3) := by decide +kernel
theorem dL_law_613 : decode cL_law 613 = .ok (.if_icmp .eq 682, 3) := by decide +kernel
theorem dL_law_616 : decode cL_law 616 = .ok (.iconst 0, 1) := by decide +kernel
theorem dL_law_617 : decode cL_law 617 = .ok (.ireturn, 1) := by decide +kernel
theorem dL_law_618 : decode cL_law 618 = .ok (.aload_n 1, 1) := by decide +kernel
theorem dL_law_619 : decode cL_law 619 = .ok (.aload_n 0, 1) := by decide +kernel
theorem dL_law_620 : decode cL_law 620 = .ok (.iload_n 3, 1) := by decide +kernel
theorem dL_law_621 : decode cL_law 621 = .ok (.iconst 1, 1) := by decide +kernel
theorem dL_law_622 : decode cL_law 622 = .ok (.iadd, 1) := by decide +kernel
theorem dL_law_623 : decode cL_law 623 = .ok (.iaload, 1) := by decide +kernel
theorem dL_law_624 : decode cL_law 624 = .ok (.aload_n 0, 1) := by decide +kernel
theorem dL_law_625 : decode cL_law 625 = .ok (.iload_n 3, 1) := by decide +kernel
theorem dL_law_626 : decode cL_law 626 = .ok (.iconst 2, 1) := by decide +kernel
theorem dL_law_627 : decode cL_law 627 = .ok (.iadd, 1) := by decide +kernel
theorem dL_law_628 : decode cL_law 628 = .ok (.iaload, 1) := by decide +kernel
theorem dL_law_629 : decode cL_law 629 = .ok (.invokevirtual 69, 3) := by decide +kernel
theorem dL_law_632 : decode cL_law 632 = .ok (.aload_n 2, 1) := by decide +kernel
theorem dL_law_633 : decode cL_law 633 = .ok (.aload_n 0, 1) := by decide +kernel
theorem dL_law_634 : decode cL_law 634 = .ok (.iload_n 3, 1) := by decide +kernel
theorem dL_law_635 : decode cL_law 635 = .ok (.iconst 1, 1) := by decide +kernel
theorem dL_law_636 : decode cL_law 636 = .ok (.iadd, 1) := by decide +kernel
theorem dL_law_637 : decode cL_law 637 = .ok (.iaload, 1) := by decide +kernel
theorem dL_law_638 : decode cL_law 638 = .ok (.aload_n 0, 1) := by decide +kernel
theorem dL_law_639 : decode cL_law 639 = .ok (.iload_n 3, 1) := by decide +kernel
theorem dL_law_640 : decode cL_law 640 = .ok (.iconst 2, 1) := by decide +kernel
theorem dL_law_641 : decode cL_law 641 = .ok (.iadd, 1) := by decide +kernel
theorem dL_law_642 : decode cL_law 642 = .ok (.iaload, 1) := by decide +kernel
theorem dL_law_643 : decode cL_law 643 = .ok (.invokevirtual 72, 3) := by decide +kernel
theorem dL_law_646 : decode cL_law 646 = .ok (.if_icmp .eq 649, 3) := by decide +kernel
theorem dL_law_649 : decode cL_law 649 = .ok (.iconst 0, 1) := by decide +kernel
theorem dL_law_650 : decode cL_law 650 = .ok (.ireturn, 1) := by decide +kernel
theorem dL_law_651 : decode cL_law 651 = .ok (.aload_n 1, 1) := by decide +kernel
theorem dL_law_652 : decode cL_law 652 = .ok (.aload_n 0, 1) := by decide +kernel
theorem dL_law_653 : decode cL_law 653 = .ok (.iload_n 3, 1) := by decide +kernel
theorem dL_law_654 : decode cL_law 654 = .ok (.iconst 1, 1) := by decide +kernel
theorem dL_law_655 : decode cL_law 655 = .ok (.iadd, 1) := by decide +kernel
theorem dL_law_656 : decode cL_law 656 = .ok (.iaload, 1) := by decide +kernel
theorem dL_law_657 : decode cL_law 657 = .ok (.aload_n 0, 1) := by decide +kernel
theorem dL_law_658 : decode cL_law 658 = .ok (.iload_n 3, 1) := by decide +kernel
theorem dL_law_659 : decode cL_law 659 = .ok (.iconst 2, 1) := by decide +kernel
theorem dL_law_660 : decode cL_law 660 = .ok (.iadd, 1) := by decide +kernel
theorem dL_law_661 : decode cL_law 661 = .ok (.iaload, 1) := by decide +kernel
theorem dL_law_662 : decode cL_law 662 = .ok (.invokevirtual 73, 3) := by decide +kernel
theorem dL_law_665 : decode cL_law 665 = .ok (.aload_n 2, 1) := by decide +kernel
theorem dL_law_666 : decode cL_law 666 = .ok (.aload_n 0, 1) := by decide +kernel
theorem dL_law_667 : decode cL_law 667 = .ok (.iload_n 3, 1) := by decide +kernel
theorem dL_law_668 : decode cL_law 668 = .ok (.iconst 1, 1) := by decide +kernel
theorem dL_law_669 : decode cL_law 669 = .ok (.iadd, 1) := by decide +kernel
theorem dL_law_670 : decode cL_law 670 = .ok (.iaload, 1) := by decide +kernel
theorem dL_law_671 : decode cL_law 671 = .ok (.aload_n 0, 1) := by decide +kernel
theorem dL_law_672 : decode cL_law 672 = .ok (.iload_n 3, 1) := by decide +kernel
theorem dL_law_673 : decode cL_law 673 = .ok (.iconst 2, 1) := by decide +kernel
theorem dL_law_674 : decode cL_law 674 = .ok (.iadd, 1) := by decide +kernel
theorem dL_law_675 : decode cL_law 675 = .ok (.iaload, 1) := by decide +kernel
theorem dL_law_676 : decode cL_law 676 = .ok (.invokevirtual 76, 3) := by decide +kernel
theorem dL_law_679 : decode cL_law 679 = .ok (.if_icmp .eq 616, 3) := by decide +kernel
theorem dL_law_682 : decode cL_law 682 = .ok (.iconst 0, 1) := by decide +kernel
theorem dL_law_683 : decode cL_law 683 = .ok (.ireturn, 1) := by decide +kernel
theorem dL_law_684 : decode cL_law 684 = .ok (.aload_n 1, 1) := by decide +kernel
theorem dL_law_685 : decode cL_law 685 = .ok (.aload_n 0, 1) := by decide +kernel
theorem dL_law_686 : decode cL_law 686 = .ok (.iload_n 3, 1) := by decide +kernel
theorem dL_law_687 : decode cL_law 687 = .ok (.iconst 1, 1) := by decide +kernel
theorem dL_law_688 : decode cL_law 688 = .ok (.iadd, 1) := by decide +kernel
theorem dL_law_689 : decode cL_law 689 = .ok (.iaload, 1) := by decide +kernel
theorem dL_law_690 : decode cL_law 690 = .ok (.aload_n 0, 1) := by decide +kernel
theorem dL_law_691 : decode cL_law 691 = .ok (.iload_n 3, 1) := by decide +kernel
theorem dL_law_692 : decode cL_law 692 = .ok (.iconst 2, 1) := by decide +kernel
theorem dL_law_693 : decode cL_law 693 = .ok (.iadd, 1) := by decide +kernel
theorem dL_law_694 : decode cL_law 694 = .ok (.iaload, 1) := by decide +kernel
theorem dL_law_695 : decode cL_law 695 = .ok (.invokevirtual 77, 3) := by decide +kernel
theorem dL_law_698 : decode cL_law 698 = .ok (.aload_n 2, 1) := by decide +kernel
theorem dL_law_699 : decode cL_law 699 = .ok (.aload_n 0, 1) := by decide +kernel
theorem dL_law_700 : decode cL_law 700 = .ok (.iload_n 3, 1) := by decide +kernel
theorem dL_law_701 : decode cL_law 701 = .ok (.iconst 1, 1) := by decide +kernel
theorem dL_law_702 : decode cL_law 702 = .ok (.iadd, 1) := by decide +kernel
theorem dL_law_703 : decode cL_law 703 = .ok (.iaload, 1) := by decide +kernel
theorem dL_law_704 : decode cL_law 704 = .ok (.aload_n 0, 1) := by decide +kernel
theorem dL_law_705 : decode cL_law 705 = .ok (.iload_n 3, 1) := by decide +kernel
theorem dL_law_706 : decode cL_law 706 = .ok (.iconst 2, 1) := by decide +kernel
theorem dL_law_707 : decode cL_law 707 = .ok (.iadd, 1) := by decide +kernel
theorem dL_law_708 : decode cL_law 708 = .ok (.iaload, 1) := by decide +kernel
theorem dL_law_709 : decode cL_law 709 = .ok (.invokevirtual 80, 3) := by decide +kernel
theorem dL_law_712 : decode cL_law 712 = .ok (.if_icmp .eq 583, 3) := by decide +kernel
theorem dL_law_715 : decode cL_law 715 = .ok (.iconst 0, 1) := by decide +kernel
theorem dL_law_716 : decode cL_law 716 = .ok (.ireturn, 1) := by decide +kernel
theorem dL_law_717 : decode cL_law 717 = .ok (.aload_n 1, 1) := by decide +kernel
theorem dL_law_718 : decode cL_law 718 = .ok (.aload_n 0, 1) := by decide +kernel
theorem dL_law_719 : decode cL_law 719 = .ok (.iload_n 3, 1) := by decide +kernel
theorem dL_law_720 : decode cL_law 720 = .ok (.iconst 1, 1) := by decide +kernel
theorem dL_law_721 : decode cL_law 721 = .ok (.iadd, 1) := by decide +kernel
theorem dL_law_722 : decode cL_law 722 = .ok (.iaload, 1) := by decide +kernel
theorem dL_law_723 : decode cL_law 723 = .ok (.aload_n 0, 1) := by decide +kernel
theorem dL_law_724 : decode cL_law 724 = .ok (.iload_n 3, 1) := by decide +kernel
theorem dL_law_725 : decode cL_law 725 = .ok (.iconst 2, 1) := by decide +kernel
theorem dL_law_726 : decode cL_law 726 = .ok (.iadd, 1) := by decide +kernel
theorem dL_law_727 : decode cL_law 727 = .ok (.iaload, 1) := by decide +kernel
theorem dL_law_728 : decode cL_law 728 = .ok (.invokevirtual 81, 3) := by decide +kernel
theorem dL_law_731 : decode cL_law 731 = .ok (.aload_n 2, 1) := by decide +kernel
theorem dL_law_732 : decode cL_law 732 = .ok (.aload_n 0, 1) := by decide +kernel
theorem dL_law_733 : decode cL_law 733 = .ok (.iload_n 3, 1) := by decide +kernel
theorem dL_law_734 : decode cL_law 734 = .ok (.iconst 1, 1) := by decide +kernel
theorem dL_law_735 : decode cL_law 735 = .ok (.iadd, 1) := by decide +kernel
theorem dL_law_736 : decode cL_law 736 = .ok (.iaload, 1) := by decide +kernel
theorem dL_law_737 : decode cL_law 737 = .ok (.aload_n 0, 1) := by decide +kernel
theorem dL_law_738 : decode cL_law 738 = .ok (.iload_n 3, 1) := by decide +kernel
theorem dL_law_739 : decode cL_law 739 = .ok (.iconst 2, 1) := by decide +kernel
theorem dL_law_740 : decode cL_law 740 = .ok (.iadd, 1) := by decide +kernel
theorem dL_law_741 : decode cL_law 741 = .ok (.iaload, 1) := by decide +kernel
theorem dL_law_742 : decode cL_law 742 = .ok (.invokevirtual 84, 3) := by decide +kernel
theorem dL_law_745 : decode cL_law 745 = .ok (.if_icmp .eq 550, 3) := by decide +kernel
theorem dL_law_748 : decode cL_law 748 = .ok (.iconst 0, 1) := by decide +kernel
theorem dL_law_749 : decode cL_law 749 = .ok (.ireturn, 1) := by decide +kernel
theorem dL_law_750 : decode cL_law 750 = .ok (.aload_n 1, 1) := by decide +kernel
theorem dL_law_751 : decode cL_law 751 = .ok (.aload_n 0, 1) := by decide +kernel
theorem dL_law_752 : decode cL_law 752 = .ok (.iload_n 3, 1) := by decide +kernel
theorem dL_law_753 : decode cL_law 753 = .ok (.iconst 1, 1) := by decide +kernel
theorem dL_law_754 : decode cL_law 754 = .ok (.iadd, 1) := by decide +kernel
theorem dL_law_755 : decode cL_law 755 = .ok (.iaload, 1) := by decide +kernel
theorem dL_law_756 : decode cL_law 756 = .ok (.aload_n 0, 1) := by decide +kernel
theorem dL_law_757 : decode cL_law 757 = .ok (.iload_n 3, 1) := by decide +kernel
theorem dL_law_758 : decode cL_law 758 = .ok (.iconst 2, 1) := by decide +kernel
theorem dL_law_759 : decode cL_law 759 = .ok (.iadd, 1) := by decide +kernel
theorem dL_law_760 : decode cL_law 760 = .ok (.iaload, 1) := by decide +kernel
theorem dL_law_761 : decode cL_law 761 = .ok (.invokevirtual 85, 3) := by decide +kernel
theorem dL_law_764 : decode cL_law 764 = .ok (.aload_n 2, 1) := by decide +kernel
theorem dL_law_765 : decode cL_law 765 = .ok (.aload_n 0, 1) := by decide +kernel
theorem dL_law_766 : decode cL_law 766 = .ok (.iload_n 3, 1) := by decide +kernel
theorem dL_law_767 : decode cL_law 767 = .ok (.iconst 1, 1) := by decide +kernel
theorem dL_law_768 : decode cL_law 768 = .ok (.iadd, 1) := by decide +kernel
theorem dL_law_769 : decode cL_law 769 = .ok (.iaload, 1) := by decide +kernel
theorem dL_law_770 : decode cL_law 770 = .ok (.aload_n 0, 1) := by decide +kernel
theorem dL_law_771 : decode cL_law 771 = .ok (.iload_n 3, 1) := by decide +kernel
theorem dL_law_772 : decode cL_law 772 = .ok (.iconst 2, 1) := by decide +kernel
theorem dL_law_773 : decode cL_law 773 = .ok (.iadd, 1) := by decide +kernel
theorem dL_law_774 : decode cL_law 774 = .ok (.iaload, 1) := by decide +kernel
theorem dL_law_775 : decode cL_law 775 = .ok (.invokevirtual 88, 3) := by decide +kernel
theorem dL_law_778 : decode cL_law 778 = .ok (.if_icmp .eq 517, 3) := by decide +kernel
theorem dL_law_781 : decode cL_law 781 = .ok (.iconst 0, 1) := by decide +kernel
theorem dL_law_782 : decode cL_law 782 = .ok (.ireturn, 1) := by decide +kernel
theorem dL_law_783 : decode cL_law 783 = .ok (.aload_n 1, 1) := by decide +kernel
theorem dL_law_784 : decode cL_law 784 = .ok (.aload_n 0, 1) := by decide +kernel
theorem dL_law_785 : decode cL_law 785 = .ok (.iload_n 3, 1) := by decide +kernel
theorem dL_law_786 : decode cL_law 786 = .ok (.iconst 1, 1) := by decide +kernel
theorem dL_law_787 : decode cL_law 787 = .ok (.iadd, 1) := by decide +kernel
theorem dL_law_788 : decode cL_law 788 = .ok (.iaload, 1) := by decide +kernel
theorem dL_law_789 : decode cL_law 789 = .ok (.invokevirtual 89, 3) := by decide +kernel
theorem dL_law_792 : decode cL_law 792 = .ok (.aload_n 2, 1) := by decide +kernel
theorem dL_law_793 : decode cL_law 793 = .ok (.aload_n 0, 1) := by decide +kernel
theorem dL_law_794 : decode cL_law 794 = .ok (.iload_n 3, 1) := by decide +kernel
theorem dL_law_795 : decode cL_law 795 = .ok (.iconst 1, 1) := by decide +kernel
theorem dL_law_796 : decode cL_law 796 = .ok (.iadd, 1) := by decide +kernel
theorem dL_law_797 : decode cL_law 797 = .ok (.iaload, 1) := by decide +kernel
theorem dL_law_798 : decode cL_law 798 = .ok (.invokevirtual 92, 3) := by decide +kernel
theorem dL_law_801 : decode cL_law 801 = .ok (.if_icmp .eq 494, 3) := by decide +kernel
theorem dL_law_804 : decode cL_law 804 = .ok (.iconst 0, 1) := by decide +kernel
theorem dL_law_805 : decode cL_law 805 = .ok (.ireturn, 1) := by decide +kernel
theorem dL_law_806 : decode cL_law 806 = .ok (.aload_n 1, 1) := by decide +kernel
theorem dL_law_807 : decode cL_law 807 = .ok (.aload_n 0, 1) := by decide +kernel
theorem dL_law_808 : decode cL_law 808 = .ok (.iload_n 3, 1) := by decide +kernel
theorem dL_law_809 : decode cL_law 809 = .ok (.iconst 1, 1) := by decide +kernel
theorem dL_law_810 : decode cL_law 810 = .ok (.iadd, 1) := by decide +kernel
theorem dL_law_811 : decode cL_law 811 = .ok (.iaload, 1) := by decide +kernel
theorem dL_law_812 : decode cL_law 812 = .ok (.invokevirtual 93, 3) := by decide +kernel
theorem dL_law_815 : decode cL_law 815 = .ok (.aload_n 2, 1) := by decide +kernel
theorem dL_law_816 : decode cL_law 816 = .ok (.aload_n 0, 1) := by decide +kernel
theorem dL_law_817 : decode cL_law 817 = .ok (.iload_n 3, 1) := by decide +kernel
theorem dL_law_818 : decode cL_law 818 = .ok (.iconst 1, 1) := by decide +kernel
theorem dL_law_819 : decode cL_law 819 = .ok (.iadd, 1) := by decide +kernel
theorem dL_law_820 : decode cL_law 820 = .ok (.iaload, 1) := by decide +kernel
theorem dL_law_821 : decode cL_law 821 = .ok (.invokevirtual 96, 3) := by decide +kernel
theorem dL_law_824 : decode cL_law 824 = .ok (.if_icmp .eq 471, 3) := by decide +kernel
theorem dL_law_827 : decode cL_law 827 = .ok (.iconst 0, 1) := by decide +kernel
theorem dL_law_828 : decode cL_law 828 = .ok (.ireturn, 1) := by decide +kernel
theorem dL_law_829 : decode cL_law 829 = .ok (.aload_n 1, 1) := by decide +kernel
theorem dL_law_830 : decode cL_law 830 = .ok (.aload_n 0, 1) := by decide +kernel
theorem dL_law_831 : decode cL_law 831 = .ok (.iload_n 3, 1) := by decide +kernel
theorem dL_law_832 : decode cL_law 832 = .ok (.iconst 1, 1) := by decide +kernel
theorem dL_law_833 : decode cL_law 833 = .ok (.iadd, 1) := by decide +kernel
theorem dL_law_834 : decode cL_law 834 = .ok (.iaload, 1) := by decide +kernel
theorem dL_law_835 : decode cL_law 835 = .ok (.aload_n 0, 1) := by decide +kernel
theorem dL_law_836 : decode cL_law 836 = .ok (.iload_n 3, 1) := by decide +kernel
theorem dL_law_837 : decode cL_law 837 = .ok (.iconst 2, 1) := by decide +kernel
theorem dL_law_838 : decode cL_law 838 = .ok (.iadd, 1) := by decide +kernel
theorem dL_law_839 : decode cL_law 839 = .ok (.iaload, 1) := by decide +kernel
theorem dL_law_840 : decode cL_law 840 = .ok (.aload_n 0, 1) := by decide +kernel
theorem dL_law_841 : decode cL_law 841 = .ok (.iload_n 3, 1) := by decide +kernel
theorem dL_law_842 : decode cL_law 842 = .ok (.iconst 3, 1) := by decide +kernel
theorem dL_law_843 : decode cL_law 843 = .ok (.iadd, 1) := by decide +kernel
theorem dL_law_844 : decode cL_law 844 = .ok (.iaload, 1) := by decide +kernel
theorem dL_law_845 : decode cL_law 845 = .ok (.aload_n 0, 1) := by decide +kernel
theorem dL_law_846 : decode cL_law 846 = .ok (.iload_n 3, 1) := by decide +kernel
theorem dL_law_847 : decode cL_law 847 = .ok (.iconst 4, 1) := by decide +kernel
theorem dL_law_848 : decode cL_law 848 = .ok (.iadd, 1) := by decide +kernel
theorem dL_law_849 : decode cL_law 849 = .ok (.iaload, 1) := by decide +kernel
theorem dL_law_850 : decode cL_law 850 = .ok (.invokevirtual 97, 3) := by decide +kernel
theorem dL_law_853 : decode cL_law 853 = .ok (.aload_n 2, 1) := by decide +kernel
theorem dL_law_854 : decode cL_law 854 = .ok (.aload_n 0, 1) := by decide +kernel
theorem dL_law_855 : decode cL_law 855 = .ok (.iload_n 3, 1) := by decide +kernel
theorem dL_law_856 : decode cL_law 856 = .ok (.iconst 1, 1) := by decide +kernel
theorem dL_law_857 : decode cL_law 857 = .ok (.iadd, 1) := by decide +kernel
theorem dL_law_858 : decode cL_law 858 = .ok (.iaload, 1) := by decide +kernel
theorem dL_law_859 : decode cL_law 859 = .ok (.aload_n 0, 1) := by decide +kernel
theorem dL_law_860 : decode cL_law 860 = .ok (.iload_n 3, 1) := by decide +kernel
theorem dL_law_861 : decode cL_law 861 = .ok (.iconst 2, 1) := by decide +kernel
theorem dL_law_862 : decode cL_law 862 = .ok (.iadd, 1) := by decide +kernel
theorem dL_law_863 : decode cL_law 863 = .ok (.iaload, 1) := by decide +kernel
theorem dL_law_864 : decode cL_law 864 = .ok (.aload_n 0, 1) := by decide +kernel
theorem dL_law_865 : decode cL_law 865 = .ok (.iload_n 3, 1) := by decide +kernel
theorem dL_law_866 : decode cL_law 866 = .ok (.iconst 3, 1) := by decide +kernel
theorem dL_law_867 : decode cL_law 867 = .ok (.iadd, 1) := by decide +kernel
theorem dL_law_868 : decode cL_law 868 = .ok (.iaload, 1) := by decide +kernel
theorem dL_law_869 : decode cL_law 869 = .ok (.aload_n 0, 1) := by decide +kernel
theorem dL_law_870 : decode cL_law 870 = .ok (.iload_n 3, 1) := by decide +kernel
theorem dL_law_871 : decode cL_law 871 = .ok (.iconst 4, 1) := by decide +kernel
theorem dL_law_872 : decode cL_law 872 = .ok (.iadd, 1) := by decide +kernel
theorem dL_law_873 : decode cL_law 873 = .ok (.iaload, 1) := by decide +kernel
theorem dL_law_874 : decode cL_law 874 = .ok (.invokevirtual 100, 3) := by decide +kernel
theorem dL_law_877 : decode cL_law 877 = .ok (.if_icmp .eq 418, 3) := by decide +kernel
theorem dL_law_880 : decode cL_law 880 = .ok (.iconst 0, 1) := by decide +kernel
theorem dL_law_881 : decode cL_law 881 = .ok (.ireturn, 1) := by decide +kernel
theorem dL_law_882 : decode cL_law 882 = .ok (.aload_n 1, 1) := by decide +kernel
theorem dL_law_883 : decode cL_law 883 = .ok (.aload_n 0, 1) := by decide +kernel
theorem dL_law_884 : decode cL_law 884 = .ok (.iload_n 3, 1) := by decide +kernel
theorem dL_law_885 : decode cL_law 885 = .ok (.iconst 1, 1) := by decide +kernel
theorem dL_law_886 : decode cL_law 886 = .ok (.iadd, 1) := by decide +kernel
theorem dL_law_887 : decode cL_law 887 = .ok (.iaload, 1) := by decide +kernel
theorem dL_law_888 : decode cL_law 888 = .ok (.aload_n 0, 1) := by decide +kernel
theorem dL_law_889 : decode cL_law 889 = .ok (.iload_n 3, 1) := by decide +kernel
theorem dL_law_890 : decode cL_law 890 = .ok (.iconst 2, 1) := by decide +kernel
theorem dL_law_891 : decode cL_law 891 = .ok (.iadd, 1) := by decide +kernel
theorem dL_law_892 : decode cL_law 892 = .ok (.iaload, 1) := by decide +kernel
theorem dL_law_893 : decode cL_law 893 = .ok (.aload_n 0, 1) := by decide +kernel
theorem dL_law_894 : decode cL_law 894 = .ok (.iload_n 3, 1) := by decide +kernel
theorem dL_law_895 : decode cL_law 895 = .ok (.iconst 3, 1) := by decide +kernel
theorem dL_law_896 : decode cL_law 896 = .ok (.iadd, 1) := by decide +kernel
theorem dL_law_897 : decode cL_law 897 = .ok (.iaload, 1) := by decide +kernel
theorem dL_law_898 : decode cL_law 898 = .ok (.aload_n 0, 1) := by decide +kernel
theorem dL_law_899 : decode cL_law 899 = .ok (.iload_n 3, 1) := by decide +kernel
theorem dL_law_900 : decode cL_law 900 = .ok (.iconst 4, 1) := by decide +kernel
theorem dL_law_901 : decode cL_law 901 = .ok (.iadd, 1) := by decide +kernel
theorem dL_law_902 : decode cL_law 902 = .ok (.iaload, 1) := by decide +kernel
theorem dL_law_903 : decode cL_law 903 = .ok (.invokevirtual 101, 3) := by decide +kernel
theorem dL_law_906 : decode cL_law 906 = .ok (.aload_n 2, 1) := by decide +kernel
theorem dL_law_907 : decode cL_law 907 = .ok (.aload_n 0, 1) := by decide +kernel
theorem dL_law_908 : decode cL_law 908 = .ok (.iload_n 3, 1) := by decide +kernel
theorem dL_law_909 : decode cL_law 909 = .ok (.iconst 1, 1) := by decide +kernel
theorem dL_law_910 : decode cL_law 910 = .ok (.iadd, 1) := by decide +kernel
theorem dL_law_911 : decode cL_law 911 = .ok (.iaload, 1) := by decide +kernel
theorem dL_law_912 : decode cL_law 912 = .ok (.aload_n 0, 1) := by decide +kernel
theorem dL_law_913 : decode cL_law 913 = .ok (.iload_n 3, 1) := by decide +kernel
theorem dL_law_914 : decode cL_law 914 = .ok (.iconst 2, 1) := by decide +kernel
theorem dL_law_915 : decode cL_law 915 = .ok (.iadd, 1) := by decide +kernel
theorem dL_law_916 : decode cL_law 916 = .ok (.iaload, 1) := by decide +kernel
theorem dL_law_917 : decode cL_law 917 = .ok (.aload_n 0, 1) := by decide +kernel
theorem dL_law_918 : decode cL_law 918 = .ok (.iload_n 3, 1) := by decide +kernel
theorem dL_law_919 : decode cL_law 919 = .ok (.iconst 3, 1) := by decide +kernel
theorem dL_law_920 : decode cL_law 920 = .ok (.iadd, 1) := by decide +kernel
theorem dL_law_921 : decode cL_law 921 = .ok (.iaload, 1) := by decide +kernel
theorem dL_law_922 : decode cL_law 922 = .ok (.aload_n 0, 1) := by decide +kernel
theorem dL_law_923 : decode cL_law 923 = .ok (.iload_n 3, 1) := by decide +kernel
theorem dL_law_924 : decode cL_law 924 = .ok (.iconst 4, 1) := by decide +kernel
theorem dL_law_925 : decode cL_law 925 = .ok (.iadd, 1) := by decide +kernel
theorem dL_law_926 : decode cL_law 926 = .ok (.iaload, 1) := by decide +kernel
theorem dL_law_927 : decode cL_law 927 = .ok (.invokevirtual 104, 3) := by decide +kernel
theorem dL_law_930 : decode cL_law 930 = .ok (.if_icmp .eq 365, 3) := by decide +kernel
theorem dL_law_933 : decode cL_law 933 = .ok (.iconst 0, 1) := by decide +kernel
theorem dL_law_934 : decode cL_law 934 = .ok (.ireturn, 1) := by decide +kernel
theorem dL_law_935 : decode cL_law 935 = .ok (.aload_n 1, 1) := by decide +kernel
theorem dL_law_936 : decode cL_law 936 = .ok (.aload_n 0, 1) := by decide +kernel
theorem dL_law_937 : decode cL_law 937 = .ok (.iload_n 3, 1) := by decide +kernel
theorem dL_law_938 : decode cL_law 938 = .ok (.iconst 1, 1) := by decide +kernel
theorem dL_law_939 : decode cL_law 939 = .ok (.iadd, 1) := by decide +kernel
theorem dL_law_940 : decode cL_law 940 = .ok (.iaload, 1) := by decide +kernel
theorem dL_law_941 : decode cL_law 941 = .ok (.aload_n 0, 1) := by decide +kernel
theorem dL_law_942 : decode cL_law 942 = .ok (.iload_n 3, 1) := by decide +kernel
theorem dL_law_943 : decode cL_law 943 = .ok (.iconst 2, 1) := by decide +kernel
theorem dL_law_944 : decode cL_law 944 = .ok (.iadd, 1) := by decide +kernel
theorem dL_law_945 : decode cL_law 945 = .ok (.iaload, 1) := by decide +kernel
theorem dL_law_946 : decode cL_law 946 = .ok (.aload_n 0, 1) := by decide +kernel
theorem dL_law_947 : decode cL_law 947 = .ok (.iload_n 3, 1) := by decide +kernel
theorem dL_law_948 : decode cL_law 948 = .ok (.iconst 3, 1) := by decide +kernel
theorem dL_law_949 : decode cL_law 949 = .ok (.iadd, 1) := by decide +kernel
theorem dL_law_950 : decode cL_law 950 = .ok (.iaload, 1) := by decide +kernel
theorem dL_law_951 : decode cL_law 951 = .ok (.invokevirtual 105, 3) := by decide +kernel
theorem dL_law_954 : decode cL_law 954 = .ok (.aload_n 2, 1) := by decide +kernel
theorem dL_law_955 : decode cL_law 955 = .ok (.aload_n 0, 1) := by decide +kernel
theorem dL_law_956 : decode cL_law 956 = .ok (.iload_n 3, 1) := by decide +kernel
theorem dL_law_957 : decode cL_law 957 = .ok (.iconst 1, 1) := by decide +kernel
theorem dL_law_958 : decode cL_law 958 = .ok (.iadd, 1) := by decide +kernel
theorem dL_law_959 : decode cL_law 959 = .ok (.iaload, 1) := by decide +kernel
theorem dL_law_960 : decode cL_law 960 = .ok (.aload_n 0, 1) := by decide +kernel
theorem dL_law_961 : decode cL_law 961 = .ok (.iload_n 3, 1) := by decide +kernel
theorem dL_law_962 : decode cL_law 962 = .ok (.iconst 2, 1) := by decide +kernel
theorem dL_law_963 : decode cL_law 963 = .ok (.iadd, 1) := by decide +kernel
theorem dL_law_964 : decode cL_law 964 = .ok (.iaload, 1) := by decide +kernel
theorem dL_law_965 : decode cL_law 965 = .ok (.aload_n 0, 1) := by decide +kernel
theorem dL_law_966 : decode cL_law 966 = .ok (.iload_n 3, 1) := by decide +kernel
theorem dL_law_967 : decode cL_law 967 = .ok (.iconst 3, 1) := by decide +kernel
theorem dL_law_968 : decode cL_law 968 = .ok (.iadd, 1) := by decide +kernel
theorem dL_law_969 : decode cL_law 969 = .ok (.iaload, 1) := by decide +kernel
theorem dL_law_970 : decode cL_law 970 = .ok (.invokevirtual 108, 3) := by decide +kernel
theorem dL_law_973 : decode cL_law 973 = .ok (.if_icmp .eq 322, 3) := by decide +kernel
theorem dL_law_976 : decode cL_law 976 = .ok (.iconst 0, 1) := by decide +kernel
theorem dL_law_977 : decode cL_law 977 = .ok (.ireturn, 1) := by decide +kernel
theorem dL_law_978 : decode cL_law 978 = .ok (.aload_n 1, 1) := by decide +kernel
theorem dL_law_979 : decode cL_law 979 = .ok (.aload_n 0, 1) := by decide +kernel
theorem dL_law_980 : decode cL_law 980 = .ok (.iload_n 3, 1) := by decide +kernel
theorem dL_law_981 : decode cL_law 981 = .ok (.iconst 1, 1) := by decide +kernel
theorem dL_law_982 : decode cL_law 982 = .ok (.iadd, 1) := by decide +kernel
theorem dL_law_983 : decode cL_law 983 = .ok (.iaload, 1) := by decide +kernel
theorem dL_law_984 : decode cL_law 984 = .ok (.aload_n 0, 1) := by decide +kernel
theorem dL_law_985 : decode cL_law 985 = .ok (.iload_n 3, 1) := by decide +kernel
theorem dL_law_986 : decode cL_law 986 = .ok (.iconst 2, 1) := by decide +kernel
theorem dL_law_987 : decode cL_law 987 = .ok (.iadd, 1) := by decide +kernel
theorem dL_law_988 : decode cL_law 988 = .ok (.iaload, 1) := by decide +kernel
theorem dL_law_989 : decode cL_law 989 = .ok (.invokevirtual 109, 3) := by decide +kernel
theorem dL_law_992 : decode cL_law 992 = .ok (.aload_n 2, 1) := by decide +kernel
theorem dL_law_993 : decode cL_law 993 = .ok (.aload_n 0, 1) := by decide +kernel
theorem dL_law_994 : decode cL_law 994 = .ok (.iload_n 3, 1) := by decide +kernel
theorem dL_law_995 : decode cL_law 995 = .ok (.iconst 1, 1) := by decide +kernel
theorem dL_law_996 : decode cL_law 996 = .ok (.iadd, 1) := by decide +kernel
theorem dL_law_997 : decode cL_law 997 = .ok (.iaload, 1) := by decide +kernel
theorem dL_law_998 : decode cL_law 998 = .ok (.aload_n 0, 1) := by decide +kernel
theorem dL_law_999 : decode cL_law 999 = .ok (.iload_n 3, 1) := by decide +kernel
theorem dL_law_1000 : decode cL_law 1000 = .ok (.iconst 2, 1) := by decide +kernel
theorem dL_law_1001 : decode cL_law 1001 = .ok (.iadd, 1) := by decide +kernel
theorem dL_law_1002 : decode cL_law 1002 = .ok (.iaload, 1) := by decide +kernel
theorem dL_law_1003 : decode cL_law 1003 = .ok (.invokevirtual 112, 3) := by decide +kernel
theorem dL_law_1006 : decode cL_law 1006 = .ok (.if_icmp .eq 289, 3) := by decide +kernel
theorem dL_law_1009 : decode cL_law 1009 = .ok (.iconst 0, 1) := by decide +kernel
theorem dL_law_1010 : decode cL_law 1010 = .ok (.ireturn, 1) := by decide +kernel
theorem dL_law_1011 : decode cL_law 1011 = .ok (.aload_n 1, 1) := by decide +kernel
theorem dL_law_1012 : decode cL_law 1012 = .ok (.invokevirtual 113, 3) := by decide +kernel
theorem dL_law_1015 : decode cL_law 1015 = .ok (.aload_n 2, 1) := by decide +kernel
theorem dL_law_1016 : decode cL_law 1016 = .ok (.invokevirtual 116, 3) := by decide +kernel
theorem dL_law_1019 : decode cL_law 1019 = .ok (.if_icmp .eq 276, 3) := by decide +kernel
theorem dL_law_1022 : decode cL_law 1022 = .ok (.iconst 0, 1) := by decide +kernel
theorem dL_law_1023 : decode cL_law 1023 = .ok (.ireturn, 1) := by decide +kernel
theorem dL_law_1024 : decode cL_law 1024 = .ok (.aload_n 1, 1) := by decide +kernel
theorem dL_law_1025 : decode cL_law 1025 = .ok (.invokevirtual 117, 3) := by decide +kernel
theorem dL_law_1028 : decode cL_law 1028 = .ok (.aload_n 2, 1) := by decide +kernel
theorem dL_law_1029 : decode cL_law 1029 = .ok (.invokevirtual 120, 3) := by decide +kernel
theorem dL_law_1032 : decode cL_law 1032 = .ok (.if_icmp .eq 263, 3) := by decide +kernel
theorem dL_law_1035 : decode cL_law 1035 = .ok (.iconst 0, 1) := by decide +kernel
theorem dL_law_1036 : decode cL_law 1036 = .ok (.ireturn, 1) := by decide +kernel
theorem dL_law_1037 : decode cL_law 1037 = .ok (.aload_n 1, 1) := by decide +kernel
theorem dL_law_1038 : decode cL_law 1038 = .ok (.aload_n 0, 1) := by decide +kernel
theorem dL_law_1039 : decode cL_law 1039 = .ok (.iload_n 3, 1) := by decide +kernel
theorem dL_law_1040 : decode cL_law 1040 = .ok (.iconst 1, 1) := by decide +kernel
theorem dL_law_1041 : decode cL_law 1041 = .ok (.iadd, 1) := by decide +kernel
theorem dL_law_1042 : decode cL_law 1042 = .ok (.iaload, 1) := by decide +kernel
theorem dL_law_1043 : decode cL_law 1043 = .ok (.invokevirtual 121, 3) := by decide +kernel
theorem dL_law_1046 : decode cL_law 1046 = .ok (.aload_n 2, 1) := by decide +kernel
theorem dL_law_1047 : decode cL_law 1047 = .ok (.aload_n 0, 1) := by decide +kernel
theorem dL_law_1048 : decode cL_law 1048 = .ok (.iload_n 3, 1) := by decide +kernel
theorem dL_law_1049 : decode cL_law 1049 = .ok (.iconst 1, 1) := by decide +kernel
theorem dL_law_1050 : decode cL_law 1050 = .ok (.iadd, 1) := by decide +kernel
theorem dL_law_1051 : decode cL_law 1051 = .ok (.iaload, 1) := by decide +kernel
theorem dL_law_1052 : decode cL_law 1052 = .ok (.invokevirtual 124, 3) := by decide +kernel
theorem dL_law_1055 : decode cL_law 1055 = .ok (.if_icmp .eq 240, 3) := by decide +kernel
theorem dL_law_1058 : decode cL_law 1058 = .ok (.iconst 0, 1) := by decide +kernel
theorem dL_law_1059 : decode cL_law 1059 = .ok (.ireturn, 1) := by decide +kernel
theorem dL_law_1060 : decode cL_law 1060 = .ok (.aload_n 1, 1) := by decide +kernel
theorem dL_law_1061 : decode cL_law 1061 = .ok (.aload_n 0, 1) := by decide +kernel
theorem dL_law_1062 : decode cL_law 1062 = .ok (.iload_n 3, 1) := by decide +kernel
theorem dL_law_1063 : decode cL_law 1063 = .ok (.iconst 1, 1) := by decide +kernel
theorem dL_law_1064 : decode cL_law 1064 = .ok (.iadd, 1) := by decide +kernel
theorem dL_law_1065 : decode cL_law 1065 = .ok (.iaload, 1) := by decide +kernel
theorem dL_law_1066 : decode cL_law 1066 = .ok (.aload_n 0, 1) := by decide +kernel
theorem dL_law_1067 : decode cL_law 1067 = .ok (.iload_n 3, 1) := by decide +kernel
theorem dL_law_1068 : decode cL_law 1068 = .ok (.iconst 2, 1) := by decide +kernel
theorem dL_law_1069 : decode cL_law 1069 = .ok (.iadd, 1) := by decide +kernel
theorem dL_law_1070 : decode cL_law 1070 = .ok (.iaload, 1) := by decide +kernel
theorem dL_law_1071 : decode cL_law 1071 = .ok (.aload_n 0, 1) := by decide +kernel
theorem dL_law_1072 : decode cL_law 1072 = .ok (.iload_n 3, 1) := by decide +kernel
theorem dL_law_1073 : decode cL_law 1073 = .ok (.iconst 3, 1) := by decide +kernel
theorem dL_law_1074 : decode cL_law 1074 = .ok (.iadd, 1) := by decide +kernel
theorem dL_law_1075 : decode cL_law 1075 = .ok (.iaload, 1) := by decide +kernel
theorem dL_law_1076 : decode cL_law 1076 = .ok (.invokevirtual 125, 3) := by decide +kernel
theorem dL_law_1079 : decode cL_law 1079 = .ok (.aload_n 2, 1) := by decide +kernel
theorem dL_law_1080 : decode cL_law 1080 = .ok (.aload_n 0, 1) := by decide +kernel
theorem dL_law_1081 : decode cL_law 1081 = .ok (.iload_n 3, 1) := by decide +kernel
theorem dL_law_1082 : decode cL_law 1082 = .ok (.iconst 1, 1) := by decide +kernel
theorem dL_law_1083 : decode cL_law 1083 = .ok (.iadd, 1) := by decide +kernel
theorem dL_law_1084 : decode cL_law 1084 = .ok (.iaload, 1) := by decide +kernel
theorem dL_law_1085 : decode cL_law 1085 = .ok (.aload_n 0, 1) := by decide +kernel
theorem dL_law_1086 : decode cL_law 1086 = .ok (.iload_n 3, 1) := by decide +kernel
theorem dL_law_1087 : decode cL_law 1087 = .ok (.iconst 2, 1) := by decide +kernel
theorem dL_law_1088 : decode cL_law 1088 = .ok (.iadd, 1) := by decide +kernel
theorem dL_law_1089 : decode cL_law 1089 = .ok (.iaload, 1) := by decide +kernel
theorem dL_law_1090 : decode cL_law 1090 = .ok (.aload_n 0, 1) := by decide +kernel
theorem dL_law_1091 : decode cL_law 1091 = .ok (.iload_n 3, 1) := by decide +kernel
theorem dL_law_1092 : decode cL_law 1092 = .ok (.iconst 3, 1) := by decide +kernel
theorem dL_law_1093 : decode cL_law 1093 = .ok (.iadd, 1) := by decide +kernel
theorem dL_law_1094 : decode cL_law 1094 = .ok (.iaload, 1) := by decide +kernel
theorem dL_law_1095 : decode cL_law 1095 = .ok (.invokevirtual 128, 3) := by decide +kernel
theorem dL_law_1098 : decode cL_law 1098 = .ok (.if_icmp .eq 197, 3) := by decide +kernel
theorem dL_law_1101 : decode cL_law 1101 = .ok (.iconst 0, 1) := by decide +kernel
theorem dL_law_1102 : decode cL_law 1102 = .ok (.ireturn, 1) := by decide +kernel
theorem dL_law_1103 : decode cL_law 1103 = .ok (.aload_n 1, 1) := by decide +kernel
theorem dL_law_1104 : decode cL_law 1104 = .ok (.aload_n 0, 1) := by decide +kernel
theorem dL_law_1105 : decode cL_law 1105 = .ok (.iload_n 3, 1) := by decide +kernel
theorem dL_law_1106 : decode cL_law 1106 = .ok (.iconst 1, 1) := by decide +kernel
theorem dL_law_1107 : decode cL_law 1107 = .ok (.iadd, 1) := by decide +kernel
theorem dL_law_1108 : decode cL_law 1108 = .ok (.iaload, 1) := by decide +kernel
theorem dL_law_1109 : decode cL_law 1109 = .ok (.aload_n 0, 1) := by decide +kernel
theorem dL_law_1110 : decode cL_law 1110 = .ok (.iload_n 3, 1) := by decide +kernel
theorem dL_law_1111 : decode cL_law 1111 = .ok (.iconst 2, 1) := by decide +kernel
theorem dL_law_1112 : decode cL_law 1112 = .ok (.iadd, 1) := by decide +kernel
theorem dL_law_1113 : decode cL_law 1113 = .ok (.iaload, 1) := by decide +kernel
theorem dL_law_1114 : decode cL_law 1114 = .ok (.aload_n 0, 1) := by decide +kernel
theorem dL_law_1115 : decode cL_law 1115 = .ok (.iload_n 3, 1) := by decide +kernel
theorem dL_law_1116 : decode cL_law 1116 = .ok (.iconst 3, 1) := by decide +kernel
theorem dL_law_1117 : decode cL_law 1117 = .ok (.iadd, 1) := by decide +kernel
theorem dL_law_1118 : decode cL_law 1118 = .ok (.iaload, 1) := by decide +kernel
theorem dL_law_1119 : decode cL_law 1119 = .ok (.invokevirtual 129, 3) := by decide +kernel
theorem dL_law_1122 : decode cL_law 1122 = .ok (.aload_n 2, 1) := by decide +kernel
theorem dL_law_1123 : decode cL_law 1123 = .ok (.aload_n 0, 1) := by decide +kernel
theorem dL_law_1124 : decode cL_law 1124 = .ok (.iload_n 3, 1) := by decide +kernel
theorem dL_law_1125 : decode cL_law 1125 = .ok (.iconst 1, 1) := by decide +kernel
theorem dL_law_1126 : decode cL_law 1126 = .ok (.iadd, 1) := by decide +kernel
theorem dL_law_1127 : decode cL_law 1127 = .ok (.iaload, 1) := by decide +kernel
theorem dL_law_1128 : decode cL_law 1128 = .ok (.aload_n 0, 1) := by decide +kernel
theorem dL_law_1129 : decode cL_law 1129 = .ok (.iload_n 3, 1) := by decide +kernel
theorem dL_law_1130 : decode cL_law 1130 = .ok (.iconst 2, 1) := by decide +kernel
theorem dL_law_1131 : decode cL_law 1131 = .ok (.iadd, 1) := by decide +kernel
theorem dL_law_1132 : decode cL_law 1132 = .ok (.iaload, 1) := by decide +kernel
theorem dL_law_1133 : decode cL_law 1133 = .ok (.aload_n 0, 1) := by decide +kernel
theorem dL_law_1134 : decode cL_law 1134 = .ok (.iload_n 3, 1) := by decide +kernel
theorem dL_law_1135 : decode cL_law 1135 = .ok (.iconst 3, 1) := by decide +kernel
theorem dL_law_1136 : decode cL_law 1136 = .ok (.iadd, 1) := by decide +kernel
theorem dL_law_1137 : decode cL_law 1137 = .ok (.iaload, 1) := by decide +kernel
theorem dL_law_1138 : decode cL_law 1138 = .ok (.invokevirtual 132, 3) := by decide +kernel
theorem dL_law_1141 : decode cL_law 1141 = .ok (.if_icmp .eq 154, 3) := by decide +kernel
theorem dL_law_1144 : decode cL_law 1144 = .ok (.iconst 0, 1) := by decide +kernel
theorem dL_law_1145 : decode cL_law 1145 = .ok (.ireturn, 1) := by decide +kernel
theorem dL_law_1146 : decode cL_law 1146 = .ok (.aload_n 1, 1) := by decide +kernel
theorem dL_law_1147 : decode cL_law 1147 = .ok (.aload_n 0, 1) := by decide +kernel
theorem dL_law_1148 : decode cL_law 1148 = .ok (.iload_n 3, 1) := by decide +kernel
theorem dL_law_1149 : decode cL_law 1149 = .ok (.iconst 1, 1) := by decide +kernel
theorem dL_law_1150 : decode cL_law 1150 = .ok (.iadd, 1) := by decide +kernel
theorem dL_law_1151 : decode cL_law 1151 = .ok (.iaload, 1) := by decide +kernel
theorem dL_law_1152 : decode cL_law 1152 = .ok (.aload_n 0, 1) := by decide +kernel
theorem dL_law_1153 : decode cL_law 1153 = .ok (.iload_n 3, 1) := by decide +kernel
theorem dL_law_1154 : decode cL_law 1154 = .ok (.iconst 2, 1) := by decide +kernel
theorem dL_law_1155 : decode cL_law 1155 = .ok (.iadd, 1) := by decide +kernel
theorem dL_law_1156 : decode cL_law 1156 = .ok (.iaload, 1) := by decide +kernel
theorem dL_law_1157 : decode cL_law 1157 = .ok (.aload_n 0, 1) := by decide +kernel
theorem dL_law_1158 : decode cL_law 1158 = .ok (.iload_n 3, 1) := by decide +kernel
theorem dL_law_1159 : decode cL_law 1159 = .ok (.iconst 3, 1) := by decide +kernel
theorem dL_law_1160 : decode cL_law 1160 = .ok (.iadd, 1) := by decide +kernel
theorem dL_law_1161 : decode cL_law 1161 = .ok (.iaload, 1) := by decide +kernel
theorem dL_law_1162 : decode cL_law 1162 = .ok (.aload_n 0, 1) := by decide +kernel
theorem dL_law_1163 : decode cL_law 1163 = .ok (.iload_n 3, 1) := by decide +kernel
theorem dL_law_1164 : decode cL_law 1164 = .ok (.iconst 4, 1) := by decide +kernel
theorem dL_law_1165 : decode cL_law 1165 = .ok (.iadd, 1) := by decide +kernel
theorem dL_law_1166 : decode cL_law 1166 = .ok (.iaload, 1) := by decide +kernel
theorem dL_law_1167 : decode cL_law 1167 = .ok (.aload_n 0, 1) := by decide +kernel
theorem dL_law_1168 : decode cL_law 1168 = .ok (.iload_n 3, 1) := by decide +kernel
theorem dL_law_1169 : decode cL_law 1169 = .ok (.iconst 5, 1) := by decide +kernel
theorem dL_law_1170 : decode cL_law 1170 = .ok (.iadd, 1) := by decide +kernel
theorem dL_law_1171 : decode cL_law 1171 = .ok (.iaload, 1) := by decide +kernel
theorem dL_law_1172 : decode cL_law 1172 = .ok (.invokevirtual 133, 3) := by decide +kernel
theorem dL_law_1175 : decode cL_law 1175 = .ok (.aload_n 2, 1) := by decide +kernel
theorem dL_law_1176 : decode cL_law 1176 = .ok (.aload_n 0, 1) := by decide +kernel
theorem dL_law_1177 : decode cL_law 1177 = .ok (.iload_n 3, 1) := by decide +kernel
theorem dL_law_1178 : decode cL_law 1178 = .ok (.iconst 1, 1) := by decide +kernel
theorem dL_law_1179 : decode cL_law 1179 = .ok (.iadd, 1) := by decide +kernel
theorem dL_law_1180 : decode cL_law 1180 = .ok (.iaload, 1) := by decide +kernel
theorem dL_law_1181 : decode cL_law 1181 = .ok (.aload_n 0, 1) := by decide +kernel
theorem dL_law_1182 : decode cL_law 1182 = .ok (.iload_n 3, 1) := by decide +kernel
theorem dL_law_1183 : decode cL_law 1183 = .ok (.iconst 2, 1) := by decide +kernel
theorem dL_law_1184 : decode cL_law 1184 = .ok (.iadd, 1) := by decide +kernel
theorem dL_law_1185 : decode cL_law 1185 = .ok (.iaload, 1) := by decide +kernel
theorem dL_law_1186 : decode cL_law 1186 = .ok (.aload_n 0, 1) := by decide +kernel
theorem dL_law_1187 : decode cL_law 1187 = .ok (.iload_n 3, 1) := by decide +kernel
theorem dL_law_1188 : decode cL_law 1188 = .ok (.iconst 3, 1) := by decide +kernel
theorem dL_law_1189 : decode cL_law 1189 = .ok (.iadd, 1) := by decide +kernel
theorem dL_law_1190 : decode cL_law 1190 = .ok (.iaload, 1) := by decide +kernel
theorem dL_law_1191 : decode cL_law 1191 = .ok (.aload_n 0, 1) := by decide +kernel
theorem dL_law_1192 : decode cL_law 1192 = .ok (.iload_n 3, 1) := by decide +kernel
theorem dL_law_1193 : decode cL_law 1193 = .ok (.iconst 4, 1) := by decide +kernel
theorem dL_law_1194 : decode cL_law 1194 = .ok (.iadd, 1) := by decide +kernel
theorem dL_law_1195 : decode cL_law 1195 = .ok (.iaload, 1) := by decide +kernel
theorem dL_law_1196 : decode cL_law 1196 = .ok (.aload_n 0, 1) := by decide +kernel
theorem dL_law_1197 : decode cL_law 1197 = .ok (.iload_n 3, 1) := by decide +kernel
theorem dL_law_1198 : decode cL_law 1198 = .ok (.iconst 5, 1) := by decide +kernel
theorem dL_law_1199 : decode cL_law 1199 = .ok (.iadd, 1) := by decide +kernel
theorem dL_law_1200 : decode cL_law 1200 = .ok (.iaload, 1) := by decide +kernel
theorem dL_law_1201 : decode cL_law 1201 = .ok (.invokevirtual 137, 3) := by decide +kernel
theorem dL_law_1204 : decode cL_law 1204 = .ok (.if_icmp .eq 91, 3) := by decide +kernel
theorem dL_law_1207 : decode cL_law 1207 = .ok (.iconst 0, 1) := by decide +kernel
theorem dL_law_1208 : decode cL_law 1208 = .ok (.ireturn, 1) := by decide +kernel
theorem dL_law_1209 : decode cL_law 1209 = .ok (.aload_n 1, 1) := by decide +kernel
theorem dL_law_1210 : decode cL_law 1210 = .ok (.aload_n 0, 1) := by decide +kernel
theorem dL_law_1211 : decode cL_law 1211 = .ok (.iload_n 3, 1) := by decide +kernel
theorem dL_law_1212 : decode cL_law 1212 = .ok (.iconst 1, 1) := by decide +kernel
theorem dL_law_1213 : decode cL_law 1213 = .ok (.iadd, 1) := by decide +kernel
theorem dL_law_1214 : decode cL_law 1214 = .ok (.iaload, 1) := by decide +kernel
theorem dL_law_1215 : decode cL_law 1215 = .ok (.aload_n 0, 1) := by decide +kernel
theorem dL_law_1216 : decode cL_law 1216 = .ok (.iload_n 3, 1) := by decide +kernel
theorem dL_law_1217 : decode cL_law 1217 = .ok (.iconst 2, 1) := by decide +kernel
theorem dL_law_1218 : decode cL_law 1218 = .ok (.iadd, 1) := by decide +kernel
theorem dL_law_1219 : decode cL_law 1219 = .ok (.iaload, 1) := by decide +kernel
theorem dL_law_1220 : decode cL_law 1220 = .ok (.aload_n 0, 1) := by decide +kernel
theorem dL_law_1221 : decode cL_law 1221 = .ok (.iload_n 3, 1) := by decide +kernel
theorem dL_law_1222 : decode cL_law 1222 = .ok (.iconst 3, 1) := by decide +kernel
theorem dL_law_1223 : decode cL_law 1223 = .ok (.iadd, 1) := by decide +kernel
theorem dL_law_1224 : decode cL_law 1224 = .ok (.iaload, 1) := by decide +kernel
theorem dL_law_1225 : decode cL_law 1225 = .ok (.aload_n 0, 1) := by decide +kernel
theorem dL_law_1226 : decode cL_law 1226 = .ok (.iload_n 3, 1) := by decide +kernel
theorem dL_law_1227 : decode cL_law 1227 = .ok (.iconst 4, 1) := by decide +kernel
theorem dL_law_1228 : decode cL_law 1228 = .ok (.iadd, 1) := by decide +kernel
theorem dL_law_1229 : decode cL_law 1229 = .ok (.iaload, 1) := by decide +kernel
theorem dL_law_1230 : decode cL_law 1230 = .ok (.invokevirtual 138, 3) := by decide +kernel
theorem dL_law_1233 : decode cL_law 1233 = .ok (.aload_n 2, 1) := by decide +kernel
theorem dL_law_1234 : decode cL_law 1234 = .ok (.aload_n 0, 1) := by decide +kernel
theorem dL_law_1235 : decode cL_law 1235 = .ok (.iload_n 3, 1) := by decide +kernel
theorem dL_law_1236 : decode cL_law 1236 = .ok (.iconst 1, 1) := by decide +kernel
theorem dL_law_1237 : decode cL_law 1237 = .ok (.iadd, 1) := by decide +kernel
theorem dL_law_1238 : decode cL_law 1238 = .ok (.iaload, 1) := by decide +kernel
theorem dL_law_1239 : decode cL_law 1239 = .ok (.aload_n 0, 1) := by decide +kernel
theorem dL_law_1240 : decode cL_law 1240 = .ok (.iload_n 3, 1) := by decide +kernel
theorem dL_law_1241 : decode cL_law 1241 = .ok (.iconst 2, 1) := by decide +kernel
theorem dL_law_1242 : decode cL_law 1242 = .ok (.iadd, 1) := by decide +kernel
theorem dL_law_1243 : decode cL_law 1243 = .ok (.iaload, 1) := by decide +kernel
theorem dL_law_1244 : decode cL_law 1244 = .ok (.aload_n 0, 1) := by decide +kernel
theorem dL_law_1245 : decode cL_law 1245 = .ok (.iload_n 3, 1) := by decide +kernel
theorem dL_law_1246 : decode cL_law 1246 = .ok (.iconst 3, 1) := by decide +kernel
theorem dL_law_1247 : decode cL_law 1247 = .ok (.iadd, 1) := by decide +kernel
theorem dL_law_1248 : decode cL_law 1248 = .ok (.iaload, 1) := by decide +kernel
theorem dL_law_1249 : decode cL_law 1249 = .ok (.aload_n 0, 1) := by decide +kernel
theorem dL_law_1250 : decode cL_law 1250 = .ok (.iload_n 3, 1) := by decide +kernel
theorem dL_law_1251 : decode cL_law 1251 = .ok (.iconst 4, 1) := by decide +kernel
theorem dL_law_1252 : decode cL_law 1252 = .ok (.iadd, 1) := by decide +kernel
theorem dL_law_1253 : decode cL_law 1253 = .ok (.iaload, 1) := by decide +kernel
theorem dL_law_1254 : decode cL_law 1254 = .ok (.invokevirtual 141, 3) := by decide +kernel
theorem dL_law_1257 : decode cL_law 1257 = .ok (.if_icmp .eq 38, 3) := by decide +kernel
theorem dL_law_1260 : decode cL_law 1260 = .ok (.iconst 0, 1) := by decide +kernel
theorem dL_law_1261 : decode cL_law 1261 = .ok (.ireturn, 1) := by decide +kernel
theorem dL_law_1262 : decode cL_law 1262 = .ok (.aload_n 1, 1) := by decide +kernel
theorem dL_law_1263 : decode cL_law 1263 = .ok (.aload_n 0, 1) := by decide +kernel
theorem dL_law_1264 : decode cL_law 1264 = .ok (.iload_n 3, 1) := by decide +kernel
theorem dL_law_1265 : decode cL_law 1265 = .ok (.iconst 1, 1) := by decide +kernel
theorem dL_law_1266 : decode cL_law 1266 = .ok (.iadd, 1) := by decide +kernel
theorem dL_law_1267 : decode cL_law 1267 = .ok (.iaload, 1) := by decide +kernel
theorem dL_law_1268 : decode cL_law 1268 = .ok (.aload_n 0, 1) := by decide +kernel
theorem dL_law_1269 : decode cL_law 1269 = .ok (.iload_n 3, 1) := by decide +kernel
theorem dL_law_1270 : decode cL_law 1270 = .ok (.iconst 2, 1) := by decide +kernel
theorem dL_law_1271 : decode cL_law 1271 = .ok (.iadd, 1) := by decide +kernel
theorem dL_law_1272 : decode cL_law 1272 = .ok (.iaload, 1) := by decide +kernel
theorem dL_law_1273 : decode cL_law 1273 = .ok (.invokevirtual 142, 3) := by decide +kernel
theorem dL_law_1276 : decode cL_law 1276 = .ok (.aload_n 2, 1) := by decide +kernel
theorem dL_law_1277 : decode cL_law 1277 = .ok (.aload_n 0, 1) := by decide +kernel
theorem dL_law_1278 : decode cL_law 1278 = .ok (.iload_n 3, 1) := by decide +kernel
theorem dL_law_1279 : decode cL_law 1279 = .ok (.iconst 1, 1) := by decide +kernel
theorem dL_law_1280 : decode cL_law 1280 = .ok (.iadd, 1) := by decide +kernel
theorem dL_law_1281 : decode cL_law 1281 = .ok (.iaload, 1) := by decide +kernel
theorem dL_law_1282 : decode cL_law 1282 = .ok (.aload_n 0, 1) := by decide +kernel
theorem dL_law_1283 : decode cL_law 1283 = .ok (.iload_n 3, 1) := by decide +kernel
theorem dL_law_1284 : decode cL_law 1284 = .ok (.iconst 2, 1) := by decide +kernel
theorem dL_law_1285 : decode cL_law 1285 = .ok (.iadd, 1) := by decide +kernel
theorem dL_law_1286 : decode cL_law 1286 = .ok (.iaload, 1) := by decide +kernel
theorem dL_law_1287 : decode cL_law 1287 = .ok (.invokevirtual 145, 3) := by decide +kernel
theorem dL_law_1290 : decode cL_law 1290 = .ok (.if_icmp .eq 5, 3) := by decide +kernel
theorem dL_law_1293 : decode cL_law 1293 = .ok (.iconst 0, 1) := by decide +kernel
theorem dL_law_1294 : decode cL_law 1294 = .ok (.ireturn, 1) := by decide +kernel
theorem dL_law_1295 : decode cL_law 1295 = .ok (.iinc 3 6, 3) := by decide +kernel
theorem dL_law_1298 : decode cL_law 1298 = .ok (.goto (-1280), 3) := by decide +kernel
theorem dL_law_1301 : decode cL_law 1301 = .ok (.iconst 1, 1) := by decide +kernel
theorem dL_law_1302 : decode cL_law 1302 = .ok (.ireturn, 1) := by decide +kernel
end
section
/-! MY OWN ABSTRACT MACHINE. A heap is a list of kinds, and what the cells hold by address and place: ints, longs, references. Abstract addresses 0 .. 7 are cells of others (0 the script, 1 .. 6 strings and their bytes); from 8 on they are the law's own cells, in the order in which they were made. -/
abbrev am_M : Type := (Nat × List (Option Nat)) ⊕ (Nat × Nat)
abbrev am_S : Type := List am_M × (Nat → Nat → Int32) × (Nat → Nat → Int64) × (Nat → Nat → Option Nat)
def fF (σ : am_S) (a k : Nat) : Int32 := σ.2.1 a k
def fG (σ : am_S) (a k : Nat) : Int64 := σ.2.2.1 a k
def fQ (σ : am_S) (a k : Nat) : Option Nat := σ.2.2.2 a k
def am_up {α : Type} (f : Nat → Nat → α) (a k : Nat) (v : α) : Nat → Nat → α := fun b => if b = a then (fun j => if j = k then v else f a j) else f b
def sF (σ : am_S) (a k : Nat) (v : Int32) : am_S := (σ.1, am_up σ.2.1 a k v, σ.2.2)
def sG (σ : am_S) (a k : Nat) (v : Int64) : am_S := (σ.1, σ.2.1, am_up σ.2.2.1 a k v, σ.2.2.2)
def sQ (σ : am_S) (a k : Nat) (v : Option Nat) : am_S := (σ.1, σ.2.1, σ.2.2.1, am_up σ.2.2.2 a k v)
/-- base, addresses of others' cells, classes and slots, array classes, the heap at the start, the script -/
abbrev am_E : Type := Nat × (Nat → Nat) × va_G × (Nat → ClassId) × Heap × Nat × (Nat → Int32)
def eB (E : am_E) : Nat := E.1
def eX (E : am_E) : Nat → Nat := E.2.1
def eD (E : am_E) : va_G := E.2.2.1
def eA (E : am_E) : Nat → ClassId := E.2.2.2.1
def eH (E : am_E) : Heap := E.2.2.2.2.1
def eL (E : am_E) : Nat := E.2.2.2.2.2.1
def eS (E : am_E) : Nat → Int32 := E.2.2.2.2.2.2
def am_ad (E : am_E) (k : Nat) : Nat := if k < 8 then eX E k else eB E + (k - 8)
def am_tv (E : am_E) (v : Value) : Value := match v with
  | .ref k => .ref (am_ad E k)
  | w => w
def am_tq (E : am_E) (q : Nat × Value) : Nat × Value := (q.1, am_tv E q.2)
theorem am_tv_int (E : am_E) (x : Int32) : am_tv E (.int x) = .int x := rfl
theorem am_tv_long (E : am_E) (x : Int64) : am_tv E (.long x) = .long x := rfl
theorem am_tv_ref (E : am_E) (k : Nat) : am_tv E (.ref k) = .ref (am_ad E k) := rfl
theorem am_tv_null (E : am_E) : am_tv E .null = .null := rfl
theorem am_tv_rf (E : am_E) (o : Option Nat) : am_tv E (va_rf o) = va_rf (o.map (am_ad E)) := by cases o <;> rfl
theorem am_tv_cat (E : am_E) (v : Value) : (am_tv E v).category = v.category := by cases v <;> rfl
-- the classes whose objects there are, their fields' types
def am_cls : List vw_C := [(RX0, TX0, 6), (RX1, TX1, 6), (RX2, TX2, 9), (RX3, TX3, 9), (RX4, TX4, 4), (RX5, TX5, 9), (RX6, TX6, 9), (RX7, TX7, 9), (RX8, TX8, 3), (RX9, TX9, 9), (RX10, TX10, 13), (RX11, TX11, 18), (RX12, TX12, 58)]
def am_ty (ci k : Nat) : FieldType := match ci with
  | 0 => tyX0 k | 1 => tyX1 k | 2 => tyX2 k | 3 => tyX3 k | 4 => tyX4 k | 5 => tyX5 k | 6 => tyX6 k | 7 => tyX7 k | 8 => tyX8 k | 9 => tyX9 k | 10 => tyX10 k | 11 => tyX11 k | _ => tyX12 k
def am_kd (ty : FieldType) : Nat := match ty with
  | .long => 1
  | .object _ => 2
  | .array _ => 2
  | _ => 0
def am_V (E : am_E) (σ : am_S) (a ci : Nat) (refs : List (Option Nat)) (j : Nat) : Value :=
  if am_kd (am_ty ci j) = 0 then .int (fF σ a j) else if am_kd (am_ty ci j) = 1 then .long (fG σ a j) else va_rf ((refs.getD j none).map (am_ad E))
def am_aty (t : Nat) : FieldType := match t with
  | 0 => .int | 1 => .long | 2 => .byte | 3 => .boolean | 4 => .object RX1 | 5 => .object RX7 | _ => .object RX8
def am_arr (E : am_E) (σ : am_S) (a t : Nat) : (Nat → Int32) ⊕ (Nat → Int64) ⊕ (Nat → UInt32) ⊕ (Nat → UInt64) ⊕ (Nat → Option Nat) :=
  if t = 1 then .inr (.inl (fG σ a)) else if 4 ≤ t then .inr (.inr (.inr (.inr (fun j => (fQ σ a j).map (am_ad E))))) else .inl (fF σ a)
def am_at (E : am_E) (σ : am_S) (k : Nat) (m : am_M) (H : Heap) : Prop := match m with
  | .inl (ci, refs) => ∃ r : vw_C, am_cls[ci]? = some r ∧ t_OB (am_ad E k) ((eD E).1 ci) r.2.2 ((eD E).2 ci) H (am_V E σ k ci refs)
  | .inr (t, n) => H[am_ad E k]? = some (vp_cell (eA E t) (n, am_arr E σ k t))
def am_tys (E : am_E) : List (ClassId × FieldType) := (List.range 7).map fun t => (eA E t, am_aty t)
/-- the cells' kinds: what a kind says stays said -/
def am_le (m m' : am_M) : Prop := match m, m' with
  | .inl q, .inl q' => q.1 = q'.1 ∧ ∀ j x, q.2.getD j none = some x → q'.2.getD j none = some x
  | .inr q, .inr q' => q = q'
  | _, _ => False
theorem am_le.rf (m : am_M) : am_le m m := by
  cases m with
  | inl q => exact ⟨rfl, fun _ _ h => h⟩
  | inr q => exact rfl
theorem am_le.tr {a b c : am_M} (h : am_le a b) (h' : am_le b c) : am_le a c := by
  cases a <;> cases b <;> cases c <;> first | exact h.elim | exact h'.elim | skip
  · exact ⟨h.1.trans h'.1, fun j x e => h'.2 j x (h.2 j x e)⟩
  · exact h.trans h'
def am_kp (L L' : List am_M) : Prop := ∀ (k : Nat) (m : am_M), L[k]? = some m → ∃ m', L'[k]? = some m' ∧ am_le m m'
theorem am_kp.rf (L : List am_M) : am_kp L L := fun _ m h => ⟨m, h, am_le.rf m⟩
theorem am_kp.tr {A B C : List am_M} (h : am_kp A B) (h' : am_kp B C) : am_kp A C := fun k m e => by
  obtain ⟨m1, e1, l1⟩ := h k m e
  obtain ⟨m2, e2, l2⟩ := h' k m1 e1
  exact ⟨m2, e2, l1.tr l2⟩
theorem am_kp.push (L : List am_M) (m : am_M) : am_kp L (L ++ [m]) := fun k x h => ⟨x, by rw [List.getElem?_append_left (List.getElem?_eq_some_iff.mp h).1]; exact h, am_le.rf x⟩
def am_W (E : am_E) (σ : am_S) (H : Heap) : Prop :=
  8 ≤ σ.1.length ∧ H.size = eB E + (σ.1.length - 8) ∧ (∀ (k : Nat) (m : am_M), 8 ≤ k → σ.1[k]? = some m → am_at E σ k m H) ∧ (∀ q : Nat, q < eB E → H[q]? = (eH E)[q]?) ∧ ∀ (k : Nat) (m : am_M), k < 8 → σ.1[k]? = some m → m = .inr (9, 0)
/-- the tables' words that a callee may ask -/
def am_gt : List Cond := lw_tbl.filter goodWord
theorem am_gt_in {w : Cond} (h : w ∈ lw_tbl) (hg : goodWord w = true) : w ∈ am_gt := List.mem_filter.mpr ⟨h, hg⟩
theorem am_gt_good : ∀ ws : List Cond, (∀ w ∈ ws, w ∈ am_gt) → ∀ big : List Cond, (∀ w ∈ am_gt, w ∈ big) → GoodIn big ws := fun _ h _ hb w hw => ⟨hb w (h w hw), good_of_word (List.mem_filter.mp (h w hw)).2⟩
/-- a method: its name, bytes, locals, what it returns -/
abbrev am_Y : Type := MethodName × ByteArray × Nat × Option FieldType
abbrev am_code (Y : am_Y) : Cond := .code Y.1 Y.2.1 Y.2.2.1 Y.2.2.2
def am_ws (Y : am_Y) : List Cond := am_code Y :: am_gt
/-- castable, as the tables have it -/
def am_Yc (C T : String) (U : State) : Prop := ∃ c t : ClassId, U.vm.findClass C = some c ∧ U.vm.findClass T = some t ∧ U.vm.assignable c t = true
theorem am_Yc.moved {C T : String} {u U : State} (hvm : u.vm.Alike U.vm) (h : am_Yc C T u) : am_Yc C T U := by
  obtain ⟨c, t, h1, h2, h3⟩ := h
  exact ⟨c, t, by rw [hvm.findClass]; exact h1, by rw [hvm.findClass]; exact h2, by rw [hvm.assignable]; exact h3⟩
-- kinds under one another: what instanceof answers
def am_yes : List (String × String) := [(RX3, RX3), (RX5, RX3), (RX6, RX6), (RX2, RX6), (RX5, RX5), (RX9, RX9), (RX2, RX2), (RX2, RX7), (RX3, RX7), (RX5, RX7), (RX6, RX7), (RX7, RX7), (RX9, RX7)]
def am_not : List (String × String) := [(RX2, RX3), (RX6, RX3), (RX7, RX3), (RX9, RX3), (RX3, RX6), (RX5, RX6), (RX7, RX6), (RX9, RX6), (RX2, RX5), (RX3, RX5), (RX6, RX5), (RX7, RX5), (RX9, RX5), (RX2, RX9), (RX3, RX9), (RX5, RX9), (RX6, RX9), (RX7, RX9), (RX3, RX2), (RX5, RX2), (RX6, RX2), (RX7, RX2), (RX9, RX2)]
/-- facts of the tables that no word list carries -/
def am_X (E : am_E) (U : State) : Prop :=
  (∀ q ∈ am_yes, am_Yc q.1 q.2 U) ∧ (∀ q ∈ am_not, va_Nc q.1 q.2 U) ∧ (∀ t : Nat, 4 ≤ t → t < 7 → ∃ C, am_aty t = .object C ∧ va_AO C U)
def am_K (E : am_E) (U : State) : Prop := va_K (eD E) am_cls (am_tys E) U ∧ am_X E U
theorem am_K.moved {E : am_E} {u U : State} (hvm : u.vm.Alike U.vm) (h : am_K E u) : am_K E U :=
  ⟨h.1.moved hvm, fun q hq => (h.2.1 q hq).moved hvm, fun q hq => (h.2.2.1 q hq).moved hvm, fun t h4 h7 => by obtain ⟨C, e, hC⟩ := h.2.2.2 t h4 h7; exact ⟨C, e, hC.moved hvm⟩⟩
def am_A (E : am_E) : Nat → Prop := fun q => eB E ≤ q
/-- where a method stands: the machine, its code, the words -/
def am_C (E : am_E) (Y : am_Y) (p : Program) (s : State) (m : MethodId) (args : Array Value) (meth : Method) (c : Code) : Prop :=
  p.tables.exec = Jvm.exec ∧ c.code = Y.2.1 ∧ meth.sig.returnType = Y.2.2.2 ∧ c.maxLocals = Y.2.2.1 ∧ s.vm.findClass Y.1.cls = some m.cls ∧ (∀ w ∈ am_gt, w.before args s = true) ∧ meth.locks = false ∧ meth.name = Y.1.name ∧ am_K E s
def am_rm (d mc sl : Nat) : Room := { frames := d, cells := mc, slots := sl, locals := 64 * d }
def am_Q (E : am_E) (σ0 : am_S) (r : Option Value) (σ : am_S) : Array Value → State → Outcome → State → Prop := fun _ st o t => o = .returned (r.map (am_tv E)) ∧ am_W E σ t.heap ∧ va_F (am_A E) st t ∧ am_kp σ0.1 σ.1
def am_P (E : am_E) (ms : List am_M) (vs : List Value) (σ : am_S) : Array Value → State → Prop := fun a U => a = (vs.map (am_tv E)).toArray ∧ am_K E U ∧ am_W E σ U.heap ∧ am_kp ms σ.1
/-- THE JUDGEMENT: from here on the method does what the code says, if that comes to something; σ0 is where the method began, ms what is known of the cells' kinds -/
def Z {U : Type} (l : Launch) (E : am_E) (ms : List am_M) (σ0 : am_S) (Y : am_Y) (d mc sl pc : Nat) (lv : List (Nat × Value)) (st : List Value) (cu su : Nat) (σ : am_S) (code : Option U) (G : U → Option Value → am_S → Prop) : Prop :=
  ∀ (u : U) (r : Option Value) (σ' : am_S), code = some u → G u r σ' → ∀ (p : Program) (e : Env) (s : State) (m : MethodId) (args : Array Value) (below : List Frame) (meth : Method) (c : Code) (H : Heap) (locs : List Loc) (ls : Array Slot),
    am_C E Y p s m args meth c → (am_W E σ H ∧ va_S (am_A E) s.heap H locs ∧ am_kp ms σ.1 ∧ am_kp σ0.1 σ.1) → lv_has ls Y.2.2.1 (lv.map (am_tq E)) →
    W p l e (am_rm d mc sl) s m args below meth c H locs cu su (MQ below (am_Q E σ0 r σ') args s mc sl (am_A E)) (F0 m pc ls (st.map (am_tv E)))
/-- a method's contract -/
def Ctr (l : Launch) (E : am_E) (ms : List am_M) (Y : am_Y) (k mc sl : Nat) (vs : List Value) (σ : am_S) (r : Option Value) (σ' : am_S) : Prop :=
  ∀ d, k ≤ d → Met l Y.1 (am_ws Y) (am_rm d mc sl) (am_P E ms vs σ) (am_Q E σ r σ') mc sl (am_A E)
theorem am_args_tq (E : am_E) : ∀ (vs : List Value) (i : Nat), lv_args i (vs.map (am_tv E)) = (lv_args i vs).map (am_tq E)
  | [], _ => rfl
  | v :: vs, i => by
    show (i, am_tv E v) :: lv_args _ _ = (i, am_tv E v) :: _
    rw [am_tv_cat, am_args_tq E vs]
theorem am_sl_tv (E : am_E) (vs : List Value) : (lg_sl (vs.map (am_tv E))).length = (lg_sl vs).length := by
  induction vs with
  | nil => rfl
  | cons v vs ih =>
    have e1 : lg_sl ((v :: vs).map (am_tv E)) = (if (am_tv E v).category = 2 then [Slot.val (am_tv E v), .second] else [.val (am_tv E v)]) ++ lg_sl (vs.map (am_tv E)) := rfl
    have e2 : lg_sl (v :: vs) = (if v.category = 2 then [Slot.val v, .second] else [.val v]) ++ lg_sl vs := rfl
    rw [e1, e2, List.length_append, List.length_append, ih, am_tv_cat]
    by_cases h : v.category = 2
    · rw [if_pos h, if_pos h]; rfl
    · rw [if_neg h, if_neg h]; rfl
theorem ctr_of {U : Type} {l : Launch} {E : am_E} {ms : List am_M} {Y : am_Y} {k mc sl : Nat} {vs : List Value} {σ : am_S} {r : Option Value} {σ' : am_S} {code : Option U} {G : U → Option Value → am_S → Prop} {u : U}
    (hpl : plainName Y.1.cls = true) (hlen : (lg_sl vs).length ≤ Y.2.2.1) (hcode : code = some u) (hG : G u r σ') (h : ∀ d, k ≤ d → Z l E ms σ Y d mc sl 0 (lv_args 0 vs) [] 0 0 σ code G) : Ctr l E ms Y k mc sl vs σ r σ' := by
  intro d hd
  refine Met.ofW (cc := Y.2.1) (maxL := Y.2.2.1) (ret := Y.2.2.2) hpl rfl ?_
  intro p e s m args below meth c s₁ B hml hv
  obtain ⟨rfl, hK, hW, hkp⟩ := hv
  have hts := atoms_spec (ws := am_ws Y) B.pre
  have hl := lv_entry (vs.map (am_tv E)) (n := Y.2.2.1) (by rw [am_sl_tv]; exact hlen)
  rw [lg_entry_eq]
  rw [am_args_tq] at hl
  exact h d hd u r σ' hcode hG p e s m _ below meth c s.heap [] _ ⟨B.exec, B.bytes, B.returns, hml, findClass_of_methodNamed B.named, fun w hw => hts w (List.mem_cons_of_mem _ hw), B.notSynchronized, (name_of_methodNamed B.named B.method).1, hK⟩ ⟨hW, va_S.rf, hkp, am_kp.rf _⟩ hl
end
section
/-! RULES OF Z: an instruction a rule -/
def bI (b : Bool) : Int32 := match b with
  | true => 1
  | false => 0
theorem bI_01 (b : Bool) : narrow .boolean (.int (bI b)) = .int (bI b) := by cases b <;> decide +kernel
def am_in (i : Int32) (n : Nat) : Bool := decide (0 ≤ i) && decide (i.toNatClampNeg < n)
theorem am_in_vp {i : Int32} {n : Nat} (h : am_in i n = true) : vp_in i n := by
  simp only [am_in, Bool.and_eq_true, decide_eq_true_eq] at h
  rintro (h1 | h1)
  · exact absurd h1 (Int32.not_lt.mpr h.1)
  · omega
def am_st (i : Nat) (v : Value) (lv : List (Nat × Value)) : List (Nat × Value) := (i, v) :: lv.filter (fun q => !(q.1 == i) && !(q.1 + 1 == i && q.2.category == 2))
def am_st2 (i : Nat) (v : Value) (lv : List (Nat × Value)) : List (Nat × Value) := (i, v) :: lv.filter (fun q => !(q.1 == i) && (!(q.1 == i + 1) && !(q.1 + 1 == i && q.2.category == 2)))
theorem am_st_tq (E : am_E) (i : Nat) (v : Value) (lv : List (Nat × Value)) : (i, am_tv E v) :: (lv.map (am_tq E)).filter (fun q => !(q.1 == i) && !(q.1 + 1 == i && q.2.category == 2)) = (am_st i v lv).map (am_tq E) := by
  unfold am_st
  rw [List.filter_map]
  have e : ((fun q : Nat × Value => !(q.1 == i) && !(q.1 + 1 == i && q.2.category == 2)) ∘ am_tq E) = (fun q => !(q.1 == i) && !(q.1 + 1 == i && q.2.category == 2)) := by
    funext q
    show (!(q.1 == i) && !(q.1 + 1 == i && (am_tv E q.2).category == 2)) = _
    rw [am_tv_cat]
  rw [e]; rfl
theorem am_st2_tq (E : am_E) (i : Nat) (v : Value) (lv : List (Nat × Value)) : (i, am_tv E v) :: (lv.map (am_tq E)).filter (fun q => !(q.1 == i) && (!(q.1 == i + 1) && !(q.1 + 1 == i && q.2.category == 2))) = (am_st2 i v lv).map (am_tq E) := by
  unfold am_st2
  rw [List.filter_map]
  have e : ((fun q : Nat × Value => !(q.1 == i) && (!(q.1 == i + 1) && !(q.1 + 1 == i && q.2.category == 2))) ∘ am_tq E) = (fun q => !(q.1 == i) && (!(q.1 == i + 1) && !(q.1 + 1 == i && q.2.category == 2))) := by
    funext q
    show (!(q.1 == i) && (!(q.1 == i + 1) && !(q.1 + 1 == i && (am_tv E q.2).category == 2))) = _
    rw [am_tv_cat]
  rw [e]; rfl
theorem am_tq_at {E : am_E} {lv : List (Nat × Value)} {n i : Nat} {v : Value} (h : lv[n]? = some (i, v)) : (lv.map (am_tq E))[n]? = some (i, am_tv E v) := by
  rw [List.getElem?_map, h]; rfl
section ZR
variable {U : Type} {l : Launch} {E : am_E} {ms : List am_M} {σ0 : am_S} {Y : am_Y} {d mc sl pc cu su : Nat} {lv : List (Nat × Value)} {st : List Value} {σ : am_S} {code A B : Option U} {G : U → Option Value → am_S → Prop}
theorem z_none {lv : List (Nat × Value)} {st : List Value} : Z l E ms σ0 Y d mc sl pc lv st cu su σ (none : Option U) G := fun u r σ' h => by cases h
theorem z_ms {ms' : List am_M} (h : am_kp ms' σ.1) (k : Z l E ms' σ0 Y d mc sl pc lv st cu su σ code G) : Z l E ms σ0 Y d mc sl pc lv st cu su σ code G :=
  fun u r σ' h1 h2 p e s m args below meth c H locs ls C HW hl => k u r σ' h1 h2 p e s m args below meth c H locs ls C ⟨HW.1, HW.2.1, h, HW.2.2.2⟩ hl
theorem z_ite {c : Prop} [inst : Decidable c] (ka : c → Z l E ms σ0 Y d mc sl pc lv st cu su σ A G) (kb : ¬ c → Z l E ms σ0 Y d mc sl pc lv st cu su σ B G) : Z l E ms σ0 Y d mc sl pc lv st cu su σ (if c then A else B) G := by
  by_cases h : c
  · rw [if_pos h]; exact ka h
  · rw [if_neg h]; exact kb h
theorem z_guard {c : Prop} [inst : Decidable c] (ka : c → Z l E ms σ0 Y d mc sl pc lv st cu su σ A G) : Z l E ms σ0 Y d mc sl pc lv st cu su σ (if c then A else none) G := z_ite ka fun _ => z_none
theorem z_elim {o : Option Nat} {F : Nat → Option U} (ka : o = none → Z l E ms σ0 Y d mc sl pc lv (.null :: st) cu su σ A G) (kb : ∀ a : Nat, o = some a → Z l E ms σ0 Y d mc sl pc lv (.ref a :: st) cu su σ (F a) G) : Z l E ms σ0 Y d mc sl pc lv (va_rf o :: st) cu su σ (o.elim A F) G := by
  cases o with
  | none => exact ka rfl
  | some a => exact kb a rfl
/-- fewer locals, in any order -/
theorem z_lv {lv' : List (Nat × Value)} (ks : List Nat) (h : lv_pick lv ks = lv') (k : Z l E ms σ0 Y d mc sl pc lv' st cu su σ code G) : Z l E ms σ0 Y d mc sl pc lv st cu su σ code G :=
  fun u r σ' h1 h2 p e s m args below meth c H locs ls C HW hl => k u r σ' h1 h2 p e s m args below meth c H locs ls C HW (lv_sub hl ks (by
    rw [← h]
    show (ks.filterMap fun k => (lv.map (am_tq E))[k]?) = (ks.filterMap fun k => lv[k]?).map (am_tq E)
    rw [List.map_filterMap]
    congr 1
    funext k
    rw [List.getElem?_map]))
theorem z_iconst {n : Int} {v : Int32} (hd : decode Y.2.1 pc = .ok (.iconst n, 1)) (hv : Int32.ofInt n = v) (k : Z l E ms σ0 Y d mc sl (pc + 1) lv (.int v :: st) cu su σ code G) : Z l E ms σ0 Y d mc sl pc lv (st) cu su σ code G :=
  fun u r σ' h1 h2 p e s m args below meth c H locs ls C HW hl => lv_iconst C.1 C.2.1 hd hv (k u r σ' h1 h2 p e s m args below meth c H locs ls C HW hl)
theorem z_bipush {n : Int} {v : Int32} (hd : decode Y.2.1 pc = .ok (.bipush n, 2)) (hv : (Int8.ofInt n).toInt32 = v) (k : Z l E ms σ0 Y d mc sl (pc + 2) lv (.int v :: st) cu su σ code G) : Z l E ms σ0 Y d mc sl pc lv (st) cu su σ code G :=
  fun u r σ' h1 h2 p e s m args below meth c H locs ls C HW hl => lv_bipush C.1 C.2.1 hd hv (k u r σ' h1 h2 p e s m args below meth c H locs ls C HW hl)
theorem z_sipush {n : Int} {v : Int32} (hd : decode Y.2.1 pc = .ok (.sipush n, 3)) (hv : (Int16.ofInt n).toInt32 = v) (k : Z l E ms σ0 Y d mc sl (pc + 3) lv (.int v :: st) cu su σ code G) : Z l E ms σ0 Y d mc sl pc lv (st) cu su σ code G :=
  fun u r σ' h1 h2 p e s m args below meth c H locs ls C HW hl => lv_sipush C.1 C.2.1 hd hv (k u r σ' h1 h2 p e s m args below meth c H locs ls C HW hl)
theorem z_lconst {n : Fin 2} {v : Int64} (hd : decode Y.2.1 pc = .ok (.lconst n, 1)) (hv : Int64.ofNat (n : Nat) = v) (k : Z l E ms σ0 Y d mc sl (pc + 1) lv (.long v :: st) cu su σ code G) : Z l E ms σ0 Y d mc sl pc lv (st) cu su σ code G :=
  fun u r σ' h1 h2 p e s m args below meth c H locs ls C HW hl => lv_lconst C.1 C.2.1 hd hv (k u r σ' h1 h2 p e s m args below meth c H locs ls C HW hl)
theorem z_null  (hd : decode Y.2.1 pc = .ok (.aconst_null, 1)) (k : Z l E ms σ0 Y d mc sl (pc + 1) lv (.null :: st) cu su σ code G) : Z l E ms σ0 Y d mc sl pc lv (st) cu su σ code G :=
  fun u r σ' h1 h2 p e s m args below meth c H locs ls C HW hl => lv_null C.1 C.2.1 hd  (k u r σ' h1 h2 p e s m args below meth c H locs ls C HW hl)
theorem z_ldc {index : Nat} {v : Int32} (hd : decode Y.2.1 pc = .ok (.ldc index, 2)) (hw : Jvm.Cond.constant Y.1.cls index v ∈ am_gt) (k : Z l E ms σ0 Y d mc sl (pc + 2) lv (.int v :: st) cu su σ code G) : Z l E ms σ0 Y d mc sl pc lv st cu su σ code G :=
  fun u r σ' h1 h2 p e s m args below meth c H locs ls C HW hl => lv_ldc C.1 C.2.1 C.2.2.2.2.1 (C.2.2.2.2.2.1 _ hw) hd (k u r σ' h1 h2 p e s m args below meth c H locs ls C HW hl)
theorem z_ldcw {index : Nat} {v : Int32} (hd : decode Y.2.1 pc = .ok (.ldc_w index, 3)) (hw : Jvm.Cond.constant Y.1.cls index v ∈ am_gt) (k : Z l E ms σ0 Y d mc sl (pc + 3) lv (.int v :: st) cu su σ code G) : Z l E ms σ0 Y d mc sl pc lv st cu su σ code G :=
  fun u r σ' h1 h2 p e s m args below meth c H locs ls C HW hl => lv_ldcw C.1 C.2.1 C.2.2.2.2.1 (C.2.2.2.2.2.1 _ hw) hd (k u r σ' h1 h2 p e s m args below meth c H locs ls C HW hl)
theorem z_ldc2 {index : Nat} {v : Int64} (hd : decode Y.2.1 pc = .ok (.ldc2_w index, 3)) (hw : Jvm.Cond.constantLong Y.1.cls index v ∈ am_gt) (k : Z l E ms σ0 Y d mc sl (pc + 3) lv (.long v :: st) cu su σ code G) : Z l E ms σ0 Y d mc sl pc lv st cu su σ code G :=
  fun u r σ' h1 h2 p e s m args below meth c H locs ls C HW hl => lv_ldc2 C.1 C.2.1 C.2.2.2.2.1 (C.2.2.2.2.2.1 _ hw) hd (k u r σ' h1 h2 p e s m args below meth c H locs ls C HW hl)
theorem z_iload_n {k' : Fin 4} {i : Nat} {x : Int32} (n : Nat) (hd : decode Y.2.1 pc = .ok (.iload_n k', 1)) (hi : (k' : Nat) = i) (hk : lv[n]? = some (i, .int x)) (k : Z l E ms σ0 Y d mc sl (pc + 1) lv (.int x :: st) cu su σ code G) : Z l E ms σ0 Y d mc sl pc lv st cu su σ code G :=
  fun u r σ' h1 h2 p e s m args below meth c H locs ls C HW hl => lv_iload_n C.1 C.2.1 hd hi (lv_at hl n (am_tq_at hk)) (k u r σ' h1 h2 p e s m args below meth c H locs ls C HW hl)
theorem z_iload {i : Nat} {x : Int32} (n : Nat) (hd : decode Y.2.1 pc = .ok (.iload i, 2)) (hk : lv[n]? = some (i, .int x)) (k : Z l E ms σ0 Y d mc sl (pc + 2) lv (.int x :: st) cu su σ code G) : Z l E ms σ0 Y d mc sl pc lv st cu su σ code G :=
  fun u r σ' h1 h2 p e s m args below meth c H locs ls C HW hl => lv_iload C.1 C.2.1 hd (lv_at hl n (am_tq_at hk)) (k u r σ' h1 h2 p e s m args below meth c H locs ls C HW hl)
theorem z_lload_n {k' : Fin 4} {i : Nat} {x : Int64} (n : Nat) (hd : decode Y.2.1 pc = .ok (.lload_n k', 1)) (hi : (k' : Nat) = i) (hk : lv[n]? = some (i, .long x)) (k : Z l E ms σ0 Y d mc sl (pc + 1) lv (.long x :: st) cu su σ code G) : Z l E ms σ0 Y d mc sl pc lv st cu su σ code G :=
  fun u r σ' h1 h2 p e s m args below meth c H locs ls C HW hl => lv_lload_n C.1 C.2.1 hd hi (lv_at hl n (am_tq_at hk)) (k u r σ' h1 h2 p e s m args below meth c H locs ls C HW hl)
theorem z_lload {i : Nat} {x : Int64} (n : Nat) (hd : decode Y.2.1 pc = .ok (.lload i, 2)) (hk : lv[n]? = some (i, .long x)) (k : Z l E ms σ0 Y d mc sl (pc + 2) lv (.long x :: st) cu su σ code G) : Z l E ms σ0 Y d mc sl pc lv st cu su σ code G :=
  fun u r σ' h1 h2 p e s m args below meth c H locs ls C HW hl => lv_lload C.1 C.2.1 hd (lv_at hl n (am_tq_at hk)) (k u r σ' h1 h2 p e s m args below meth c H locs ls C HW hl)
theorem z_aload_n {k' : Fin 4} {i : Nat} {x : Nat} (n : Nat) (hd : decode Y.2.1 pc = .ok (.aload_n k', 1)) (hi : (k' : Nat) = i) (hk : lv[n]? = some (i, .ref x)) (k : Z l E ms σ0 Y d mc sl (pc + 1) lv (.ref x :: st) cu su σ code G) : Z l E ms σ0 Y d mc sl pc lv st cu su σ code G :=
  fun u r σ' h1 h2 p e s m args below meth c H locs ls C HW hl => lv_aload_n C.1 C.2.1 hd hi (lv_at hl n (am_tq_at hk)) (k u r σ' h1 h2 p e s m args below meth c H locs ls C HW hl)
theorem z_aload {i : Nat} {x : Nat} (n : Nat) (hd : decode Y.2.1 pc = .ok (.aload i, 2)) (hk : lv[n]? = some (i, .ref x)) (k : Z l E ms σ0 Y d mc sl (pc + 2) lv (.ref x :: st) cu su σ code G) : Z l E ms σ0 Y d mc sl pc lv st cu su σ code G :=
  fun u r σ' h1 h2 p e s m args below meth c H locs ls C HW hl => lv_aload C.1 C.2.1 hd (lv_at hl n (am_tq_at hk)) (k u r σ' h1 h2 p e s m args below meth c H locs ls C HW hl)
theorem z_aload_nN {k' : Fin 4} {i : Nat} (n : Nat) (hd : decode Y.2.1 pc = .ok (.aload_n k', 1)) (hi : (k' : Nat) = i) (hk : lv[n]? = some (i, .null)) (k : Z l E ms σ0 Y d mc sl (pc + 1) lv (.null :: st) cu su σ code G) : Z l E ms σ0 Y d mc sl pc lv st cu su σ code G :=
  fun u r σ' h1 h2 p e s m args below meth c H locs ls C HW hl => lv_aload_nN C.1 C.2.1 hd hi (lv_at hl n (am_tq_at hk)) (k u r σ' h1 h2 p e s m args below meth c H locs ls C HW hl)
theorem z_aloadN {i : Nat} (n : Nat) (hd : decode Y.2.1 pc = .ok (.aload i, 2)) (hk : lv[n]? = some (i, .null)) (k : Z l E ms σ0 Y d mc sl (pc + 2) lv (.null :: st) cu su σ code G) : Z l E ms σ0 Y d mc sl pc lv st cu su σ code G :=
  fun u r σ' h1 h2 p e s m args below meth c H locs ls C HW hl => lv_aloadN C.1 C.2.1 hd (lv_at hl n (am_tq_at hk)) (k u r σ' h1 h2 p e s m args below meth c H locs ls C HW hl)
theorem z_istore_n {k' : Fin 4} {i : Nat} {x : Int32} {lv' : List (Nat × Value)} (hd : decode Y.2.1 pc = .ok (.istore_n k', 1)) (hi : (k' : Nat) = i) (hn : i < Y.2.2.1) (hv : am_st i (.int x) lv = lv') (k : Z l E ms σ0 Y d mc sl (pc + 1) lv' st cu su σ code G) : Z l E ms σ0 Y d mc sl pc lv (.int x :: st) cu su σ code G :=
  fun u r σ' h1 h2 p e s m args below meth c H locs ls C HW hl => lv_istore_n C.1 C.2.1 hd hi hl hn (am_st_tq E i (.int x) lv) (fun ls' hl' => hv ▸ (fun hl' => k u r σ' h1 h2 p e s m args below meth c H locs ls' C HW hl') <| hv ▸ hl')
theorem z_istore {i : Nat} {x : Int32} {lv' : List (Nat × Value)} (hd : decode Y.2.1 pc = .ok (.istore i, 2)) (hn : i < Y.2.2.1) (hv : am_st i (.int x) lv = lv') (k : Z l E ms σ0 Y d mc sl (pc + 2) lv' st cu su σ code G) : Z l E ms σ0 Y d mc sl pc lv (.int x :: st) cu su σ code G :=
  fun u r σ' h1 h2 p e s m args below meth c H locs ls C HW hl => lv_istore C.1 C.2.1 hd hl hn (am_st_tq E i (.int x) lv) (fun ls' hl' => hv ▸ (fun hl' => k u r σ' h1 h2 p e s m args below meth c H locs ls' C HW hl') <| hv ▸ hl')
theorem z_lstore_n {k' : Fin 4} {i : Nat} {x : Int64} {lv' : List (Nat × Value)} (hd : decode Y.2.1 pc = .ok (.lstore_n k', 1)) (hi : (k' : Nat) = i) (hn : i + 1 < Y.2.2.1) (hv : am_st2 i (.long x) lv = lv') (k : Z l E ms σ0 Y d mc sl (pc + 1) lv' st cu su σ code G) : Z l E ms σ0 Y d mc sl pc lv (.long x :: st) cu su σ code G :=
  fun u r σ' h1 h2 p e s m args below meth c H locs ls C HW hl => lv_lstore_n C.1 C.2.1 hd hi hl hn (am_st2_tq E i (.long x) lv) (fun ls' hl' => hv ▸ (fun hl' => k u r σ' h1 h2 p e s m args below meth c H locs ls' C HW hl') <| hv ▸ hl')
theorem z_lstore {i : Nat} {x : Int64} {lv' : List (Nat × Value)} (hd : decode Y.2.1 pc = .ok (.lstore i, 2)) (hn : i + 1 < Y.2.2.1) (hv : am_st2 i (.long x) lv = lv') (k : Z l E ms σ0 Y d mc sl (pc + 2) lv' st cu su σ code G) : Z l E ms σ0 Y d mc sl pc lv (.long x :: st) cu su σ code G :=
  fun u r σ' h1 h2 p e s m args below meth c H locs ls C HW hl => lv_lstore C.1 C.2.1 hd hl hn (am_st2_tq E i (.long x) lv) (fun ls' hl' => hv ▸ (fun hl' => k u r σ' h1 h2 p e s m args below meth c H locs ls' C HW hl') <| hv ▸ hl')
theorem z_astore_n {k' : Fin 4} {i : Nat} {x : Nat} {lv' : List (Nat × Value)} (hd : decode Y.2.1 pc = .ok (.astore_n k', 1)) (hi : (k' : Nat) = i) (hn : i < Y.2.2.1) (hv : am_st i (.ref x) lv = lv') (k : Z l E ms σ0 Y d mc sl (pc + 1) lv' st cu su σ code G) : Z l E ms σ0 Y d mc sl pc lv (.ref x :: st) cu su σ code G :=
  fun u r σ' h1 h2 p e s m args below meth c H locs ls C HW hl => lv_astore_n C.1 C.2.1 hd hi hl hn (am_st_tq E i (.ref x) lv) (fun ls' hl' => hv ▸ (fun hl' => k u r σ' h1 h2 p e s m args below meth c H locs ls' C HW hl') <| hv ▸ hl')
theorem z_astore {i : Nat} {x : Nat} {lv' : List (Nat × Value)} (hd : decode Y.2.1 pc = .ok (.astore i, 2)) (hn : i < Y.2.2.1) (hv : am_st i (.ref x) lv = lv') (k : Z l E ms σ0 Y d mc sl (pc + 2) lv' st cu su σ code G) : Z l E ms σ0 Y d mc sl pc lv (.ref x :: st) cu su σ code G :=
  fun u r σ' h1 h2 p e s m args below meth c H locs ls C HW hl => lv_astore C.1 C.2.1 hd hl hn (am_st_tq E i (.ref x) lv) (fun ls' hl' => hv ▸ (fun hl' => k u r σ' h1 h2 p e s m args below meth c H locs ls' C HW hl') <| hv ▸ hl')
theorem z_astore_nN {k' : Fin 4} {i : Nat} {lv' : List (Nat × Value)} (hd : decode Y.2.1 pc = .ok (.astore_n k', 1)) (hi : (k' : Nat) = i) (hn : i < Y.2.2.1) (hv : am_st i .null lv = lv') (k : Z l E ms σ0 Y d mc sl (pc + 1) lv' st cu su σ code G) : Z l E ms σ0 Y d mc sl pc lv (.null :: st) cu su σ code G :=
  fun u r σ' h1 h2 p e s m args below meth c H locs ls C HW hl => lv_astore_nN C.1 C.2.1 hd hi hl hn (am_st_tq E i .null lv) (fun ls' hl' => hv ▸ (fun hl' => k u r σ' h1 h2 p e s m args below meth c H locs ls' C HW hl') <| hv ▸ hl')
theorem z_astoreN {i : Nat} {lv' : List (Nat × Value)} (hd : decode Y.2.1 pc = .ok (.astore i, 2)) (hn : i < Y.2.2.1) (hv : am_st i .null lv = lv') (k : Z l E ms σ0 Y d mc sl (pc + 2) lv' st cu su σ code G) : Z l E ms σ0 Y d mc sl pc lv (.null :: st) cu su σ code G :=
  fun u r σ' h1 h2 p e s m args below meth c H locs ls C HW hl => lv_astoreN C.1 C.2.1 hd hl hn (am_st_tq E i .null lv) (fun ls' hl' => hv ▸ (fun hl' => k u r σ' h1 h2 p e s m args below meth c H locs ls' C HW hl') <| hv ▸ hl')
theorem z_iinc {i : Nat} {n : Int} {x v : Int32} {lv' : List (Nat × Value)} (q : Nat) (hd : decode Y.2.1 pc = .ok (.iinc i n, 3)) (hk : lv[q]? = some (i, .int x)) (hx : x + Int32.ofInt n = v) (hn : i < Y.2.2.1) (hv : am_st i (.int v) lv = lv') (k : Z l E ms σ0 Y d mc sl (pc + 3) lv' st cu su σ code G) : Z l E ms σ0 Y d mc sl pc lv st cu su σ code G :=
  fun u r σ' h1 h2 p e s m args below meth c H locs ls C HW hl => lv_iinc C.1 C.2.1 hd hl (am_tq_at (n := q) hk) hx hn (am_st_tq E i (.int v) lv) (fun ls' hl' => hv ▸ (fun hl' => k u r σ' h1 h2 p e s m args below meth c H locs ls' C HW hl') <| hv ▸ hl')
theorem z_iadd {x y : Int32} (hd : decode Y.2.1 pc = .ok (.iadd, 1)) (k : Z l E ms σ0 Y d mc sl (pc + 1) lv (.int (x + y) :: st) cu su σ code G) : Z l E ms σ0 Y d mc sl pc lv (.int y :: .int x :: st) cu su σ code G :=
  fun u r σ' h1 h2 p e s m args below meth c H locs ls C HW hl => lv_iadd C.1 C.2.1 hd  (k u r σ' h1 h2 p e s m args below meth c H locs ls C HW hl)
theorem z_isub {x y : Int32} (hd : decode Y.2.1 pc = .ok (.isub, 1)) (k : Z l E ms σ0 Y d mc sl (pc + 1) lv (.int (x - y) :: st) cu su σ code G) : Z l E ms σ0 Y d mc sl pc lv (.int y :: .int x :: st) cu su σ code G :=
  fun u r σ' h1 h2 p e s m args below meth c H locs ls C HW hl => lv_isub C.1 C.2.1 hd  (k u r σ' h1 h2 p e s m args below meth c H locs ls C HW hl)
theorem z_imul {x y : Int32} (hd : decode Y.2.1 pc = .ok (.imul, 1)) (k : Z l E ms σ0 Y d mc sl (pc + 1) lv (.int (x * y) :: st) cu su σ code G) : Z l E ms σ0 Y d mc sl pc lv (.int y :: .int x :: st) cu su σ code G :=
  fun u r σ' h1 h2 p e s m args below meth c H locs ls C HW hl => lv_imul C.1 C.2.1 hd  (k u r σ' h1 h2 p e s m args below meth c H locs ls C HW hl)
theorem z_iand {x y : Int32} (hd : decode Y.2.1 pc = .ok (.iand, 1)) (k : Z l E ms σ0 Y d mc sl (pc + 1) lv (.int (x &&& y) :: st) cu su σ code G) : Z l E ms σ0 Y d mc sl pc lv (.int y :: .int x :: st) cu su σ code G :=
  fun u r σ' h1 h2 p e s m args below meth c H locs ls C HW hl => lv_iand C.1 C.2.1 hd  (k u r σ' h1 h2 p e s m args below meth c H locs ls C HW hl)
theorem z_ior {x y : Int32} (hd : decode Y.2.1 pc = .ok (.ior, 1)) (k : Z l E ms σ0 Y d mc sl (pc + 1) lv (.int (x ||| y) :: st) cu su σ code G) : Z l E ms σ0 Y d mc sl pc lv (.int y :: .int x :: st) cu su σ code G :=
  fun u r σ' h1 h2 p e s m args below meth c H locs ls C HW hl => lv_ior C.1 C.2.1 hd  (k u r σ' h1 h2 p e s m args below meth c H locs ls C HW hl)
theorem z_ishl {x y : Int32} (hd : decode Y.2.1 pc = .ok (.ishl, 1)) (k : Z l E ms σ0 Y d mc sl (pc + 1) lv (.int (x <<< (y &&& 31)) :: st) cu su σ code G) : Z l E ms σ0 Y d mc sl pc lv (.int y :: .int x :: st) cu su σ code G :=
  fun u r σ' h1 h2 p e s m args below meth c H locs ls C HW hl => lv_ishl C.1 C.2.1 hd  (k u r σ' h1 h2 p e s m args below meth c H locs ls C HW hl)
theorem z_ishr {x y : Int32} (hd : decode Y.2.1 pc = .ok (.ishr, 1)) (k : Z l E ms σ0 Y d mc sl (pc + 1) lv (.int (x >>> (y &&& 31)) :: st) cu su σ code G) : Z l E ms σ0 Y d mc sl pc lv (.int y :: .int x :: st) cu su σ code G :=
  fun u r σ' h1 h2 p e s m args below meth c H locs ls C HW hl => lv_ishr C.1 C.2.1 hd  (k u r σ' h1 h2 p e s m args below meth c H locs ls C HW hl)
theorem z_idiv {x y : Int32} (hd : decode Y.2.1 pc = .ok (.idiv, 1)) (hne : ¬ y = 0) (k : Z l E ms σ0 Y d mc sl (pc + 1) lv (.int (x / y) :: st) cu su σ code G) : Z l E ms σ0 Y d mc sl pc lv (.int y :: .int x :: st) cu su σ code G :=
  fun u r σ' h1 h2 p e s m args below meth c H locs ls C HW hl => lv_idiv C.1 C.2.1 hd hne (k u r σ' h1 h2 p e s m args below meth c H locs ls C HW hl)
theorem z_irem {x y : Int32} (hd : decode Y.2.1 pc = .ok (.irem, 1)) (hne : ¬ y = 0) (k : Z l E ms σ0 Y d mc sl (pc + 1) lv (.int (x - x / y * y) :: st) cu su σ code G) : Z l E ms σ0 Y d mc sl pc lv (.int y :: .int x :: st) cu su σ code G :=
  fun u r σ' h1 h2 p e s m args below meth c H locs ls C HW hl => lv_irem C.1 C.2.1 hd hne (k u r σ' h1 h2 p e s m args below meth c H locs ls C HW hl)
theorem z_ineg {x : Int32} (hd : decode Y.2.1 pc = .ok (.ineg, 1)) (k : Z l E ms σ0 Y d mc sl (pc + 1) lv (.int (-x) :: st) cu su σ code G) : Z l E ms σ0 Y d mc sl pc lv (.int x :: st) cu su σ code G :=
  fun u r σ' h1 h2 p e s m args below meth c H locs ls C HW hl => lv_ineg C.1 C.2.1 hd  (k u r σ' h1 h2 p e s m args below meth c H locs ls C HW hl)
theorem z_ladd {x y : Int64} (hd : decode Y.2.1 pc = .ok (.ladd, 1)) (k : Z l E ms σ0 Y d mc sl (pc + 1) lv (.long (x + y) :: st) cu su σ code G) : Z l E ms σ0 Y d mc sl pc lv (.long y :: .long x :: st) cu su σ code G :=
  fun u r σ' h1 h2 p e s m args below meth c H locs ls C HW hl => lv_ladd C.1 C.2.1 hd  (k u r σ' h1 h2 p e s m args below meth c H locs ls C HW hl)
theorem z_lsub {x y : Int64} (hd : decode Y.2.1 pc = .ok (.lsub, 1)) (k : Z l E ms σ0 Y d mc sl (pc + 1) lv (.long (x - y) :: st) cu su σ code G) : Z l E ms σ0 Y d mc sl pc lv (.long y :: .long x :: st) cu su σ code G :=
  fun u r σ' h1 h2 p e s m args below meth c H locs ls C HW hl => lv_lsub C.1 C.2.1 hd  (k u r σ' h1 h2 p e s m args below meth c H locs ls C HW hl)
theorem z_lmul {x y : Int64} (hd : decode Y.2.1 pc = .ok (.lmul, 1)) (k : Z l E ms σ0 Y d mc sl (pc + 1) lv (.long (x * y) :: st) cu su σ code G) : Z l E ms σ0 Y d mc sl pc lv (.long y :: .long x :: st) cu su σ code G :=
  fun u r σ' h1 h2 p e s m args below meth c H locs ls C HW hl => lv_lmul C.1 C.2.1 hd  (k u r σ' h1 h2 p e s m args below meth c H locs ls C HW hl)
theorem z_land {x y : Int64} (hd : decode Y.2.1 pc = .ok (.land, 1)) (k : Z l E ms σ0 Y d mc sl (pc + 1) lv (.long (x &&& y) :: st) cu su σ code G) : Z l E ms σ0 Y d mc sl pc lv (.long y :: .long x :: st) cu su σ code G :=
  fun u r σ' h1 h2 p e s m args below meth c H locs ls C HW hl => lv_land C.1 C.2.1 hd  (k u r σ' h1 h2 p e s m args below meth c H locs ls C HW hl)
theorem z_lor {x y : Int64} (hd : decode Y.2.1 pc = .ok (.lor, 1)) (k : Z l E ms σ0 Y d mc sl (pc + 1) lv (.long (x ||| y) :: st) cu su σ code G) : Z l E ms σ0 Y d mc sl pc lv (.long y :: .long x :: st) cu su σ code G :=
  fun u r σ' h1 h2 p e s m args below meth c H locs ls C HW hl => lv_lor C.1 C.2.1 hd  (k u r σ' h1 h2 p e s m args below meth c H locs ls C HW hl)
theorem z_ldiv {x y : Int64} (hd : decode Y.2.1 pc = .ok (.ldiv, 1)) (hne : ¬ y = 0) (k : Z l E ms σ0 Y d mc sl (pc + 1) lv (.long (x / y) :: st) cu su σ code G) : Z l E ms σ0 Y d mc sl pc lv (.long y :: .long x :: st) cu su σ code G :=
  fun u r σ' h1 h2 p e s m args below meth c H locs ls C HW hl => lv_ldiv C.1 C.2.1 hd hne (k u r σ' h1 h2 p e s m args below meth c H locs ls C HW hl)
theorem z_lrem {x y : Int64} (hd : decode Y.2.1 pc = .ok (.lrem, 1)) (hne : ¬ y = 0) (k : Z l E ms σ0 Y d mc sl (pc + 1) lv (.long (x - x / y * y) :: st) cu su σ code G) : Z l E ms σ0 Y d mc sl pc lv (.long y :: .long x :: st) cu su σ code G :=
  fun u r σ' h1 h2 p e s m args below meth c H locs ls C HW hl => lv_lrem C.1 C.2.1 hd hne (k u r σ' h1 h2 p e s m args below meth c H locs ls C HW hl)
theorem z_lshl {x : Int64} {y : Int32} (hd : decode Y.2.1 pc = .ok (.lshl, 1)) (k : Z l E ms σ0 Y d mc sl (pc + 1) lv (.long (x <<< (y.toInt64 &&& 63)) :: st) cu su σ code G) : Z l E ms σ0 Y d mc sl pc lv (.int y :: .long x :: st) cu su σ code G :=
  fun u r σ' h1 h2 p e s m args below meth c H locs ls C HW hl => lv_lshl C.1 C.2.1 hd rfl (k u r σ' h1 h2 p e s m args below meth c H locs ls C HW hl)
theorem z_lshr {x : Int64} {y : Int32} (hd : decode Y.2.1 pc = .ok (.lshr, 1)) (k : Z l E ms σ0 Y d mc sl (pc + 1) lv (.long (x >>> (y.toInt64 &&& 63)) :: st) cu su σ code G) : Z l E ms σ0 Y d mc sl pc lv (.int y :: .long x :: st) cu su σ code G :=
  fun u r σ' h1 h2 p e s m args below meth c H locs ls C HW hl => lv_lshr C.1 C.2.1 hd rfl (k u r σ' h1 h2 p e s m args below meth c H locs ls C HW hl)
theorem z_i2l {x : Int32} (hd : decode Y.2.1 pc = .ok (.i2l, 1)) (k : Z l E ms σ0 Y d mc sl (pc + 1) lv (.long x.toInt64 :: st) cu su σ code G) : Z l E ms σ0 Y d mc sl pc lv (.int x :: st) cu su σ code G :=
  fun u r σ' h1 h2 p e s m args below meth c H locs ls C HW hl => lv_i2l C.1 C.2.1 hd rfl (k u r σ' h1 h2 p e s m args below meth c H locs ls C HW hl)
theorem z_l2i {x : Int64} (hd : decode Y.2.1 pc = .ok (.l2i, 1)) (k : Z l E ms σ0 Y d mc sl (pc + 1) lv (.int x.toInt32 :: st) cu su σ code G) : Z l E ms σ0 Y d mc sl pc lv (.long x :: st) cu su σ code G :=
  fun u r σ' h1 h2 p e s m args below meth c H locs ls C HW hl => lv_l2i C.1 C.2.1 hd rfl (k u r σ' h1 h2 p e s m args below meth c H locs ls C HW hl)
theorem z_i2b {x : Int32} (hd : decode Y.2.1 pc = .ok (.i2b, 1)) (k : Z l E ms σ0 Y d mc sl (pc + 1) lv (.int x.toInt8.toInt32 :: st) cu su σ code G) : Z l E ms σ0 Y d mc sl pc lv (.int x :: st) cu su σ code G :=
  fun u r σ' h1 h2 p e s m args below meth c H locs ls C HW hl => lv_i2b C.1 C.2.1 hd rfl (k u r σ' h1 h2 p e s m args below meth c H locs ls C HW hl)
theorem z_i2s {x : Int32} (hd : decode Y.2.1 pc = .ok (.i2s, 1)) (k : Z l E ms σ0 Y d mc sl (pc + 1) lv (.int x.toInt16.toInt32 :: st) cu su σ code G) : Z l E ms σ0 Y d mc sl pc lv (.int x :: st) cu su σ code G :=
  fun u r σ' h1 h2 p e s m args below meth c H locs ls C HW hl => lv_i2s C.1 C.2.1 hd rfl (k u r σ' h1 h2 p e s m args below meth c H locs ls C HW hl)
theorem z_i2c {x : Int32} (hd : decode Y.2.1 pc = .ok (.i2c, 1)) (k : Z l E ms σ0 Y d mc sl (pc + 1) lv (.int (x.toUInt32 % 65536).toInt32 :: st) cu su σ code G) : Z l E ms σ0 Y d mc sl pc lv (.int x :: st) cu su σ code G :=
  fun u r σ' h1 h2 p e s m args below meth c H locs ls C HW hl => lv_i2c C.1 C.2.1 hd rfl (k u r σ' h1 h2 p e s m args below meth c H locs ls C HW hl)
theorem z_dup {v : Value} (hd : decode Y.2.1 pc = .ok (.dup, 1)) (hc : v.category = 1) (k : Z l E ms σ0 Y d mc sl (pc + 1) lv (v :: v :: st) cu su σ code G) : Z l E ms σ0 Y d mc sl pc lv (v :: st) cu su σ code G :=
  fun u r σ' h1 h2 p e s m args below meth c H locs ls C HW hl => lv_dup C.1 C.2.1 hd ((am_tv_cat E v).trans hc) (k u r σ' h1 h2 p e s m args below meth c H locs ls C HW hl)
theorem z_pop {v : Value} (hd : decode Y.2.1 pc = .ok (.pop, 1)) (hc : v.category = 1) (k : Z l E ms σ0 Y d mc sl (pc + 1) lv (st) cu su σ code G) : Z l E ms σ0 Y d mc sl pc lv (v :: st) cu su σ code G :=
  fun u r σ' h1 h2 p e s m args below meth c H locs ls C HW hl => lv_pop C.1 C.2.1 hd ((am_tv_cat E v).trans hc) (k u r σ' h1 h2 p e s m args below meth c H locs ls C HW hl)
theorem z_dup2 {v w : Value} (hd : decode Y.2.1 pc = .ok (.dup2, 1)) (hc : v.category = 1) (hc2 : w.category = 1) (k : Z l E ms σ0 Y d mc sl (pc + 1) lv (v :: w :: v :: w :: st) cu su σ code G) : Z l E ms σ0 Y d mc sl pc lv (v :: w :: st) cu su σ code G :=
  fun u r σ' h1 h2 p e s m args below meth c H locs ls C HW hl => lv_dup2_11 C.1 C.2.1 hd ((am_tv_cat E v).trans hc) ((am_tv_cat E w).trans hc2) (k u r σ' h1 h2 p e s m args below meth c H locs ls C HW hl)
theorem z_dup_x1 {v w : Value} (hd : decode Y.2.1 pc = .ok (.dup_x1, 1)) (hc : v.category = 1) (hc2 : w.category = 1) (k : Z l E ms σ0 Y d mc sl (pc + 1) lv (v :: w :: v :: st) cu su σ code G) : Z l E ms σ0 Y d mc sl pc lv (v :: w :: st) cu su σ code G :=
  fun u r σ' h1 h2 p e s m args below meth c H locs ls C HW hl => lv_dup_x1 C.1 C.2.1 hd ((am_tv_cat E v).trans hc) ((am_tv_cat E w).trans hc2) (k u r σ' h1 h2 p e s m args below meth c H locs ls C HW hl)
theorem z_lcmp {x y : Int64} (hd : decode Y.2.1 pc = .ok (.lcmp, 1)) (k : Z l E ms σ0 Y d mc sl (pc + 1) lv (.int (lg_cmp x y) :: st) cu su σ code G) : Z l E ms σ0 Y d mc sl pc lv (.long y :: .long x :: st) cu su σ code G :=
  fun u r σ' h1 h2 p e s m args below meth c H locs ls C HW hl => W.lcmp C.1 C.2.1 hd (k u r σ' h1 h2 p e s m args below meth c H locs ls C HW hl)
theorem z_if_eq {x : Int32} {off : Int} {tgt : Nat} (hd : decode Y.2.1 pc = .ok (.ifCond .eq off, 3)) (ht : (pc : Int) + off = (tgt : Int)) (ka : x = 0 → Z l E ms σ0 Y d mc sl tgt lv st cu su σ A G) (kb : ¬ x = 0 → Z l E ms σ0 Y d mc sl (pc + 3) lv st cu su σ B G) : Z l E ms σ0 Y d mc sl pc lv (.int x :: st) cu su σ (if x = 0 then A else B) G := by
  intro u r σ' h1 h2 p e s m args below meth c H locs ls C HW hl
  exact lv_if_eq C.1 C.2.1 hd ht (fun hc => ka hc u r σ' (by rw [if_pos hc] at h1; exact h1) h2 p e s m args below meth c H locs ls C HW hl) (fun hc => kb hc u r σ' (by rw [if_neg hc] at h1; exact h1) h2 p e s m args below meth c H locs ls C HW hl)
theorem z_if_eq_t {x : Int32} {off : Int} {tgt : Nat} (hd : decode Y.2.1 pc = .ok (.ifCond .eq off, 3)) (ht : (pc : Int) + off = (tgt : Int)) (hc : x = 0) (k : Z l E ms σ0 Y d mc sl tgt lv st cu su σ code G) : Z l E ms σ0 Y d mc sl pc lv (.int x :: st) cu su σ code G :=
  fun u r σ' h1 h2 p e s m args below meth c H locs ls C HW hl => lv_if_eq C.1 C.2.1 hd ht (fun _ => k u r σ' h1 h2 p e s m args below meth c H locs ls C HW hl) (fun h => absurd hc h)
theorem z_if_eq_f {x : Int32} {off : Int} {tgt : Nat} (hd : decode Y.2.1 pc = .ok (.ifCond .eq off, 3)) (ht : (pc : Int) + off = (tgt : Int)) (hc : ¬ x = 0) (k : Z l E ms σ0 Y d mc sl (pc + 3) lv st cu su σ code G) : Z l E ms σ0 Y d mc sl pc lv (.int x :: st) cu su σ code G :=
  fun u r σ' h1 h2 p e s m args below meth c H locs ls C HW hl => lv_if_eq C.1 C.2.1 hd ht (fun h => absurd h hc) (fun _ => k u r σ' h1 h2 p e s m args below meth c H locs ls C HW hl)
theorem z_if_ne {x : Int32} {off : Int} {tgt : Nat} (hd : decode Y.2.1 pc = .ok (.ifCond .ne off, 3)) (ht : (pc : Int) + off = (tgt : Int)) (ka : x = 0 → Z l E ms σ0 Y d mc sl (pc + 3) lv st cu su σ A G) (kb : ¬ x = 0 → Z l E ms σ0 Y d mc sl tgt lv st cu su σ B G) : Z l E ms σ0 Y d mc sl pc lv (.int x :: st) cu su σ (if x = 0 then A else B) G := by
  intro u r σ' h1 h2 p e s m args below meth c H locs ls C HW hl
  exact lv_if_ne C.1 C.2.1 hd ht (fun hc => kb hc u r σ' (by rw [if_neg hc] at h1; exact h1) h2 p e s m args below meth c H locs ls C HW hl) (fun hc => ka hc u r σ' (by rw [if_pos hc] at h1; exact h1) h2 p e s m args below meth c H locs ls C HW hl)
theorem z_if_ne_t {x : Int32} {off : Int} {tgt : Nat} (hd : decode Y.2.1 pc = .ok (.ifCond .ne off, 3)) (ht : (pc : Int) + off = (tgt : Int)) (hc : ¬ x = 0) (k : Z l E ms σ0 Y d mc sl tgt lv st cu su σ code G) : Z l E ms σ0 Y d mc sl pc lv (.int x :: st) cu su σ code G :=
  fun u r σ' h1 h2 p e s m args below meth c H locs ls C HW hl => lv_if_ne C.1 C.2.1 hd ht (fun _ => k u r σ' h1 h2 p e s m args below meth c H locs ls C HW hl) (fun h => absurd h hc)
theorem z_if_ne_f {x : Int32} {off : Int} {tgt : Nat} (hd : decode Y.2.1 pc = .ok (.ifCond .ne off, 3)) (ht : (pc : Int) + off = (tgt : Int)) (hc : x = 0) (k : Z l E ms σ0 Y d mc sl (pc + 3) lv st cu su σ code G) : Z l E ms σ0 Y d mc sl pc lv (.int x :: st) cu su σ code G :=
  fun u r σ' h1 h2 p e s m args below meth c H locs ls C HW hl => lv_if_ne C.1 C.2.1 hd ht (fun h => absurd hc h) (fun _ => k u r σ' h1 h2 p e s m args below meth c H locs ls C HW hl)
theorem z_if_lt {x : Int32} {off : Int} {tgt : Nat} (hd : decode Y.2.1 pc = .ok (.ifCond .lt off, 3)) (ht : (pc : Int) + off = (tgt : Int)) (ka : x < 0 → Z l E ms σ0 Y d mc sl tgt lv st cu su σ A G) (kb : ¬ x < 0 → Z l E ms σ0 Y d mc sl (pc + 3) lv st cu su σ B G) : Z l E ms σ0 Y d mc sl pc lv (.int x :: st) cu su σ (if x < 0 then A else B) G := by
  intro u r σ' h1 h2 p e s m args below meth c H locs ls C HW hl
  exact lv_if_lt C.1 C.2.1 hd ht (fun hc => ka hc u r σ' (by rw [if_pos hc] at h1; exact h1) h2 p e s m args below meth c H locs ls C HW hl) (fun hc => kb hc u r σ' (by rw [if_neg hc] at h1; exact h1) h2 p e s m args below meth c H locs ls C HW hl)
theorem z_if_lt_t {x : Int32} {off : Int} {tgt : Nat} (hd : decode Y.2.1 pc = .ok (.ifCond .lt off, 3)) (ht : (pc : Int) + off = (tgt : Int)) (hc : x < 0) (k : Z l E ms σ0 Y d mc sl tgt lv st cu su σ code G) : Z l E ms σ0 Y d mc sl pc lv (.int x :: st) cu su σ code G :=
  fun u r σ' h1 h2 p e s m args below meth c H locs ls C HW hl => lv_if_lt C.1 C.2.1 hd ht (fun _ => k u r σ' h1 h2 p e s m args below meth c H locs ls C HW hl) (fun h => absurd hc h)
theorem z_if_lt_f {x : Int32} {off : Int} {tgt : Nat} (hd : decode Y.2.1 pc = .ok (.ifCond .lt off, 3)) (ht : (pc : Int) + off = (tgt : Int)) (hc : ¬ x < 0) (k : Z l E ms σ0 Y d mc sl (pc + 3) lv st cu su σ code G) : Z l E ms σ0 Y d mc sl pc lv (.int x :: st) cu su σ code G :=
  fun u r σ' h1 h2 p e s m args below meth c H locs ls C HW hl => lv_if_lt C.1 C.2.1 hd ht (fun h => absurd h hc) (fun _ => k u r σ' h1 h2 p e s m args below meth c H locs ls C HW hl)
theorem z_if_ge {x : Int32} {off : Int} {tgt : Nat} (hd : decode Y.2.1 pc = .ok (.ifCond .ge off, 3)) (ht : (pc : Int) + off = (tgt : Int)) (ka : 0 ≤ x → Z l E ms σ0 Y d mc sl tgt lv st cu su σ A G) (kb : ¬ 0 ≤ x → Z l E ms σ0 Y d mc sl (pc + 3) lv st cu su σ B G) : Z l E ms σ0 Y d mc sl pc lv (.int x :: st) cu su σ (if 0 ≤ x then A else B) G := by
  intro u r σ' h1 h2 p e s m args below meth c H locs ls C HW hl
  exact lv_if_ge C.1 C.2.1 hd ht (fun hc => ka hc u r σ' (by rw [if_pos hc] at h1; exact h1) h2 p e s m args below meth c H locs ls C HW hl) (fun hc => kb hc u r σ' (by rw [if_neg hc] at h1; exact h1) h2 p e s m args below meth c H locs ls C HW hl)
theorem z_if_ge_t {x : Int32} {off : Int} {tgt : Nat} (hd : decode Y.2.1 pc = .ok (.ifCond .ge off, 3)) (ht : (pc : Int) + off = (tgt : Int)) (hc : 0 ≤ x) (k : Z l E ms σ0 Y d mc sl tgt lv st cu su σ code G) : Z l E ms σ0 Y d mc sl pc lv (.int x :: st) cu su σ code G :=
  fun u r σ' h1 h2 p e s m args below meth c H locs ls C HW hl => lv_if_ge C.1 C.2.1 hd ht (fun _ => k u r σ' h1 h2 p e s m args below meth c H locs ls C HW hl) (fun h => absurd hc h)
theorem z_if_ge_f {x : Int32} {off : Int} {tgt : Nat} (hd : decode Y.2.1 pc = .ok (.ifCond .ge off, 3)) (ht : (pc : Int) + off = (tgt : Int)) (hc : ¬ 0 ≤ x) (k : Z l E ms σ0 Y d mc sl (pc + 3) lv st cu su σ code G) : Z l E ms σ0 Y d mc sl pc lv (.int x :: st) cu su σ code G :=
  fun u r σ' h1 h2 p e s m args below meth c H locs ls C HW hl => lv_if_ge C.1 C.2.1 hd ht (fun h => absurd h hc) (fun _ => k u r σ' h1 h2 p e s m args below meth c H locs ls C HW hl)
theorem z_if_gt {x : Int32} {off : Int} {tgt : Nat} (hd : decode Y.2.1 pc = .ok (.ifCond .gt off, 3)) (ht : (pc : Int) + off = (tgt : Int)) (ka : 0 < x → Z l E ms σ0 Y d mc sl tgt lv st cu su σ A G) (kb : ¬ 0 < x → Z l E ms σ0 Y d mc sl (pc + 3) lv st cu su σ B G) : Z l E ms σ0 Y d mc sl pc lv (.int x :: st) cu su σ (if 0 < x then A else B) G := by
  intro u r σ' h1 h2 p e s m args below meth c H locs ls C HW hl
  exact lv_if_gt C.1 C.2.1 hd ht (fun hc => ka hc u r σ' (by rw [if_pos hc] at h1; exact h1) h2 p e s m args below meth c H locs ls C HW hl) (fun hc => kb hc u r σ' (by rw [if_neg hc] at h1; exact h1) h2 p e s m args below meth c H locs ls C HW hl)
theorem z_if_gt_t {x : Int32} {off : Int} {tgt : Nat} (hd : decode Y.2.1 pc = .ok (.ifCond .gt off, 3)) (ht : (pc : Int) + off = (tgt : Int)) (hc : 0 < x) (k : Z l E ms σ0 Y d mc sl tgt lv st cu su σ code G) : Z l E ms σ0 Y d mc sl pc lv (.int x :: st) cu su σ code G :=
  fun u r σ' h1 h2 p e s m args below meth c H locs ls C HW hl => lv_if_gt C.1 C.2.1 hd ht (fun _ => k u r σ' h1 h2 p e s m args below meth c H locs ls C HW hl) (fun h => absurd hc h)
theorem z_if_gt_f {x : Int32} {off : Int} {tgt : Nat} (hd : decode Y.2.1 pc = .ok (.ifCond .gt off, 3)) (ht : (pc : Int) + off = (tgt : Int)) (hc : ¬ 0 < x) (k : Z l E ms σ0 Y d mc sl (pc + 3) lv st cu su σ code G) : Z l E ms σ0 Y d mc sl pc lv (.int x :: st) cu su σ code G :=
  fun u r σ' h1 h2 p e s m args below meth c H locs ls C HW hl => lv_if_gt C.1 C.2.1 hd ht (fun h => absurd h hc) (fun _ => k u r σ' h1 h2 p e s m args below meth c H locs ls C HW hl)
theorem z_if_le {x : Int32} {off : Int} {tgt : Nat} (hd : decode Y.2.1 pc = .ok (.ifCond .le off, 3)) (ht : (pc : Int) + off = (tgt : Int)) (ka : x ≤ 0 → Z l E ms σ0 Y d mc sl tgt lv st cu su σ A G) (kb : ¬ x ≤ 0 → Z l E ms σ0 Y d mc sl (pc + 3) lv st cu su σ B G) : Z l E ms σ0 Y d mc sl pc lv (.int x :: st) cu su σ (if x ≤ 0 then A else B) G := by
  intro u r σ' h1 h2 p e s m args below meth c H locs ls C HW hl
  exact lv_if_le C.1 C.2.1 hd ht (fun hc => ka hc u r σ' (by rw [if_pos hc] at h1; exact h1) h2 p e s m args below meth c H locs ls C HW hl) (fun hc => kb hc u r σ' (by rw [if_neg hc] at h1; exact h1) h2 p e s m args below meth c H locs ls C HW hl)
theorem z_if_le_t {x : Int32} {off : Int} {tgt : Nat} (hd : decode Y.2.1 pc = .ok (.ifCond .le off, 3)) (ht : (pc : Int) + off = (tgt : Int)) (hc : x ≤ 0) (k : Z l E ms σ0 Y d mc sl tgt lv st cu su σ code G) : Z l E ms σ0 Y d mc sl pc lv (.int x :: st) cu su σ code G :=
  fun u r σ' h1 h2 p e s m args below meth c H locs ls C HW hl => lv_if_le C.1 C.2.1 hd ht (fun _ => k u r σ' h1 h2 p e s m args below meth c H locs ls C HW hl) (fun h => absurd hc h)
theorem z_if_le_f {x : Int32} {off : Int} {tgt : Nat} (hd : decode Y.2.1 pc = .ok (.ifCond .le off, 3)) (ht : (pc : Int) + off = (tgt : Int)) (hc : ¬ x ≤ 0) (k : Z l E ms σ0 Y d mc sl (pc + 3) lv st cu su σ code G) : Z l E ms σ0 Y d mc sl pc lv (.int x :: st) cu su σ code G :=
  fun u r σ' h1 h2 p e s m args below meth c H locs ls C HW hl => lv_if_le C.1 C.2.1 hd ht (fun h => absurd h hc) (fun _ => k u r σ' h1 h2 p e s m args below meth c H locs ls C HW hl)
theorem z_ic_eq {x y : Int32} {off : Int} {tgt : Nat} (hd : decode Y.2.1 pc = .ok (.if_icmp .eq off, 3)) (ht : (pc : Int) + off = (tgt : Int)) (ka : x = y → Z l E ms σ0 Y d mc sl tgt lv st cu su σ A G) (kb : ¬ x = y → Z l E ms σ0 Y d mc sl (pc + 3) lv st cu su σ B G) : Z l E ms σ0 Y d mc sl pc lv (.int y :: .int x :: st) cu su σ (if x = y then A else B) G := by
  intro u r σ' h1 h2 p e s m args below meth c H locs ls C HW hl
  exact lv_icmp_eq C.1 C.2.1 hd ht (fun hc => ka hc u r σ' (by rw [if_pos hc] at h1; exact h1) h2 p e s m args below meth c H locs ls C HW hl) (fun hc => kb hc u r σ' (by rw [if_neg hc] at h1; exact h1) h2 p e s m args below meth c H locs ls C HW hl)
theorem z_ic_eq_t {x y : Int32} {off : Int} {tgt : Nat} (hd : decode Y.2.1 pc = .ok (.if_icmp .eq off, 3)) (ht : (pc : Int) + off = (tgt : Int)) (hc : x = y) (k : Z l E ms σ0 Y d mc sl tgt lv st cu su σ code G) : Z l E ms σ0 Y d mc sl pc lv (.int y :: .int x :: st) cu su σ code G :=
  fun u r σ' h1 h2 p e s m args below meth c H locs ls C HW hl => lv_icmp_eq C.1 C.2.1 hd ht (fun _ => k u r σ' h1 h2 p e s m args below meth c H locs ls C HW hl) (fun h => absurd hc h)
theorem z_ic_eq_f {x y : Int32} {off : Int} {tgt : Nat} (hd : decode Y.2.1 pc = .ok (.if_icmp .eq off, 3)) (ht : (pc : Int) + off = (tgt : Int)) (hc : ¬ x = y) (k : Z l E ms σ0 Y d mc sl (pc + 3) lv st cu su σ code G) : Z l E ms σ0 Y d mc sl pc lv (.int y :: .int x :: st) cu su σ code G :=
  fun u r σ' h1 h2 p e s m args below meth c H locs ls C HW hl => lv_icmp_eq C.1 C.2.1 hd ht (fun h => absurd h hc) (fun _ => k u r σ' h1 h2 p e s m args below meth c H locs ls C HW hl)
theorem z_ic_ne {x y : Int32} {off : Int} {tgt : Nat} (hd : decode Y.2.1 pc = .ok (.if_icmp .ne off, 3)) (ht : (pc : Int) + off = (tgt : Int)) (ka : x = y → Z l E ms σ0 Y d mc sl (pc + 3) lv st cu su σ A G) (kb : ¬ x = y → Z l E ms σ0 Y d mc sl tgt lv st cu su σ B G) : Z l E ms σ0 Y d mc sl pc lv (.int y :: .int x :: st) cu su σ (if x = y then A else B) G := by
  intro u r σ' h1 h2 p e s m args below meth c H locs ls C HW hl
  exact lv_icmp_ne C.1 C.2.1 hd ht (fun hc => kb hc u r σ' (by rw [if_neg hc] at h1; exact h1) h2 p e s m args below meth c H locs ls C HW hl) (fun hc => ka hc u r σ' (by rw [if_pos hc] at h1; exact h1) h2 p e s m args below meth c H locs ls C HW hl)
theorem z_ic_ne_t {x y : Int32} {off : Int} {tgt : Nat} (hd : decode Y.2.1 pc = .ok (.if_icmp .ne off, 3)) (ht : (pc : Int) + off = (tgt : Int)) (hc : ¬ x = y) (k : Z l E ms σ0 Y d mc sl tgt lv st cu su σ code G) : Z l E ms σ0 Y d mc sl pc lv (.int y :: .int x :: st) cu su σ code G :=
  fun u r σ' h1 h2 p e s m args below meth c H locs ls C HW hl => lv_icmp_ne C.1 C.2.1 hd ht (fun _ => k u r σ' h1 h2 p e s m args below meth c H locs ls C HW hl) (fun h => absurd h hc)
theorem z_ic_ne_f {x y : Int32} {off : Int} {tgt : Nat} (hd : decode Y.2.1 pc = .ok (.if_icmp .ne off, 3)) (ht : (pc : Int) + off = (tgt : Int)) (hc : x = y) (k : Z l E ms σ0 Y d mc sl (pc + 3) lv st cu su σ code G) : Z l E ms σ0 Y d mc sl pc lv (.int y :: .int x :: st) cu su σ code G :=
  fun u r σ' h1 h2 p e s m args below meth c H locs ls C HW hl => lv_icmp_ne C.1 C.2.1 hd ht (fun h => absurd hc h) (fun _ => k u r σ' h1 h2 p e s m args below meth c H locs ls C HW hl)
theorem z_ic_lt {x y : Int32} {off : Int} {tgt : Nat} (hd : decode Y.2.1 pc = .ok (.if_icmp .lt off, 3)) (ht : (pc : Int) + off = (tgt : Int)) (ka : x < y → Z l E ms σ0 Y d mc sl tgt lv st cu su σ A G) (kb : ¬ x < y → Z l E ms σ0 Y d mc sl (pc + 3) lv st cu su σ B G) : Z l E ms σ0 Y d mc sl pc lv (.int y :: .int x :: st) cu su σ (if x < y then A else B) G := by
  intro u r σ' h1 h2 p e s m args below meth c H locs ls C HW hl
  exact lv_icmp_lt C.1 C.2.1 hd ht (fun hc => ka hc u r σ' (by rw [if_pos hc] at h1; exact h1) h2 p e s m args below meth c H locs ls C HW hl) (fun hc => kb hc u r σ' (by rw [if_neg hc] at h1; exact h1) h2 p e s m args below meth c H locs ls C HW hl)
theorem z_ic_lt_t {x y : Int32} {off : Int} {tgt : Nat} (hd : decode Y.2.1 pc = .ok (.if_icmp .lt off, 3)) (ht : (pc : Int) + off = (tgt : Int)) (hc : x < y) (k : Z l E ms σ0 Y d mc sl tgt lv st cu su σ code G) : Z l E ms σ0 Y d mc sl pc lv (.int y :: .int x :: st) cu su σ code G :=
  fun u r σ' h1 h2 p e s m args below meth c H locs ls C HW hl => lv_icmp_lt C.1 C.2.1 hd ht (fun _ => k u r σ' h1 h2 p e s m args below meth c H locs ls C HW hl) (fun h => absurd hc h)
theorem z_ic_lt_f {x y : Int32} {off : Int} {tgt : Nat} (hd : decode Y.2.1 pc = .ok (.if_icmp .lt off, 3)) (ht : (pc : Int) + off = (tgt : Int)) (hc : ¬ x < y) (k : Z l E ms σ0 Y d mc sl (pc + 3) lv st cu su σ code G) : Z l E ms σ0 Y d mc sl pc lv (.int y :: .int x :: st) cu su σ code G :=
  fun u r σ' h1 h2 p e s m args below meth c H locs ls C HW hl => lv_icmp_lt C.1 C.2.1 hd ht (fun h => absurd h hc) (fun _ => k u r σ' h1 h2 p e s m args below meth c H locs ls C HW hl)
theorem z_ic_ge {x y : Int32} {off : Int} {tgt : Nat} (hd : decode Y.2.1 pc = .ok (.if_icmp .ge off, 3)) (ht : (pc : Int) + off = (tgt : Int)) (ka : y ≤ x → Z l E ms σ0 Y d mc sl tgt lv st cu su σ A G) (kb : ¬ y ≤ x → Z l E ms σ0 Y d mc sl (pc + 3) lv st cu su σ B G) : Z l E ms σ0 Y d mc sl pc lv (.int y :: .int x :: st) cu su σ (if y ≤ x then A else B) G := by
  intro u r σ' h1 h2 p e s m args below meth c H locs ls C HW hl
  exact lv_icmp_ge C.1 C.2.1 hd ht (fun hc => ka hc u r σ' (by rw [if_pos hc] at h1; exact h1) h2 p e s m args below meth c H locs ls C HW hl) (fun hc => kb hc u r σ' (by rw [if_neg hc] at h1; exact h1) h2 p e s m args below meth c H locs ls C HW hl)
theorem z_ic_ge_t {x y : Int32} {off : Int} {tgt : Nat} (hd : decode Y.2.1 pc = .ok (.if_icmp .ge off, 3)) (ht : (pc : Int) + off = (tgt : Int)) (hc : y ≤ x) (k : Z l E ms σ0 Y d mc sl tgt lv st cu su σ code G) : Z l E ms σ0 Y d mc sl pc lv (.int y :: .int x :: st) cu su σ code G :=
  fun u r σ' h1 h2 p e s m args below meth c H locs ls C HW hl => lv_icmp_ge C.1 C.2.1 hd ht (fun _ => k u r σ' h1 h2 p e s m args below meth c H locs ls C HW hl) (fun h => absurd hc h)
theorem z_ic_ge_f {x y : Int32} {off : Int} {tgt : Nat} (hd : decode Y.2.1 pc = .ok (.if_icmp .ge off, 3)) (ht : (pc : Int) + off = (tgt : Int)) (hc : ¬ y ≤ x) (k : Z l E ms σ0 Y d mc sl (pc + 3) lv st cu su σ code G) : Z l E ms σ0 Y d mc sl pc lv (.int y :: .int x :: st) cu su σ code G :=
  fun u r σ' h1 h2 p e s m args below meth c H locs ls C HW hl => lv_icmp_ge C.1 C.2.1 hd ht (fun h => absurd h hc) (fun _ => k u r σ' h1 h2 p e s m args below meth c H locs ls C HW hl)
theorem z_ic_gt {x y : Int32} {off : Int} {tgt : Nat} (hd : decode Y.2.1 pc = .ok (.if_icmp .gt off, 3)) (ht : (pc : Int) + off = (tgt : Int)) (ka : y < x → Z l E ms σ0 Y d mc sl tgt lv st cu su σ A G) (kb : ¬ y < x → Z l E ms σ0 Y d mc sl (pc + 3) lv st cu su σ B G) : Z l E ms σ0 Y d mc sl pc lv (.int y :: .int x :: st) cu su σ (if y < x then A else B) G := by
  intro u r σ' h1 h2 p e s m args below meth c H locs ls C HW hl
  exact lv_icmp_gt C.1 C.2.1 hd ht (fun hc => ka hc u r σ' (by rw [if_pos hc] at h1; exact h1) h2 p e s m args below meth c H locs ls C HW hl) (fun hc => kb hc u r σ' (by rw [if_neg hc] at h1; exact h1) h2 p e s m args below meth c H locs ls C HW hl)
theorem z_ic_gt_t {x y : Int32} {off : Int} {tgt : Nat} (hd : decode Y.2.1 pc = .ok (.if_icmp .gt off, 3)) (ht : (pc : Int) + off = (tgt : Int)) (hc : y < x) (k : Z l E ms σ0 Y d mc sl tgt lv st cu su σ code G) : Z l E ms σ0 Y d mc sl pc lv (.int y :: .int x :: st) cu su σ code G :=
  fun u r σ' h1 h2 p e s m args below meth c H locs ls C HW hl => lv_icmp_gt C.1 C.2.1 hd ht (fun _ => k u r σ' h1 h2 p e s m args below meth c H locs ls C HW hl) (fun h => absurd hc h)
theorem z_ic_gt_f {x y : Int32} {off : Int} {tgt : Nat} (hd : decode Y.2.1 pc = .ok (.if_icmp .gt off, 3)) (ht : (pc : Int) + off = (tgt : Int)) (hc : ¬ y < x) (k : Z l E ms σ0 Y d mc sl (pc + 3) lv st cu su σ code G) : Z l E ms σ0 Y d mc sl pc lv (.int y :: .int x :: st) cu su σ code G :=
  fun u r σ' h1 h2 p e s m args below meth c H locs ls C HW hl => lv_icmp_gt C.1 C.2.1 hd ht (fun h => absurd h hc) (fun _ => k u r σ' h1 h2 p e s m args below meth c H locs ls C HW hl)
theorem z_ic_le {x y : Int32} {off : Int} {tgt : Nat} (hd : decode Y.2.1 pc = .ok (.if_icmp .le off, 3)) (ht : (pc : Int) + off = (tgt : Int)) (ka : x ≤ y → Z l E ms σ0 Y d mc sl tgt lv st cu su σ A G) (kb : ¬ x ≤ y → Z l E ms σ0 Y d mc sl (pc + 3) lv st cu su σ B G) : Z l E ms σ0 Y d mc sl pc lv (.int y :: .int x :: st) cu su σ (if x ≤ y then A else B) G := by
  intro u r σ' h1 h2 p e s m args below meth c H locs ls C HW hl
  exact lv_icmp_le C.1 C.2.1 hd ht (fun hc => ka hc u r σ' (by rw [if_pos hc] at h1; exact h1) h2 p e s m args below meth c H locs ls C HW hl) (fun hc => kb hc u r σ' (by rw [if_neg hc] at h1; exact h1) h2 p e s m args below meth c H locs ls C HW hl)
theorem z_ic_le_t {x y : Int32} {off : Int} {tgt : Nat} (hd : decode Y.2.1 pc = .ok (.if_icmp .le off, 3)) (ht : (pc : Int) + off = (tgt : Int)) (hc : x ≤ y) (k : Z l E ms σ0 Y d mc sl tgt lv st cu su σ code G) : Z l E ms σ0 Y d mc sl pc lv (.int y :: .int x :: st) cu su σ code G :=
  fun u r σ' h1 h2 p e s m args below meth c H locs ls C HW hl => lv_icmp_le C.1 C.2.1 hd ht (fun _ => k u r σ' h1 h2 p e s m args below meth c H locs ls C HW hl) (fun h => absurd hc h)
theorem z_ic_le_f {x y : Int32} {off : Int} {tgt : Nat} (hd : decode Y.2.1 pc = .ok (.if_icmp .le off, 3)) (ht : (pc : Int) + off = (tgt : Int)) (hc : ¬ x ≤ y) (k : Z l E ms σ0 Y d mc sl (pc + 3) lv st cu su σ code G) : Z l E ms σ0 Y d mc sl pc lv (.int y :: .int x :: st) cu su σ code G :=
  fun u r σ' h1 h2 p e s m args below meth c H locs ls C HW hl => lv_icmp_le C.1 C.2.1 hd ht (fun h => absurd h hc) (fun _ => k u r σ' h1 h2 p e s m args below meth c H locs ls C HW hl)
theorem z_bz_eq {b : Bool} {off : Int} {tgt : Nat} (hd : decode Y.2.1 pc = .ok (.ifCond .eq off, 3)) (ht : (pc : Int) + off = (tgt : Int)) (ka : b = true → Z l E ms σ0 Y d mc sl (pc + 3) lv st cu su σ A G) (kb : ¬ b = true → Z l E ms σ0 Y d mc sl tgt lv st cu su σ B G) : Z l E ms σ0 Y d mc sl pc lv (.int (bI b) :: st) cu su σ (if b = true then A else B) G := by
  intro u r σ' h1 h2 p e s m args below meth c H locs ls C HW hl
  cases b with
  | true => exact lv_if_eq C.1 C.2.1 hd ht (fun hc => absurd hc (by decide)) (fun _ => ka rfl u r σ' (by rw [if_pos rfl] at h1; exact h1) h2 p e s m args below meth c H locs ls C HW hl)
  | false => exact lv_if_eq C.1 C.2.1 hd ht (fun _ => kb (by decide) u r σ' (by rw [if_neg (by decide)] at h1; exact h1) h2 p e s m args below meth c H locs ls C HW hl) (fun hc => absurd rfl hc)
theorem z_bz_ne {b : Bool} {off : Int} {tgt : Nat} (hd : decode Y.2.1 pc = .ok (.ifCond .ne off, 3)) (ht : (pc : Int) + off = (tgt : Int)) (ka : b = true → Z l E ms σ0 Y d mc sl tgt lv st cu su σ A G) (kb : ¬ b = true → Z l E ms σ0 Y d mc sl (pc + 3) lv st cu su σ B G) : Z l E ms σ0 Y d mc sl pc lv (.int (bI b) :: st) cu su σ (if b = true then A else B) G := by
  intro u r σ' h1 h2 p e s m args below meth c H locs ls C HW hl
  cases b with
  | true => exact lv_if_ne C.1 C.2.1 hd ht (fun _ => ka rfl u r σ' (by rw [if_pos rfl] at h1; exact h1) h2 p e s m args below meth c H locs ls C HW hl) (fun hc => absurd hc (by decide))
  | false => exact lv_if_ne C.1 C.2.1 hd ht (fun hc => absurd rfl hc) (fun _ => kb (by decide) u r σ' (by rw [if_neg (by decide)] at h1; exact h1) h2 p e s m args below meth c H locs ls C HW hl)
theorem z_goto {off : Int} {tgt : Nat} (hd : decode Y.2.1 pc = .ok (.goto off, 3)) (ht : (pc : Int) + off = (tgt : Int)) (k : Z l E ms σ0 Y d mc sl tgt lv st cu su σ code G) : Z l E ms σ0 Y d mc sl pc lv st cu su σ code G :=
  fun u r σ' h1 h2 p e s m args below meth c H locs ls C HW hl => lv_goto C.1 C.2.1 hd ht (k u r σ' h1 h2 p e s m args below meth c H locs ls C HW hl)
theorem z_ifnull {x : Nat} {off : Int} (hd : decode Y.2.1 pc = .ok (.ifnull off, 3)) (k : Z l E ms σ0 Y d mc sl (pc + 3) lv st cu su σ code G) : Z l E ms σ0 Y d mc sl pc lv (.ref x :: st) cu su σ code G :=
  fun u r σ' h1 h2 p e s m args below meth c H locs ls C HW hl => lv_ifnull C.1 C.2.1 hd (k u r σ' h1 h2 p e s m args below meth c H locs ls C HW hl)
theorem z_ifnonnull {x : Nat} {off : Int} {tgt : Nat} (hd : decode Y.2.1 pc = .ok (.ifnonnull off, 3)) (ht : (pc : Int) + off = (tgt : Int)) (k : Z l E ms σ0 Y d mc sl tgt lv st cu su σ code G) : Z l E ms σ0 Y d mc sl pc lv (.ref x :: st) cu su σ code G :=
  fun u r σ' h1 h2 p e s m args below meth c H locs ls C HW hl => lv_ifnonnull C.1 C.2.1 hd ht (k u r σ' h1 h2 p e s m args below meth c H locs ls C HW hl)
theorem z_ifnullN {off : Int} {tgt : Nat} (hd : decode Y.2.1 pc = .ok (.ifnull off, 3)) (ht : (pc : Int) + off = (tgt : Int)) (k : Z l E ms σ0 Y d mc sl tgt lv st cu su σ code G) : Z l E ms σ0 Y d mc sl pc lv (.null :: st) cu su σ code G :=
  fun u r σ' h1 h2 p e s m args below meth c H locs ls C HW hl => lv_ifnullN C.1 C.2.1 hd ht (k u r σ' h1 h2 p e s m args below meth c H locs ls C HW hl)
theorem z_ifnonnullN {off : Int} (hd : decode Y.2.1 pc = .ok (.ifnonnull off, 3)) (k : Z l E ms σ0 Y d mc sl (pc + 3) lv st cu su σ code G) : Z l E ms σ0 Y d mc sl pc lv (.null :: st) cu su σ code G :=
  fun u r σ' h1 h2 p e s m args below meth c H locs ls C HW hl => lv_ifnonnullN C.1 C.2.1 hd (k u r σ' h1 h2 p e s m args below meth c H locs ls C HW hl)
theorem z_tsIn {dflt lo hi : Int} {offs : Array Int} {len : Nat} {x : Int32} {off : Int} {tgt : Nat} (hd : decode Y.2.1 pc = .ok (.tableswitch dflt lo hi offs, len)) (h1 : ¬ x.toInt < lo) (h2 : ¬ hi < x.toInt) (ho : offs[(x.toInt - lo).toNat]? = some off) (ht : (pc : Int) + off = (tgt : Int)) (k : Z l E ms σ0 Y d mc sl tgt lv st cu su σ code G) : Z l E ms σ0 Y d mc sl pc lv (.int x :: st) cu su σ code G :=
  fun u r σ' h3 h4 p e s m args below meth c H locs ls C HW hl => lv_tableIn C.1 C.2.1 hd h1 h2 ho ht (k u r σ' h3 h4 p e s m args below meth c H locs ls C HW hl)
theorem z_tsOut {dflt lo hi : Int} {offs : Array Int} {len : Nat} {x : Int32} {tgt : Nat} (hd : decode Y.2.1 pc = .ok (.tableswitch dflt lo hi offs, len)) (h : x.toInt < lo ∨ hi < x.toInt) (ht : (pc : Int) + dflt = (tgt : Int)) (k : Z l E ms σ0 Y d mc sl tgt lv st cu su σ code G) : Z l E ms σ0 Y d mc sl pc lv (.int x :: st) cu su σ code G :=
  fun u r σ' h1 h2 p e s m args below meth c H locs ls C HW hl => lv_tableOut C.1 C.2.1 hd h ht (k u r σ' h1 h2 p e s m args below meth c H locs ls C HW hl)
theorem z_lookup {dflt : Int} {ps : Array (Int × Int)} {len : Nat} {x : Int32} {off : Int} {tgt : Nat} (hd : decode Y.2.1 pc = .ok (.lookupswitch dflt ps, len)) (hp : (ps.toList.zip (ps.toList.drop 1)).all (fun (a, next) => a.1 < next.1) = true) (ho : Op.lookupswitch.offset ps.toList dflt x.toInt = off) (ht : (pc : Int) + off = (tgt : Int)) (k : Z l E ms σ0 Y d mc sl tgt lv st cu su σ code G) : Z l E ms σ0 Y d mc sl pc lv (.int x :: st) cu su σ code G :=
  fun u r σ' h1 h2 p e s m args below meth c H locs ls C HW hl => lv_lookup C.1 C.2.1 hd hp ho ht (k u r σ' h1 h2 p e s m args below meth c H locs ls C HW hl)
theorem z_iret {v : Int32} (hd : decode Y.2.1 pc = .ok (.ireturn, 1)) (ht : Y.2.2.2 = some .int) (hG : ∀ u, code = some u → ∀ r σ', G u r σ' → r = some (.int v) ∧ σ' = σ) (hm : cu ≤ mc ∧ su ≤ sl) : Z l E ms σ0 Y d mc sl pc lv ([.int v]) cu su σ code G := by
  intro u r σ' h1 h2 p e s m args below meth c H locs ls C HW hl
  obtain ⟨rfl, rfl⟩ := hG u h1 r σ' h2
  obtain ⟨hx, hb, hr, hml, hown, hts, hlocks, hnm, hK⟩ := C
  obtain ⟨hW, hS, hk1, hk2⟩ := HW
  refine W.widen hm.1 hm.2 ?_
  exact W.iret hx hb (hr.trans ht) (fun t ht hWm => ⟨rfl, by rw [ht]; exact hW, hS.F ht, hk2⟩) hS.2.2 hd
theorem z_zret {v : Int32} {ty : FieldType} (hd : decode Y.2.1 pc = .ok (.ireturn, 1)) (ht : Y.2.2.2 = some ty) (hn : narrow ty (.int v) = .int v) (hG : ∀ u, code = some u → ∀ r σ', G u r σ' → r = some (.int v) ∧ σ' = σ) (hm : cu ≤ mc ∧ su ≤ sl) : Z l E ms σ0 Y d mc sl pc lv ([.int v]) cu su σ code G := by
  intro u r σ' h1 h2 p e s m args below meth c H locs ls C HW hl
  obtain ⟨rfl, rfl⟩ := hG u h1 r σ' h2
  obtain ⟨hx, hb, hr, hml, hown, hts, hlocks, hnm, hK⟩ := C
  obtain ⟨hW, hS, hk1, hk2⟩ := HW
  refine W.widen hm.1 hm.2 ?_
  exact W.zret hx hb (hr.trans ht) hn (fun t ht hWm => ⟨rfl, by rw [ht]; exact hW, hS.F ht, hk2⟩) hS.2.2 hd
theorem z_vret (hd : decode Y.2.1 pc = .ok (.return_, 1)) (ht : Y.2.2.2 = none) (hG : ∀ u, code = some u → ∀ r σ', G u r σ' → r = none ∧ σ' = σ) (hm : cu ≤ mc ∧ su ≤ sl) : Z l E ms σ0 Y d mc sl pc lv ([]) cu su σ code G := by
  intro u r σ' h1 h2 p e s m args below meth c H locs ls C HW hl
  obtain ⟨rfl, rfl⟩ := hG u h1 r σ' h2
  obtain ⟨hx, hb, hr, hml, hown, hts, hlocks, hnm, hK⟩ := C
  obtain ⟨hW, hS, hk1, hk2⟩ := HW
  refine W.widen hm.1 hm.2 ?_
  exact W.vret hx hb (hr.trans ht) (fun t ht hWm => ⟨rfl, by rw [ht]; exact hW, hS.F ht, hk2⟩) hS.2.2 hd
theorem z_lret {v : Int64} (hd : decode Y.2.1 pc = .ok (.lreturn, 1)) (ht : Y.2.2.2 = some .long) (hG : ∀ u, code = some u → ∀ r σ', G u r σ' → r = some (.long v) ∧ σ' = σ) (hm : cu ≤ mc ∧ su ≤ sl) : Z l E ms σ0 Y d mc sl pc lv ([.long v]) cu su σ code G := by
  intro u r σ' h1 h2 p e s m args below meth c H locs ls C HW hl
  obtain ⟨rfl, rfl⟩ := hG u h1 r σ' h2
  obtain ⟨hx, hb, hr, hml, hown, hts, hlocks, hnm, hK⟩ := C
  obtain ⟨hW, hS, hk1, hk2⟩ := HW
  refine W.widen hm.1 hm.2 ?_
  exact W.lret hx hb (hr.trans ht) (fun t ht hWm => ⟨rfl, by rw [ht]; exact hW, hS.F ht, hk2⟩) hS.2.2 hd
theorem z_aret {v : Nat} {n : String} (hd : decode Y.2.1 pc = .ok (.areturn, 1)) (ht : Y.2.2.2 = some (.object n)) (hG : ∀ u, code = some u → ∀ r σ', G u r σ' → r = some (.ref v) ∧ σ' = σ) (hm : cu ≤ mc ∧ su ≤ sl) : Z l E ms σ0 Y d mc sl pc lv ([.ref v]) cu su σ code G := by
  intro u r σ' h1 h2 p e s m args below meth c H locs ls C HW hl
  obtain ⟨rfl, rfl⟩ := hG u h1 r σ' h2
  obtain ⟨hx, hb, hr, hml, hown, hts, hlocks, hnm, hK⟩ := C
  obtain ⟨hW, hS, hk1, hk2⟩ := HW
  refine W.widen hm.1 hm.2 ?_
  exact W.aret hx hb (hr.trans ht) (Or.inl ⟨_, rfl⟩) (Or.inr ⟨_, rfl⟩) (fun t ht hWm => ⟨rfl, by rw [ht]; exact hW, hS.F ht, hk2⟩) hS.2.2 hd
theorem z_aretN {n : String} (hd : decode Y.2.1 pc = .ok (.areturn, 1)) (ht : Y.2.2.2 = some (.object n)) (hG : ∀ u, code = some u → ∀ r σ', G u r σ' → r = some (.null) ∧ σ' = σ) (hm : cu ≤ mc ∧ su ≤ sl) : Z l E ms σ0 Y d mc sl pc lv ([.null]) cu su σ code G := by
  intro u r σ' h1 h2 p e s m args below meth c H locs ls C HW hl
  obtain ⟨rfl, rfl⟩ := hG u h1 r σ' h2
  obtain ⟨hx, hb, hr, hml, hown, hts, hlocks, hnm, hK⟩ := C
  obtain ⟨hW, hS, hk1, hk2⟩ := HW
  refine W.widen hm.1 hm.2 ?_
  exact W.aret hx hb (hr.trans ht) (Or.inl ⟨_, rfl⟩) (Or.inl rfl) (fun t ht hWm => ⟨rfl, by rw [ht]; exact hW, hS.F ht, hk2⟩) hS.2.2 hd
end ZR
end
section
/-! THE HEAP OF THE ABSTRACT MACHINE: cells read, written, made -/
def am_ci (σ : am_S) (a : Nat) : Nat := match σ.1[a]? with
  | some (.inl q) => q.1
  | _ => 99
def am_rq (σ : am_S) (a k : Nat) : Option Nat := match σ.1[a]? with
  | some (.inl q) => q.2.getD k none
  | _ => none
/-- how many places an array of a type has -/
def am_an (σ : am_S) (a t : Nat) : Nat := match σ.1[a]? with
  | some (.inr q) => if q.1 = t then q.2 else 0
  | _ => 0
def am_rw (σ : am_S) (a : Nat) : Bool := [2, 3, 5, 6, 7, 9].contains (am_ci σ a)
def am_z {α : Type} (f : Nat → Nat → α) (a : Nat) (v : α) : Nat → Nat → α := fun b => if b = a then (fun _ => v) else f b
/-- one cell more, all 0 -/
def am_nw (σ : am_S) (m : am_M) : am_S := (σ.1 ++ [m], am_z σ.2.1 σ.1.length 0, am_z σ.2.2.1 σ.1.length 0, am_z σ.2.2.2 σ.1.length none)
def am_ob (ms : List am_M) (σ : am_S) (a ci : Nat) : Prop := (∃ refs, ms[a]? = some (.inl (ci, refs))) ∨ ∃ refs, σ.1[a]? = some (.inl (ci, refs))
theorem am_ob.s {ms : List am_M} {σ : am_S} {a ci : Nat} {refs : List (Option Nat)} (h : ms[a]? = some (.inl (ci, refs))) : am_ob ms σ a ci := Or.inl ⟨refs, h⟩
theorem am_ob.d {ms : List am_M} {σ : am_S} {a ci : Nat} (h : am_ci σ a = ci) (h9 : ci ≠ 99) : am_ob ms σ a ci := by
  unfold am_ci at h
  split at h
  · rename_i q e; exact Or.inr ⟨q.2, by rw [e, ← h]⟩
  · exact absurd h.symm h9
theorem am_ob.use {ms : List am_M} {σ : am_S} {a ci : Nat} (h : am_ob ms σ a ci) (hk : am_kp ms σ.1) : ∃ refs, σ.1[a]? = some (.inl (ci, refs)) := by
  rcases h with ⟨refs, h⟩ | h
  · obtain ⟨m', e, hle⟩ := hk a _ h
    cases m' with
    | inl q => exact ⟨q.2, by rw [e]; have : ci = q.1 := hle.1; rw [this]⟩
    | inr q => exact hle.elim
  · exact h
/-- an array: its type, its places -/
def am_ar (ms : List am_M) (σ : am_S) (a t n : Nat) : Prop := ms[a]? = some (.inr (t, n)) ∨ σ.1[a]? = some (.inr (t, n))
theorem am_ar.s {ms : List am_M} {σ : am_S} {a t n : Nat} (h : ms[a]? = some (.inr (t, n))) : am_ar ms σ a t n := Or.inl h
theorem am_ar.d {ms : List am_M} {σ : am_S} {a t : Nat} (h : am_an σ a t ≠ 0) : am_ar ms σ a t (am_an σ a t) := by
  unfold am_an at h ⊢
  split at h
  · rename_i q e
    split at h
    · rename_i ht; right; simp only [e, if_pos ht]; rw [← ht]
    · exact absurd rfl h
  · exact absurd rfl h
theorem am_ar.use {ms : List am_M} {σ : am_S} {a t n : Nat} (h : am_ar ms σ a t n) (hk : am_kp ms σ.1) : σ.1[a]? = some (.inr (t, n)) := by
  rcases h with h | h
  · obtain ⟨m', e, hle⟩ := hk a _ h
    cases m' with
    | inl q => exact hle.elim
    | inr q => have : (t, n) = q := hle; rw [e, this]
  · exact h
theorem am_ad8 {E : am_E} {k : Nat} (h : 8 ≤ k) : am_ad E k = eB E + (k - 8) := if_neg (by omega)
theorem am_W.lt {E : am_E} {σ : am_S} {H : Heap} (hW : am_W E σ H) {a : Nat} {m : am_M} (h8 : 8 ≤ a) (hm : σ.1[a]? = some m) : am_ad E a < H.size := by
  have hl := (List.getElem?_eq_some_iff.mp hm).1
  rw [am_ad8 h8, hW.2.1]; omega
theorem am_W.ge8 {E : am_E} {σ : am_S} {H : Heap} (hW : am_W E σ H) {a : Nat} {m : am_M} (hm : σ.1[a]? = some m) (h9 : m ≠ .inr (9, 0)) : 8 ≤ a := by
  rcases Nat.lt_or_ge a 8 with h | h
  · exact absurd (hW.2.2.2.2 a m h hm) h9
  · exact h
theorem am_at.same {E : am_E} {σ σ' : am_S} {k : Nat} {m : am_M} {H H' : Heap} (h : am_at E σ k m H) (e1 : fF σ' k = fF σ k) (e2 : fG σ' k = fG σ k) (e3 : fQ σ' k = fQ σ k) (hq : H'[am_ad E k]? = H[am_ad E k]?) : am_at E σ' k m H' := by
  cases m with
  | inl q =>
    obtain ⟨ci, refs⟩ := q
    obtain ⟨r, h1, h2⟩ := h
    refine ⟨r, h1, (h2.kept hq).to fun j _ => ?_⟩
    unfold am_V
    rw [e1, e2]
  | inr q =>
    obtain ⟨t, n⟩ := q
    show H'[_]? = some (vp_cell _ _)
    rw [hq]
    have h' : H[am_ad E k]? = some (vp_cell (eA E t) (n, am_arr E σ k t)) := h
    rw [h']
    unfold am_arr
    rw [e1, e2, e3]
theorem am_W.upd {E : am_E} {σ σ' : am_S} {H H' : Heap} (hW : am_W E σ H) (e1 : σ'.1 = σ.1) {a : Nat} (h8 : 8 ≤ a) (hz : H'.size = H.size) (ho : ∀ q : Nat, q ≠ am_ad E a → H'[q]? = H[q]?)
    (hne : ∀ b : Nat, b ≠ a → fF σ' b = fF σ b ∧ fG σ' b = fG σ b ∧ fQ σ' b = fQ σ b) (ha : ∀ m, σ.1[a]? = some m → am_at E σ' a m H') : am_W E σ' H' := by
  refine ⟨by rw [e1]; exact hW.1, by rw [e1, hz]; exact hW.2.1, fun k m hk hm => ?_, fun q hq => ?_, fun k m hk hm => hW.2.2.2.2 k m hk (by rw [← e1]; exact hm)⟩
  · rw [e1] at hm
    by_cases hka : k = a
    · subst hka; exact ha m hm
    · obtain ⟨f1, f2, f3⟩ := hne k hka
      exact (hW.2.2.1 k m hk hm).same f1 f2 f3 (ho _ (by rw [am_ad8 hk, am_ad8 h8]; omega))
  · rw [ho q (by rw [am_ad8 h8]; omega)]
    exact hW.2.2.2.1 q hq
theorem sF_ne {σ : am_S} {a k : Nat} {v : Int32} (b : Nat) (h : b ≠ a) : fF (sF σ a k v) b = fF σ b ∧ fG (sF σ a k v) b = fG σ b ∧ fQ (sF σ a k v) b = fQ σ b := by
  refine ⟨?_, rfl, rfl⟩
  funext j
  show am_up σ.2.1 a k v b j = σ.2.1 b j
  unfold am_up
  rw [if_neg h]
theorem sG_ne {σ : am_S} {a k : Nat} {v : Int64} (b : Nat) (h : b ≠ a) : fF (sG σ a k v) b = fF σ b ∧ fG (sG σ a k v) b = fG σ b ∧ fQ (sG σ a k v) b = fQ σ b := by
  refine ⟨rfl, ?_, rfl⟩
  funext j
  show am_up σ.2.2.1 a k v b j = σ.2.2.1 b j
  unfold am_up
  rw [if_neg h]
theorem sQ_ne {σ : am_S} {a k : Nat} {v : Option Nat} (b : Nat) (h : b ≠ a) : fF (sQ σ a k v) b = fF σ b ∧ fG (sQ σ a k v) b = fG σ b ∧ fQ (sQ σ a k v) b = fQ σ b := by
  refine ⟨rfl, rfl, ?_⟩
  funext j
  show am_up σ.2.2.2 a k v b j = σ.2.2.2 b j
  unfold am_up
  rw [if_neg h]
theorem fF_sF (σ : am_S) (a k : Nat) (v : Int32) (b j : Nat) : fF (sF σ a k v) b j = if b = a ∧ j = k then v else fF σ b j := by
  show am_up σ.2.1 a k v b j = _
  unfold am_up
  by_cases h : b = a
  · subst h
    by_cases h2 : j = k
    · subst h2; simp
    · simp [h2, fF]
  · simp [h, fF]
theorem fG_sG (σ : am_S) (a k : Nat) (v : Int64) (b j : Nat) : fG (sG σ a k v) b j = if b = a ∧ j = k then v else fG σ b j := by
  show am_up σ.2.2.1 a k v b j = _
  unfold am_up
  by_cases h : b = a
  · subst h
    by_cases h2 : j = k
    · subst h2; simp
    · simp [h2, fG]
  · simp [h, fG]
theorem fQ_sQ (σ : am_S) (a k : Nat) (v : Option Nat) (b j : Nat) : fQ (sQ σ a k v) b j = if b = a ∧ j = k then v else fQ σ b j := by
  show am_up σ.2.2.2 a k v b j = _
  unfold am_up
  by_cases h : b = a
  · subst h
    by_cases h2 : j = k
    · subst h2; simp
    · simp [h2, fQ]
  · simp [h, fQ]
-- classes: their words, their fields' types, their names apart
def am_okT (ty : FieldType) : Bool := match ty with
  | .float => false
  | .double => false
  | _ => true
def am_clsOk (ci : Nat) (q : vw_C) : Prop := (∀ w ∈ u_ws q.1 q.2.1 q.2.2, w ∈ am_gt) ∧ (∀ k, k < q.2.2 → parseFieldDescriptor (q.2.1 k).2.2.1 = some (am_ty ci k)) ∧ (∀ a, a < q.2.2 → ∀ b, b < q.2.2 → a ≠ b → (q.2.1 a).2.1 ≠ (q.2.1 b).2.1) ∧ ∀ k, k < q.2.2 → am_okT (am_ty ci k) = true
end
section
theorem am_in_r {ws : List Cond} (ps : List Nat) (hp : ws = ps.filterMap (fun i => lw_tbl[i]?)) (h : ws.all goodWord = true) : ∀ w ∈ ws, w ∈ am_gt := by
  intro w hw
  have h1 := List.all_eq_true.mp h w hw
  rw [hp] at hw
  obtain ⟨i, -, hi⟩ := List.mem_filterMap.mp hw
  exact am_gt_in (List.mem_of_getElem? hi) h1
theorem am_cls0 : am_clsOk 0 (RX0, TX0, 6) := ⟨am_in_r [160, 162, 164, 166, 168, 170] (by decide +kernel) (by decide +kernel), tyX0_ok, nmX0, by decide +kernel⟩
theorem am_cls1 : am_clsOk 1 (RX1, TX1, 6) := ⟨am_in_r [471, 473, 475, 477, 479, 481] (by decide +kernel) (by decide +kernel), tyX1_ok, nmX1, by decide +kernel⟩
theorem am_cls2 : am_clsOk 2 (RX2, TX2, 9) := ⟨am_in_r [623, 624, 625, 626, 627, 628, 629, 630, 631] (by decide +kernel) (by decide +kernel), tyX2_ok, nmX2, by decide +kernel⟩
theorem am_cls3 : am_clsOk 3 (RX3, TX3, 9) := ⟨am_in_r [550, 552, 554, 556, 558, 560, 562, 564, 566] (by decide +kernel) (by decide +kernel), tyX3_ok, nmX3, by decide +kernel⟩
theorem am_cls4 : am_clsOk 4 (RX4, TX4, 4) := ⟨am_in_r [184, 186, 188, 190] (by decide +kernel) (by decide +kernel), tyX4_ok, nmX4, by decide +kernel⟩
theorem am_cls5 : am_clsOk 5 (RX5, TX5, 9) := ⟨am_in_r [591, 592, 593, 594, 595, 596, 597, 598, 599] (by decide +kernel) (by decide +kernel), tyX5_ok, nmX5, by decide +kernel⟩
theorem am_cls6 : am_clsOk 6 (RX6, TX6, 9) := ⟨am_in_r [575, 576, 577, 578, 579, 580, 581, 582, 583] (by decide +kernel) (by decide +kernel), tyX6_ok, nmX6, by decide +kernel⟩
theorem am_cls7 : am_clsOk 7 (RX7, TX7, 9) := ⟨am_in_r [635, 636, 637, 638, 639, 640, 641, 642, 643] (by decide +kernel) (by decide +kernel), tyX7_ok, nmX7, by decide +kernel⟩
theorem am_cls8 : am_clsOk 8 (RX8, TX8, 3) := ⟨am_in_r [207, 209, 211] (by decide +kernel) (by decide +kernel), tyX8_ok, nmX8, by decide +kernel⟩
theorem am_cls9 : am_clsOk 9 (RX9, TX9, 9) := ⟨am_in_r [607, 608, 609, 610, 611, 612, 613, 614, 615] (by decide +kernel) (by decide +kernel), tyX9_ok, nmX9, by decide +kernel⟩
theorem am_cls10 : am_clsOk 10 (RX10, TX10, 13) := ⟨am_in_r [119, 121, 123, 125, 127, 129, 131, 133, 135, 137, 139, 141, 143] (by decide +kernel) (by decide +kernel), tyX10_ok, nmX10, by decide +kernel⟩
theorem am_cls11 : am_clsOk 11 (RX11, TX11, 18) := ⟨am_in_r [408, 410, 412, 414, 416, 418, 420, 422, 424, 426, 428, 430, 432, 434, 436, 438, 440, 442] (by decide +kernel) (by decide +kernel), tyX11_ok, nmX11, by decide +kernel⟩
theorem am_cls12 : am_clsOk 12 (RX12, TX12, 58) := ⟨am_in_r [1164, 1166, 1168, 1170, 1172, 1174, 1176, 1178, 1180, 1182, 1184, 1186, 1188, 1190, 1192, 1194, 1196, 1198, 1200, 1202, 1204, 1206, 1208, 1210, 1212, 1214, 1216, 1218, 1220, 1222, 1224, 1226, 1228, 1230, 1232, 1234, 1236, 1238, 1240, 1242, 1244, 1246, 1248, 1250, 1252, 1254, 1256, 1258, 1260, 1262, 1264, 1266, 1268, 1270, 1272, 1274, 1276, 1278] (by decide +kernel) (by decide +kernel), tyX12_ok, nmX12, by decide +kernel⟩
theorem am_cls_ok : ∀ (ci : Nat) (q : vw_C), am_cls[ci]? = some q → am_clsOk ci q := by
  intro ci q h
  match ci, h with
  | 0, h => cases h; exact am_cls0
  | 1, h => cases h; exact am_cls1
  | 2, h => cases h; exact am_cls2
  | 3, h => cases h; exact am_cls3
  | 4, h => cases h; exact am_cls4
  | 5, h => cases h; exact am_cls5
  | 6, h => cases h; exact am_cls6
  | 7, h => cases h; exact am_cls7
  | 8, h => cases h; exact am_cls8
  | 9, h => cases h; exact am_cls9
  | 10, h => cases h; exact am_cls10
  | 11, h => cases h; exact am_cls11
  | 12, h => cases h; exact am_cls12
  | k + 13, h => simp [am_cls] at h
end
section
/-! RULES OF Z: the heap -/
/-- what a field reference means in a class -/
def am_fr (own : String) (idx ci k : Nat) : Prop := ∃ (q : vw_C) (ref : String), am_cls[ci]? = some q ∧ k < q.2.2 ∧ Cond.fieldLink own idx ref (q.2.1 k).2.1 (q.2.1 k).2.2.1 ∈ am_gt ∧ (ref = (q.2.1 k).1 ∨ Cond.sameField ref (q.2.1 k).1 (q.2.1 k).2.1 (q.2.1 k).2.2.1 ∈ am_gt)
/-- and that it isn't final -/
def am_fw (own : String) (idx ci k : Nat) : Prop := am_fr own idx ci k ∧ ∀ q, am_cls[ci]? = some q → (q.2.1 k).2.2.2 = false
/-- or final, in its own constructor -/
def am_fi (own : String) (idx ci k : Nat) : Prop := am_fr own idx ci k ∧ ∀ q, am_cls[ci]? = some q → (q.2.1 k).2.2.2 = true ∧ (q.2.1 k).1 = own
theorem am_same_of {own ref : String} {q : vw_C} {k : Nat} {args : Array Value} {s : State} (hts : ∀ w ∈ am_gt, w.before args s = true) (h : ref = (q.2.1 k).1 ∨ Cond.sameField ref (q.2.1 k).1 (q.2.1 k).2.1 (q.2.1 k).2.2.1 ∈ am_gt) :
    ∀ x, s.fieldFound? (q.2.1 k).1 (q.2.1 k).2.1 (q.2.1 k).2.2.1 = some x → s.fieldFound? ref (q.2.1 k).2.1 (q.2.1 k).2.2.1 = some x := by
  rcases h with rfl | h
  · exact fun _ h => h
  · exact u_same (hts _ h)
section ZH
variable {U : Type} {l : Launch} {E : am_E} {ms : List am_M} {σ0 : am_S} {Y : am_Y} {d mc sl pc cu su : Nat} {lv : List (Nat × Value)} {st : List Value} {σ : am_S} {code A B : Option U} {G : U → Option Value → am_S → Prop}
theorem z_getV {a idx ci k : Nat} {w : Value} (hd : decode Y.2.1 pc = .ok (.getfield idx, 3)) (hm : am_ob ms σ a ci) (hf : am_fr Y.1.cls idx ci k) (hw : ∀ refs, σ.1[a]? = some (.inl (ci, refs)) → am_V E σ a ci refs k = am_tv E w)
    (kk : Z l E ms σ0 Y d mc sl (pc + 3) lv (w :: st) cu su σ code G) : Z l E ms σ0 Y d mc sl pc lv (.ref a :: st) cu su σ code G := by
  intro u r σ' h1 h2 p e s m args below meth c H locs ls C HW hl
  obtain ⟨refs, hr⟩ := hm.use HW.2.2.1
  obtain ⟨q, ref, hc, hk, hlink, hsame⟩ := hf
  have h8 := HW.1.ge8 hr (by intro h; cases h)
  obtain ⟨q', hc', cell, q1, q2, q3, q4⟩ := HW.1.2.2.1 a _ h8 hr
  cases hc.symm.trans hc'
  obtain ⟨hin, hty, hnm, hok⟩ := am_cls_ok ci q hc
  have hts := C.2.2.2.2.2.1
  obtain ⟨hS, hfc, kC, hkC, hkind⟩ := C.2.2.2.2.2.2.2.2.1.1 ci _ hc
  obtain ⟨cf, kf, fi, f, hi, hsl⟩ := hS k hk
  refine W.getf C.1 C.2.1 C.2.2.2.2.1 (hts _ hlink) (am_same_of (own := q.1) hts hsame _ hi) (u_facts hfc hkC (u_lays hts hin hk) hi).1 q1 (by rw [q3]; exact fun h => by cases h) (v := am_tv E w) ?_ rfl rfl hd (kk u r σ' h1 h2 p e s m args below meth c H locs ls C HW hl)
  rw [hsl, q4 k hk, hw refs hr]
theorem z_getI {a idx ci k : Nat} (hd : decode Y.2.1 pc = .ok (.getfield idx, 3)) (hm : am_ob ms σ a ci) (hf : am_fr Y.1.cls idx ci k) (hk : am_kd (am_ty ci k) = 0)
    (kk : Z l E ms σ0 Y d mc sl (pc + 3) lv (.int (fF σ a k) :: st) cu su σ code G) : Z l E ms σ0 Y d mc sl pc lv (.ref a :: st) cu su σ code G :=
  z_getV hd hm hf (fun refs _ => by unfold am_V; rw [if_pos hk]; rfl) kk
theorem z_getL {a idx ci k : Nat} (hd : decode Y.2.1 pc = .ok (.getfield idx, 3)) (hm : am_ob ms σ a ci) (hf : am_fr Y.1.cls idx ci k) (hk : am_kd (am_ty ci k) = 1)
    (kk : Z l E ms σ0 Y d mc sl (pc + 3) lv (.long (fG σ a k) :: st) cu su σ code G) : Z l E ms σ0 Y d mc sl pc lv (.ref a :: st) cu su σ code G :=
  z_getV hd hm hf (fun refs _ => by unfold am_V; rw [if_neg (by rw [hk]; decide), if_pos hk]; rfl) kk
/-- a reference that is known -/
theorem z_getQ {a b idx ci k : Nat} {refs : List (Option Nat)} (hd : decode Y.2.1 pc = .ok (.getfield idx, 3)) (hm : ms[a]? = some (.inl (ci, refs))) (hf : am_fr Y.1.cls idx ci k) (hk : am_kd (am_ty ci k) = 2) (hb : refs.getD k none = some b)
    (kk : Z l E ms σ0 Y d mc sl (pc + 3) lv (.ref b :: st) cu su σ code G) : Z l E ms σ0 Y d mc sl pc lv (.ref a :: st) cu su σ code G := by
  intro u r σ' h1 h2 p e s m args below meth c H locs ls C HW hl
  obtain ⟨m', e1, hle⟩ := HW.2.2.1 a _ hm
  refine z_getV hd (am_ob.s hm) hf (w := .ref b) (fun refs' hr' => ?_) kk u r σ' h1 h2 p e s m args below meth c H locs ls C HW hl
  cases e1.symm.trans hr'
  unfold am_V
  rw [if_neg (by rw [hk]; decide), if_neg (by rw [hk]; decide), hle.2 k b hb]; rfl
/-- a reference that isn't -/
theorem z_getR {a idx ci k : Nat} (hd : decode Y.2.1 pc = .ok (.getfield idx, 3)) (hm : am_ob ms σ a ci) (hf : am_fr Y.1.cls idx ci k) (hk : am_kd (am_ty ci k) = 2)
    (kk : Z l E ms σ0 Y d mc sl (pc + 3) lv (va_rf (am_rq σ a k) :: st) cu su σ code G) : Z l E ms σ0 Y d mc sl pc lv (.ref a :: st) cu su σ code G :=
  z_getV hd hm hf (fun refs hr => by
    unfold am_V
    rw [if_neg (by rw [hk]; decide), if_neg (by rw [hk]; decide), am_tv_rf]
    unfold am_rq
    rw [hr]) kk
/-- a pooled object: its class is one of several -/
theorem z_getIp {a idx k : Nat} (cis : List Nat) (hd : decode Y.2.1 pc = .ok (.getfield idx, 3)) (hm : cis.contains (am_ci σ a) = true) (h9 : cis.contains 99 = false) (hf : ∀ ci ∈ cis, am_fr Y.1.cls idx ci k ∧ am_kd (am_ty ci k) = 0)
    (kk : Z l E ms σ0 Y d mc sl (pc + 3) lv (.int (fF σ a k) :: st) cu su σ code G) : Z l E ms σ0 Y d mc sl pc lv (.ref a :: st) cu su σ code G := by
  have hmem : am_ci σ a ∈ cis := by simpa using hm
  exact z_getI hd (am_ob.d rfl (fun h => by rw [h] at hm; rw [hm] at h9; cases h9)) (hf _ hmem).1 (hf _ hmem).2 kk
theorem am_putAt {args : Array Value} {s : State} {H' : Heap} {a ci k : Nat} {refs refs' : List (Option Nat)} {q : vw_C} {σ' : am_S} {cell : Cell} {w : Value} (hcq : am_cls[ci]? = some q) (hk : k < q.2.2)
    (hts : ∀ w ∈ am_gt, w.before args s = true) (hK : am_K E s) (q2 : cell.cls = (eD E).1 ci) (q3 : cell.vm = .none) (q4 : ∀ j, j < q.2.2 → cell.slots[(eD E).2 ci j]? = some (am_V E σ a ci refs j))
    (e1 : H'[am_ad E a]? = some (cell.setSlot ((eD E).2 ci k) w)) (hV : ∀ j, j < q.2.2 → updV (am_V E σ a ci refs) k w j = am_V E σ' a ci refs' j) : am_at E σ' a (.inl (ci, refs')) H' := by
  obtain ⟨hin, hty, hnm, hok⟩ := am_cls_ok ci q hcq
  have hap := va_apart (own := q.1) (C := q.1) (T := q.2.1) (N := q.2.2) hts hin (am_ty ci) hty hnm hK.1 hcq
  exact ⟨q, hcq, t_OB.to (V := updV (am_V E σ a ci refs) k w) ⟨_, e1, q2, q3, t_set q4 hap hk w⟩ hV⟩
/-- a store into a field that isn't final -/
theorem z_putV {a idx ci k : Nat} {w : Value} {σ1 : am_S} (hd : decode Y.2.1 pc = .ok (.putfield idx, 3)) (hm : am_ob ms σ a ci) (hf : am_fw Y.1.cls idx ci k) (hn : narrow (am_ty ci k) (am_tv E w) = am_tv E w) (hfit : fits (am_ty ci k) (am_tv E w) = true) (e1 : σ1.1 = σ.1)
    (hne : ∀ b : Nat, b ≠ a → fF σ1 b = fF σ b ∧ fG σ1 b = fG σ b ∧ fQ σ1 b = fQ σ b) (hV : ∀ (refs : List (Option Nat)) (q : vw_C), σ.1[a]? = some (.inl (ci, refs)) → am_cls[ci]? = some q → ∀ j, j < q.2.2 → updV (am_V E σ a ci refs) k (am_tv E w) j = am_V E σ1 a ci refs j)
    (kk : Z l E ms σ0 Y d mc sl (pc + 3) lv st cu su σ1 code G) : Z l E ms σ0 Y d mc sl pc lv (w :: .ref a :: st) cu su σ code G := by
  intro u r σ' h1 h2 p e s m args below meth c H locs ls C HW hl
  obtain ⟨refs, hr⟩ := hm.use HW.2.2.1
  obtain ⟨⟨q, ref, hc, hk, hlink, hsame⟩, hnf⟩ := hf
  have h8 := HW.1.ge8 hr (by intro h; cases h)
  obtain ⟨q', hc', cell, q1, q2, q3, q4⟩ := HW.1.2.2.1 a _ h8 hr
  cases hc.symm.trans hc'
  obtain ⟨hin, hty, hnm, hok⟩ := am_cls_ok ci q hc
  have hts := C.2.2.2.2.2.1
  have hK := C.2.2.2.2.2.2.2.2
  obtain ⟨hS, hfc, kC, hkC, hkind⟩ := hK.1.1 ci _ hc
  obtain ⟨cf, kf, fi, f, hi, hsl⟩ := hS k hk
  have hlay := hts _ (hin _ (u_in_lay hk))
  unfold u_lay at hlay
  rw [if_neg (by rw [hnf q hc]; decide)] at hlay
  have hst := (u_facts hfc hkC (u_lays hts hin hk) hi).1
  have h6 := u_store hfc hkC hkind hlay hi (hty k hk) hn hfit
  refine W.putK C.1 C.2.1 (f := f) ⟨C.2.2.2.2.1, hts _ hlink, ⟨_, _, _, am_same_of (own := q.1) hts hsame _ hi⟩, hst⟩ (by rw [q2]; exact h6) q1 q3 (by rw [hsl]; exact k2_hasslot (q4 k hk)) rfl rfl hd fun H' e3 e4 e5 => ?_
  rw [hsl] at e3
  have hat : am_at E σ1 a (.inl (ci, refs)) H' := am_putAt hc hk hts hK q2 q3 q4 e3 (hV refs q hr hc)
  have hW' : am_W E σ1 H' := HW.1.upd e1 h8 e4 e5 hne (fun m hm => by cases hr.symm.trans hm; exact hat)
  exact kk u r σ' h1 h2 p e s m args below meth c H' _ ls C ⟨hW', HW.2.1.put e4 e5 (by show eB E ≤ am_ad E a; rw [am_ad8 h8]; omega), by rw [e1]; exact HW.2.2.1, by rw [e1]; exact HW.2.2.2⟩ hl
theorem am_V_sF {a ci k : Nat} {refs : List (Option Nat)} {v : Int32} (hk : am_kd (am_ty ci k) = 0) (j : Nat) : updV (am_V E σ a ci refs) k (.int v) j = am_V E (sF σ a k v) a ci refs j := by
  unfold updV am_V
  rw [fF_sF]
  by_cases hj : j = k
  · subst hj
    rw [if_pos rfl, if_pos hk, if_pos ⟨rfl, rfl⟩]
  · have e : (if a = a ∧ j = k then v else fF σ a j) = fF σ a j := if_neg (fun h => hj h.2)
    rw [if_neg hj, e]; rfl
theorem am_V_sG {a ci k : Nat} {refs : List (Option Nat)} {v : Int64} (hk : am_kd (am_ty ci k) = 1) (j : Nat) : updV (am_V E σ a ci refs) k (.long v) j = am_V E (sG σ a k v) a ci refs j := by
  unfold updV am_V
  rw [fG_sG]
  by_cases hj : j = k
  · subst hj
    rw [if_pos rfl, if_neg (by rw [hk]; decide), if_pos hk, if_pos ⟨rfl, rfl⟩]
  · have e : (if a = a ∧ j = k then v else fG σ a j) = fG σ a j := if_neg (fun h => hj h.2)
    rw [if_neg hj, e]; rfl
theorem am_kd0 {ty : FieldType} (h : ty = .int) : am_kd ty = 0 := by rw [h]; rfl
theorem z_putI {a idx ci k : Nat} {v : Int32} (hd : decode Y.2.1 pc = .ok (.putfield idx, 3)) (hm : am_ob ms σ a ci) (hf : am_fw Y.1.cls idx ci k) (ht : am_ty ci k = .int)
    (kk : Z l E ms σ0 Y d mc sl (pc + 3) lv st cu su (sF σ a k v) code G) : Z l E ms σ0 Y d mc sl pc lv (.int v :: .ref a :: st) cu su σ code G :=
  z_putV (σ1 := sF σ a k v) hd hm hf (by rw [ht]; rfl) (by rw [ht]; rfl) rfl sF_ne (fun _ _ _ _ j _ => am_V_sF (am_kd0 ht) j) kk
theorem z_putZ {a idx ci k : Nat} {v : Int32} (hd : decode Y.2.1 pc = .ok (.putfield idx, 3)) (hm : am_ob ms σ a ci) (hf : am_fw Y.1.cls idx ci k) (ht : am_ty ci k = .boolean) (hv : narrow .boolean (.int v) = .int v ∧ fits .boolean (.int v) = true)
    (kk : Z l E ms σ0 Y d mc sl (pc + 3) lv st cu su (sF σ a k v) code G) : Z l E ms σ0 Y d mc sl pc lv (.int v :: .ref a :: st) cu su σ code G :=
  z_putV (σ1 := sF σ a k v) hd hm hf (by rw [ht]; exact hv.1) (by rw [ht]; exact hv.2) rfl sF_ne (fun _ _ _ _ j _ => am_V_sF (by rw [ht]; rfl) j) kk
theorem z_putL {a idx ci k : Nat} {v : Int64} (hd : decode Y.2.1 pc = .ok (.putfield idx, 3)) (hm : am_ob ms σ a ci) (hf : am_fw Y.1.cls idx ci k) (ht : am_ty ci k = .long)
    (kk : Z l E ms σ0 Y d mc sl (pc + 3) lv st cu su (sG σ a k v) code G) : Z l E ms σ0 Y d mc sl pc lv (.long v :: .ref a :: st) cu su σ code G :=
  z_putV (σ1 := sG σ a k v) hd hm hf (by rw [ht]; rfl) (by rw [ht]; rfl) rfl sG_ne (fun _ _ _ _ j _ => am_V_sG (by rw [ht]; rfl) j) kk
/-- a pooled object's field that isn't final -/
theorem z_putIp {a idx k : Nat} {v : Int32} (cis : List Nat) (hd : decode Y.2.1 pc = .ok (.putfield idx, 3)) (hm : cis.contains (am_ci σ a) = true) (h9 : cis.contains 99 = false) (hf : ∀ ci ∈ cis, am_fw Y.1.cls idx ci k ∧ am_ty ci k = .int)
    (kk : Z l E ms σ0 Y d mc sl (pc + 3) lv st cu su (sF σ a k v) code G) : Z l E ms σ0 Y d mc sl pc lv (.int v :: .ref a :: st) cu su σ code G := by
  have hmem : am_ci σ a ∈ cis := by simpa using hm
  exact z_putI hd (am_ob.d rfl (fun h => by rw [h] at hm; rw [hm] at h9; cases h9)) (hf _ hmem).1 (hf _ hmem).2 kk
-- arrays
theorem am_K.arr {s : State} (hK : am_K E s) {t : Nat} (ht : t < 7) : ArrOfT s (eA E t) (am_aty t) ∧ va_RA s (eA E t) (am_aty t) :=
  hK.1.2 t (eA E t, am_aty t) (by unfold am_tys; rw [List.getElem?_map, List.getElem?_range ht]; rfl)
theorem am_at_I {a t n : Nat} {H : Heap} (ht : t = 0 ∨ t = 2 ∨ t = 3) (h : am_at E σ a (.inr (t, n)) H) : H[am_ad E a]? = some (arrV (eA E t) n (fun j => .int (fF σ a j))) := by
  rcases ht with rfl | rfl | rfl <;> exact h
theorem am_at_L {a n : Nat} {H : Heap} (h : am_at E σ a (.inr (1, n)) H) : H[am_ad E a]? = some (arrV (eA E 1) n (fun j => .long (fG σ a j))) := h
theorem am_at_Q {a t n : Nat} {H : Heap} (ht : 4 ≤ t) (h : am_at E σ a (.inr (t, n)) H) : H[am_ad E a]? = some (arrV (eA E t) n (fun j => va_rf ((fQ σ a j).map (am_ad E)))) := by
  have h' : H[am_ad E a]? = some (vp_cell (eA E t) (n, am_arr E σ a t)) := h
  rw [h']
  unfold am_arr
  rw [if_neg (by omega), if_pos ht]; rfl
theorem am_ar.t9 {a t n : Nat} {H : Heap} (hW : am_W E σ H) (hr : σ.1[a]? = some (.inr (t, n))) (ht : t < 7) : 8 ≤ a := hW.ge8 hr (by intro h; cases h; omega)
theorem am_vpin {i : Int32} {n : Nat} (h : am_in i n = true) : ¬ (i < 0 ∨ n ≤ i.toNatClampNeg) ∧ i.toNatClampNeg < n := ⟨am_in_vp h, Nat.not_le.mp fun q => am_in_vp h (Or.inr q)⟩
theorem z_iald {a n : Nat} {i : Int32} (hd : decode Y.2.1 pc = .ok (.iaload, 1)) (hm : am_ar ms σ a 0 n) (kk : am_in i n = true → Z l E ms σ0 Y d mc sl (pc + 1) lv (.int (fF σ a i.toNatClampNeg) :: st) cu su σ A G) : Z l E ms σ0 Y d mc sl pc lv (.int i :: .ref a :: st) cu su σ (if am_in i n = true then A else none) G := by
  refine z_guard fun hin => ?_
  intro u r σ' h1 h2 p e s m args below meth c H locs ls C HW hl
  have hr := hm.use HW.2.2.1
  have hc := am_at_I (Or.inl rfl) (HW.1.2.2.1 a _ (am_ar.t9 HW.1 hr (by decide)) hr)
  obtain ⟨g1, g2⟩ := am_vpin hin
  exact W.iald (v := .int (fF σ a i.toNatClampNeg)) C.1 C.2.1 hc ((C.2.2.2.2.2.2.2.2.arr (t := 0) (by decide)).1 n _) (fun q => by cases q) (by rw [arrV_size]; exact g1) (by rw [arrV_read _ _ g2]) rfl rfl hd (kk hin u r σ' h1 h2 p e s m args below meth c H locs ls C HW hl)
theorem z_bald {a n : Nat} {i : Int32} (hd : decode Y.2.1 pc = .ok (.baload, 1)) (hm : am_ar ms σ a 2 n) (kk : am_in i n = true → Z l E ms σ0 Y d mc sl (pc + 1) lv (.int (fF σ a i.toNatClampNeg) :: st) cu su σ A G) : Z l E ms σ0 Y d mc sl pc lv (.int i :: .ref a :: st) cu su σ (if am_in i n = true then A else none) G := by
  refine z_guard fun hin => ?_
  intro u r σ' h1 h2 p e s m args below meth c H locs ls C HW hl
  have hr := hm.use HW.2.2.1
  have hc := am_at_I (Or.inr (Or.inl rfl)) (HW.1.2.2.1 a _ (am_ar.t9 HW.1 hr (by decide)) hr)
  obtain ⟨g1, g2⟩ := am_vpin hin
  exact W.bald (v := .int (fF σ a i.toNatClampNeg)) C.1 C.2.1 hc ((C.2.2.2.2.2.2.2.2.arr (t := 2) (by decide)).1 n _) (fun q => by cases q) (by rw [arrV_size]; exact g1) (by rw [arrV_read _ _ g2]) rfl rfl hd (kk hin u r σ' h1 h2 p e s m args below meth c H locs ls C HW hl)
theorem z_zald {a n : Nat} {i : Int32} (hd : decode Y.2.1 pc = .ok (.baload, 1)) (hm : am_ar ms σ a 3 n) (kk : am_in i n = true → Z l E ms σ0 Y d mc sl (pc + 1) lv (.int (fF σ a i.toNatClampNeg) :: st) cu su σ A G) : Z l E ms σ0 Y d mc sl pc lv (.int i :: .ref a :: st) cu su σ (if am_in i n = true then A else none) G := by
  refine z_guard fun hin => ?_
  intro u r σ' h1 h2 p e s m args below meth c H locs ls C HW hl
  have hr := hm.use HW.2.2.1
  have hc := am_at_I (Or.inr (Or.inr rfl)) (HW.1.2.2.1 a _ (am_ar.t9 HW.1 hr (by decide)) hr)
  obtain ⟨g1, g2⟩ := am_vpin hin
  exact W.zald (v := .int (fF σ a i.toNatClampNeg)) C.1 C.2.1 hc ((C.2.2.2.2.2.2.2.2.arr (t := 3) (by decide)).1 n _) (fun q => by cases q) (by rw [arrV_size]; exact g1) (by rw [arrV_read _ _ g2]) rfl rfl hd (kk hin u r σ' h1 h2 p e s m args below meth c H locs ls C HW hl)
theorem z_lald {a n : Nat} {i : Int32} (hd : decode Y.2.1 pc = .ok (.laload, 1)) (hm : am_ar ms σ a 1 n) (kk : am_in i n = true → Z l E ms σ0 Y d mc sl (pc + 1) lv (.long (fG σ a i.toNatClampNeg) :: st) cu su σ A G) : Z l E ms σ0 Y d mc sl pc lv (.int i :: .ref a :: st) cu su σ (if am_in i n = true then A else none) G := by
  refine z_guard fun hin => ?_
  intro u r σ' h1 h2 p e s m args below meth c H locs ls C HW hl
  have hr := hm.use HW.2.2.1
  have hc := am_at_L (HW.1.2.2.1 a _ (am_ar.t9 HW.1 hr (by decide)) hr)
  obtain ⟨g1, g2⟩ := am_vpin hin
  exact W.lald (v := .long (fG σ a i.toNatClampNeg)) C.1 C.2.1 hc ((C.2.2.2.2.2.2.2.2.arr (t := 1) (by decide)).1 n _) (fun q => by cases q) (by rw [arrV_size]; exact g1) (by rw [arrV_read _ _ g2]) rfl rfl hd (kk hin u r σ' h1 h2 p e s m args below meth c H locs ls C HW hl)
theorem z_qald {a n t : Nat} {i : Int32} (hd : decode Y.2.1 pc = .ok (.aaload, 1)) (ht : 4 ≤ t ∧ t < 7) (hm : am_ar ms σ a t n) (kk : am_in i n = true → Z l E ms σ0 Y d mc sl (pc + 1) lv (va_rf (fQ σ a i.toNatClampNeg) :: st) cu su σ A G) : Z l E ms σ0 Y d mc sl pc lv (.int i :: .ref a :: st) cu su σ (if am_in i n = true then A else none) G := by
  refine z_guard fun hin => ?_
  intro u r σ' h1 h2 p e s m args below meth c H locs ls C HW hl
  have hr := hm.use HW.2.2.1
  have hc := am_at_Q ht.1 (HW.1.2.2.1 a _ (am_ar.t9 HW.1 hr ht.2) hr)
  obtain ⟨g1, g2⟩ := am_vpin hin
  refine W.aald (v := am_tv E (va_rf (fQ σ a i.toNatClampNeg))) (ty := am_aty t) C.1 C.2.1 hc ((C.2.2.2.2.2.2.2.2.arr ht.2).1 n _) ?_ (fun q => by cases q) (by rw [arrV_size]; exact g1) (by rw [arrV_read _ _ g2, am_tv_rf]) rfl rfl hd (kk hin u r σ' h1 h2 p e s m args below meth c H locs ls C HW hl)
  obtain ⟨C', e', -⟩ := C.2.2.2.2.2.2.2.2.2.2.2 t ht.1 ht.2
  rw [e']; rfl
theorem am_arr_put {H H' : Heap} {a t n : Nat} {σ1 : am_S} {k : Nat} {w : Value} {f g : Nat → Value} (hc : H[am_ad E a]? = some (arrV (eA E t) n f)) (e : H'[am_ad E a]? = some ((arrV (eA E t) n f).setSlot k w)) (hg : updV f k w = g) (hat : vp_cell (eA E t) (n, am_arr E σ1 a t) = arrV (eA E t) n g) : am_at E σ1 a (.inr (t, n)) H' := by
  show H'[am_ad E a]? = some _
  rw [e, arrV_store, hg, hat]
theorem am_stF {a t n : Nat} {H H' : Heap} {v : Int32} {k : Nat} (ht : t = 0 ∨ t = 2 ∨ t = 3) (hc : H[am_ad E a]? = some (arrV (eA E t) n (fun j => .int (fF σ a j)))) (e : H'[am_ad E a]? = some ((arrV (eA E t) n (fun j => .int (fF σ a j))).setSlot k (.int v))) : am_at E (sF σ a k v) a (.inr (t, n)) H' := by
  refine am_arr_put (g := fun j => .int (fF (sF σ a k v) a j)) hc e ?_ ?_
  · funext j
    unfold updV
    rw [fF_sF]
    by_cases hj : j = k
    · simp [hj]
    · simp [hj]
  · rcases ht with rfl | rfl | rfl <;> rfl
theorem z_iast {a n : Nat} {i v : Int32} (hd : decode Y.2.1 pc = .ok (.iastore, 1)) (hm : am_ar ms σ a 0 n) (kk : am_in i n = true → Z l E ms σ0 Y d mc sl (pc + 1) lv st cu su (sF σ a i.toNatClampNeg v) A G) : Z l E ms σ0 Y d mc sl pc lv (.int v :: .int i :: .ref a :: st) cu su σ (if am_in i n = true then A else none) G := by
  refine z_guard fun hin => ?_
  intro u r σ' h1 h2 p e s m args below meth c H locs ls C HW hl
  have hr := hm.use HW.2.2.1
  have h8 := am_ar.t9 HW.1 hr (by decide)
  have hc := am_at_I (Or.inl rfl) (HW.1.2.2.1 a _ h8 hr)
  obtain ⟨g1, g2⟩ := am_vpin hin
  refine W.iast C.1 C.2.1 hc ((C.2.2.2.2.2.2.2.2.arr (t := 0) (by decide)).1 n _) (fun q => by cases q) (by rw [arrV_size]; exact g1) rfl rfl hd fun H' e3 e4 e5 => ?_
  have hW' : am_W E (sF σ a i.toNatClampNeg v) H' := HW.1.upd rfl h8 e4 e5 sF_ne (fun m hm' => by cases hr.symm.trans hm'; exact am_stF (Or.inl rfl) hc e3)
  exact kk hin u r σ' h1 h2 p e s m args below meth c H' _ ls C ⟨hW', HW.2.1.put e4 e5 (by show eB E ≤ am_ad E a; rw [am_ad8 h8]; omega), HW.2.2.1, HW.2.2.2⟩ hl
theorem z_bast {a n : Nat} {i v : Int32} (hd : decode Y.2.1 pc = .ok (.bastore, 1)) (hm : am_ar ms σ a 2 n) (kk : am_in i n = true → Z l E ms σ0 Y d mc sl (pc + 1) lv st cu su (sF σ a i.toNatClampNeg v.toInt8.toInt32) A G) : Z l E ms σ0 Y d mc sl pc lv (.int v :: .int i :: .ref a :: st) cu su σ (if am_in i n = true then A else none) G := by
  refine z_guard fun hin => ?_
  intro u r σ' h1 h2 p e s m args below meth c H locs ls C HW hl
  have hr := hm.use HW.2.2.1
  have h8 := am_ar.t9 HW.1 hr (by decide)
  have hc := am_at_I (Or.inr (Or.inl rfl)) (HW.1.2.2.1 a _ h8 hr)
  obtain ⟨g1, g2⟩ := am_vpin hin
  refine W.bast C.1 C.2.1 hc ((C.2.2.2.2.2.2.2.2.arr (t := 2) (by decide)).1 n _) (fun q => by cases q) (by rw [arrV_size]; exact g1) rfl rfl hd fun H' e3 e4 e5 => ?_
  have hW' : am_W E (sF σ a i.toNatClampNeg v.toInt8.toInt32) H' := HW.1.upd rfl h8 e4 e5 sF_ne (fun m hm' => by cases hr.symm.trans hm'; exact am_stF (Or.inr (Or.inl rfl)) hc e3)
  exact kk hin u r σ' h1 h2 p e s m args below meth c H' _ ls C ⟨hW', HW.2.1.put e4 e5 (by show eB E ≤ am_ad E a; rw [am_ad8 h8]; omega), HW.2.2.1, HW.2.2.2⟩ hl
theorem z_zast {a n : Nat} {i v : Int32} (hd : decode Y.2.1 pc = .ok (.bastore, 1)) (hm : am_ar ms σ a 3 n) (hv : narrow .boolean (.int v) = .int v) (kk : am_in i n = true → Z l E ms σ0 Y d mc sl (pc + 1) lv st cu su (sF σ a i.toNatClampNeg v) A G) : Z l E ms σ0 Y d mc sl pc lv (.int v :: .int i :: .ref a :: st) cu su σ (if am_in i n = true then A else none) G := by
  refine z_guard fun hin => ?_
  intro u r σ' h1 h2 p e s m args below meth c H locs ls C HW hl
  have hr := hm.use HW.2.2.1
  have h8 := am_ar.t9 HW.1 hr (by decide)
  have hc := am_at_I (Or.inr (Or.inr rfl)) (HW.1.2.2.1 a _ h8 hr)
  obtain ⟨g1, g2⟩ := am_vpin hin
  refine W.zast C.1 C.2.1 hc ((C.2.2.2.2.2.2.2.2.arr (t := 3) (by decide)).1 n _) (fun q => by cases q) (by rw [arrV_size]; exact g1) rfl rfl hd fun H' e3 e4 e5 => ?_
  have hW' : am_W E (sF σ a i.toNatClampNeg v) H' := HW.1.upd rfl h8 e4 e5 sF_ne (fun m hm' => by cases hr.symm.trans hm'; exact am_stF (Or.inr (Or.inr rfl)) hc (by first | exact e3 | (rw [hv] at e3; exact e3) | (simp only [vp_nar, hv] at e3; exact e3)))
  exact kk hin u r σ' h1 h2 p e s m args below meth c H' _ ls C ⟨hW', HW.2.1.put e4 e5 (by show eB E ≤ am_ad E a; rw [am_ad8 h8]; omega), HW.2.2.1, HW.2.2.2⟩ hl
theorem z_last {a n : Nat} {i : Int32} {v : Int64} (hd : decode Y.2.1 pc = .ok (.lastore, 1)) (hm : am_ar ms σ a 1 n) (kk : am_in i n = true → Z l E ms σ0 Y d mc sl (pc + 1) lv st cu su (sG σ a i.toNatClampNeg v) A G) : Z l E ms σ0 Y d mc sl pc lv (.long v :: .int i :: .ref a :: st) cu su σ (if am_in i n = true then A else none) G := by
  refine z_guard fun hin => ?_
  intro u r σ' h1 h2 p e s m args below meth c H locs ls C HW hl
  have hr := hm.use HW.2.2.1
  have h8 := am_ar.t9 HW.1 hr (by decide)
  have hc := am_at_L (HW.1.2.2.1 a _ h8 hr)
  obtain ⟨g1, g2⟩ := am_vpin hin
  refine W.last C.1 C.2.1 hc ((C.2.2.2.2.2.2.2.2.arr (t := 1) (by decide)).1 n _) (fun q => by cases q) (by rw [arrV_size]; exact g1) rfl rfl hd fun H' e3 e4 e5 => ?_
  have hat : am_at E (sG σ a i.toNatClampNeg v) a (.inr (1, n)) H' := am_arr_put (g := fun j => .long (fG (sG σ a i.toNatClampNeg v) a j)) hc e3 (by
    funext j
    unfold updV
    rw [fG_sG]
    by_cases hj : j = i.toNatClampNeg
    · simp [hj]
    · simp [hj]) rfl
  have hW' : am_W E (sG σ a i.toNatClampNeg v) H' := HW.1.upd rfl h8 e4 e5 sG_ne (fun m hm' => by cases hr.symm.trans hm'; exact hat)
  exact kk hin u r σ' h1 h2 p e s m args below meth c H' _ ls C ⟨hW', HW.2.1.put e4 e5 (by show eB E ≤ am_ad E a; rw [am_ad8 h8]; omega), HW.2.2.1, HW.2.2.2⟩ hl
theorem am_cellV (cA : ClassId) (n : Nat) (x : (Nat → Int32) ⊕ (Nat → Int64) ⊕ (Nat → UInt32) ⊕ (Nat → UInt64) ⊕ (Nat → Option Nat)) : ∃ f : Nat → Value, vp_cell cA (n, x) = arrV cA n f := by
  rcases x with f | f | f | f | f
  · exact ⟨fun j => .int (f j), rfl⟩
  · exact ⟨fun j => .long (f j), rfl⟩
  · exact ⟨fun j => .float (f j), rfl⟩
  · exact ⟨fun j => .double (f j), rfl⟩
  · exact ⟨fun j => va_rf (f j), rfl⟩
theorem z_alen {a t n : Nat} {v : Int32} (hd : decode Y.2.1 pc = .ok (.arraylength, 1)) (ht : t < 7) (hm : am_ar ms σ a t n) (hv : Int32.ofNat n = v) (kk : Z l E ms σ0 Y d mc sl (pc + 1) lv (.int v :: st) cu su σ code G) : Z l E ms σ0 Y d mc sl pc lv (.ref a :: st) cu su σ code G := by
  intro u r σ' h1 h2 p e s m args below meth c H locs ls C HW hl
  have hr := hm.use HW.2.2.1
  have hc : H[am_ad E a]? = some (vp_cell (eA E t) (n, am_arr E σ a t)) := HW.1.2.2.1 a _ (am_ar.t9 HW.1 hr ht) hr
  obtain ⟨f, h4⟩ := am_cellV (eA E t) n (am_arr E σ a t)
  exact W.alen (n := v) (ty := am_aty t) C.1 C.2.1 hc (by rw [h4]; exact (C.2.2.2.2.2.2.2.2.arr ht).1 n f) (by rw [h4, arrV_size]; exact hv) rfl rfl hd (kk u r σ' h1 h2 p e s m args below meth c H locs ls C HW hl)
end ZH
end
section
/-! RULES OF Z: calls -/
theorem am_tv_rev (E : am_E) (vs st : List Value) : (vs.reverse ++ st).map (am_tv E) = (vs.map (am_tv E)).reverse ++ st.map (am_tv E) := by rw [List.map_append, List.map_reverse]
theorem am_cat_sum (E : am_E) (st : List Value) : ((st.map (am_tv E)).map fun v => v.category) = st.map fun v => v.category := by
  rw [List.map_map]
  congr 1
  funext v
  exact am_tv_cat E v
/-- a call: with the callee's contract, the machine's own call -/
def LK (l : Launch) (E : am_E) (ms : List am_M) (Y : am_Y) (pc : Nat) (Yc : am_Y) (vs : List Value) (σ : am_S) : Prop :=
  ∀ (d d' mc sl mc' sl' cu su : Nat) (Pc : Array Value → State → Prop) (Qc : Array Value → State → Outcome → State → Prop) (p : Program) (e : Env) (s : State) (m : MethodId) (args : Array Value) (below : List Frame) (meth : Method) (c : Code) (H : Heap) (locs : List Loc) (ls : Array Slot) (st : List Value),
    d' + 1 ≤ d → am_C E Y p s m args meth c → am_W E σ H → am_kp ms σ.1 → ls.size = Y.2.2.1 → cu + mc' ≤ mc → su + sl' ≤ sl → (st.map fun v => v.category).sum ≤ 8 →
    Met l Yc.1 (am_ws Yc) (am_rm d' mc' sl') Pc Qc mc' sl' (am_A E) → FrameBlind Pc → (∀ U : State, U.heap = H → s.WarmedH U.vm → Pc (vs.map (am_tv E)).toArray U) →
    va_Run p l e (am_rm d mc sl) s m args below meth c H locs cu su mc' sl' (F0 m pc ls ((vs.reverse ++ st).map (am_tv E))) (st.map (am_tv E)) (Qc (vs.map (am_tv E)).toArray) (am_A E)
theorem am_good (ws : List Cond) (h : ∀ w ∈ ws, w ∈ am_gt) (Yc : am_Y) (hc : am_code Yc ∈ am_gt) : GoodIn am_gt (ws ++ am_ws Yc) := by
  intro w hw
  have hin : w ∈ am_gt := by
    rcases List.mem_append.mp hw with h1 | h1
    · exact h w h1
    · rcases List.mem_cons.mp h1 with rfl | h2
      · exact hc
      · exact h2
  exact ⟨hin, good_of_word (List.mem_filter.mp hin).2⟩
theorem am_rmR {d d' mc sl mc' sl' maxL : Nat} (hd : d' + 1 ≤ d) (hL : maxL ≤ 45) : (am_rm d' mc' sl').frames + 1 ≤ (am_rm d mc sl).frames ∧ 8 + (maxL + 11) + (am_rm d' mc' sl').locals ≤ (am_rm d mc sl).locals := ⟨hd, by show 8 + (maxL + 11) + 64 * d' ≤ 64 * d; omega⟩
abbrev am_noMH (c : String) : Prop := c ≠ "java/lang/invoke/MethodHandle" ∧ c ≠ "java/lang/invoke/VarHandle"
abbrev am_np (desc : String) (n : Nat) : Prop := (parseMethodDescriptor desc).map (fun d => d.parameters.length) = some n
section ZC
variable {U : Type} {l : Launch} {E : am_E} {ms : List am_M} {σ0 : am_S} {Y Yc : am_Y} {d mc sl pc cu su : Nat} {lv : List (Nat × Value)} {st stk vs : List Value} {σ : am_S} {code : Option U} {G : U → Option Value → am_S → Prop} {idx n : Nat}
/-- a static method -/
theorem lk_S (hd : decode Y.2.1 pc = .ok (.invokestatic idx, 3)) (hn : vs.length = n) (hp : am_np Yc.1.desc n) (hy : am_noMH Yc.1.cls) (hL : Yc.2.2.1 ≤ 45) (w1 : Cond.methodLink Y.1.cls idx Yc.1 ∈ am_gt) (w2 : Cond.static Yc.1 ∈ am_gt) (w3 : Cond.initialized Yc.1.cls ∈ am_gt) (w4 : am_code Yc ∈ am_gt) : LK l E ms Y pc Yc vs σ := by
  intro d d' mc sl mc' sl' cu su Pc Qc p e s m args below meth c H locs ls st hdd C hW hk hsz hmc hsl hro hM hB hP
  exact va_runS ⟨C.1, C.2.1, C.2.2.2.1, C.2.2.2.2.1, C.2.2.2.2.2.1⟩ hM (va_cwS n C.2.2.2.2.2.1 (am_good [_, _, _] (by intro w hw; simp only [List.mem_cons, List.not_mem_nil, or_false] at hw; rcases hw with rfl | rfl | rfl <;> assumption) Yc w4) rfl rfl rfl ⟨hy.1, hy.2, hp⟩ (am_rmR hdd hL)) ⟨hB, hP⟩ rfl (by rw [List.length_map]; exact hn) hsz (am_tv_rev E vs st) (lv_room (by rw [am_cat_sum]; exact hro)) hd ⟨hmc, hsl⟩
/-- the receiver of a call -/
theorem am_recv {a ci : Nat} {q : vw_C} {s : State} {H : Heap} (hm : am_ob ms σ a ci) (hq : am_cls[ci]? = some q) (hW : am_W E σ H) (hk : am_kp ms σ.1) (hK : am_K E s) : ∃ cell : Cell, H[am_ad E a]? = some cell ∧ cell.vm.isStatics = false ∧ s.vm.findClass q.1 = some cell.cls := by
  obtain ⟨refs, hr⟩ := hm.use hk
  obtain ⟨q', hc', cell, q1, q2, q3, -⟩ := hW.2.2.1 a _ (hW.ge8 hr (by intro h; cases h)) hr
  cases hq.symm.trans hc'
  exact ⟨cell, q1, by rw [q3]; rfl, by rw [q2]; exact (hK.1.1 ci q hq).2.1⟩
/-- a virtual call whose method is the receiver's own (or private) -/
theorem lk_V {a ci : Nat} {q : vw_C} {As : List Value} (hd : decode Y.2.1 pc = .ok (.invokevirtual idx, 3)) (hv : vs = .ref a :: As) (hn : As.length = n) (hm : am_ob ms σ a ci) (hq : am_cls[ci]? = some q) (hqy : Yc.1.cls = q.1) (hp : am_np Yc.1.desc n) (hy : am_noMH Yc.1.cls) (hL : Yc.2.2.1 ≤ 45)
    (w1 : Cond.methodLink Y.1.cls idx Yc.1 ∈ am_gt) (w2 : Cond.instanceMethod Yc.1 ∈ am_gt) (w3 : Cond.selects q.1 Yc.1 Yc.1 ∈ am_gt) (w5 : Cond.initialized q.1 ∈ am_gt) (w4 : am_code Yc ∈ am_gt) : LK l E ms Y pc Yc vs σ := by
  intro d d' mc sl mc' sl' cu su Pc Qc p e s m args below meth c H locs ls st hdd C hW hk hsz hmc hsl hro hM hB hP
  subst hv
  exact va_runV (b := am_ad E a) (As := As.map (am_tv E)) ⟨C.1, C.2.1, C.2.2.2.1, C.2.2.2.2.1, C.2.2.2.2.2.1⟩ hM (cwV n C.2.2.2.2.2.1 (am_good [_, _, _, _] (by intro w hw; simp only [List.mem_cons, List.not_mem_nil, or_false] at hw; rcases hw with rfl | rfl | rfl | rfl <;> assumption) Yc w4) rfl rfl rfl ⟨hqy, hy.1, hy.2, hp⟩ (am_rmR hdd hL)) ⟨hB, am_recv hm hq hW hk C.2.2.2.2.2.2.2.2, hP⟩ rfl (by rw [List.length_map]; exact hn) hsz (by rw [am_tv_rev]; simp [am_tv]) (lv_room (by rw [am_cat_sum]; exact hro)) hd ⟨hmc, hsl⟩
/-- a virtual call by an inherited name: x is named, y is run -/
theorem lk_U {a ci : Nat} {q : vw_C} {As : List Value} {x : MethodName} (owner : String) (hd : decode Y.2.1 pc = .ok (.invokevirtual idx, 3)) (hv : vs = .ref a :: As) (hn : As.length = n) (hm : am_ob ms σ a ci) (hq : am_cls[ci]? = some q) (hyx : Yc.1 = ⟨owner, x.name, x.desc⟩) (hp : am_np x.desc n) (hy : am_noMH owner) (hL : Yc.2.2.1 ≤ 45)
    (w1 : Cond.methodLink Y.1.cls idx x ∈ am_gt) (w6 : Cond.sameMethod x.cls owner x.name x.desc ∈ am_gt) (w3 : Cond.selects q.1 x Yc.1 ∈ am_gt) (w2 : Cond.instanceMethod Yc.1 ∈ am_gt) (w5 : Cond.initialized Yc.1.cls ∈ am_gt) (w4 : am_code Yc ∈ am_gt) : LK l E ms Y pc Yc vs σ := by
  intro d d' mc sl mc' sl' cu su Pc Qc p e s m args below meth c H locs ls st hdd C hW hk hsz hmc hsl hro hM hB hP
  subst hv
  exact va_runU (b := am_ad E a) (As := As.map (am_tv E)) ⟨C.1, C.2.1, C.2.2.2.1, C.2.2.2.2.1, C.2.2.2.2.2.1⟩ hM (va_cwU n C.2.2.2.2.2.1 (am_good [_, _, _, _, _] (by intro w hw; simp only [List.mem_cons, List.not_mem_nil, or_false] at hw; rcases hw with rfl | rfl | rfl | rfl | rfl <;> assumption) Yc w4) rfl rfl rfl hyx ⟨hy.1, hy.2, hp⟩ (am_rmR hdd hL)) ⟨hB, am_recv hm hq hW hk C.2.2.2.2.2.2.2.2, hP⟩ rfl (by rw [List.length_map]; exact hn) hsz (by rw [am_tv_rev]; simp [am_tv]) (lv_room (by rw [am_cat_sum]; exact hro)) hd ⟨hmc, hsl⟩
/-- .. that overrides: x's own code isn't run -/
theorem lk_O {a ci : Nat} {q : vw_C} {As : List Value} {x : MethodName} (owner : String) {Y0 : am_Y} (hd : decode Y.2.1 pc = .ok (.invokevirtual idx, 3)) (hv : vs = .ref a :: As) (hn : As.length = n) (hm : am_ob ms σ a ci) (hq : am_cls[ci]? = some q) (h0 : Y0.1 = ⟨owner, x.name, x.desc⟩) (hp : am_np x.desc n) (hy : am_noMH owner) (hL : Yc.2.2.1 ≤ 45)
    (w1 : Cond.methodLink Y.1.cls idx x ∈ am_gt) (w6 : Cond.sameMethod x.cls owner x.name x.desc ∈ am_gt) (w7 : Cond.instanceMethod Y0.1 ∈ am_gt) (w8 : am_code Y0 ∈ am_gt) (w3 : Cond.selects q.1 x Yc.1 ∈ am_gt) (w2 : Cond.instanceMethod Yc.1 ∈ am_gt) (w5 : Cond.initialized Yc.1.cls ∈ am_gt) (w4 : am_code Yc ∈ am_gt) : LK l E ms Y pc Yc vs σ := by
  intro d d' mc sl mc' sl' cu su Pc Qc p e s m args below meth c H locs ls st hdd C hW hk hsz hmc hsl hro hM hB hP
  subst hv
  have w8' : Cond.code ⟨owner, x.name, x.desc⟩ Y0.2.1 Y0.2.2.1 Y0.2.2.2 ∈ am_gt := by rw [← h0]; exact w8
  rw [h0] at w7
  exact va_runU (b := am_ad E a) (As := As.map (am_tv E)) ⟨C.1, C.2.1, C.2.2.2.1, C.2.2.2.2.1, C.2.2.2.2.2.1⟩ hM (va_cwO n C.2.2.2.2.2.1 (am_good [_, _, _, _, _, _] (by intro w hw; simp only [List.mem_cons, List.not_mem_nil, or_false] at hw; rcases hw with rfl | rfl | rfl | rfl | rfl | rfl <;> assumption) Yc w4) rfl rfl rfl w8' ⟨hy.1, hy.2, hp⟩ (am_rmR hdd hL)) ⟨hB, am_recv hm hq hW hk C.2.2.2.2.2.2.2.2, hP⟩ rfl (by rw [List.length_map]; exact hn) hsz (by rw [am_tv_rev]; simp [am_tv]) (lv_room (by rw [am_cat_sum]; exact hro)) hd ⟨hmc, hsl⟩
/-- a constructor -/
theorem lk_I {a : Nat} {As : List Value} (hd : decode Y.2.1 pc = .ok (.invokespecial idx, 3)) (hv : vs = .ref a :: As) (hn : As.length = n) (hnm : Yc.1.name = "<init>") (hr : Yc.2.2.2 = none) (hp : am_np Yc.1.desc n) (hy : am_noMH Yc.1.cls) (hL : Yc.2.2.1 ≤ 45)
    (w1 : Cond.methodLink Y.1.cls idx Yc.1 ∈ am_gt) (w2 : Cond.instanceMethod Yc.1 ∈ am_gt) (w5 : Cond.initialized Yc.1.cls ∈ am_gt) (w4 : am_code Yc ∈ am_gt) : LK l E ms Y pc Yc vs σ := by
  intro d d' mc sl mc' sl' cu su Pc Qc p e s m args below meth c H locs ls st hdd C hW hk hsz hmc hsl hro hM hB hP
  subst hv
  have hw : am_ws Yc = Cond.code Yc.1 Yc.2.1 Yc.2.2.1 none :: am_gt := by unfold am_ws am_code; rw [hr]
  exact va_runI (b := am_ad E a) (As := As.map (am_tv E)) ⟨C.1, C.2.1, C.2.2.2.1, C.2.2.2.2.1, C.2.2.2.2.2.1⟩ hM (cwI n C.2.2.2.2.2.1 (am_good [] (fun _ h => by cases h) Yc w4) hw rfl rfl (C.2.2.2.2.2.1 _ w5) (C.2.2.2.2.2.1 _ w1) (C.2.2.2.2.2.1 _ w2) hnm ⟨hy.1, hy.2, hp⟩ (am_rmR hdd hL)) ⟨hB, hP⟩ rfl (by rw [List.length_map]; exact hn) hsz (by rw [am_tv_rev]; simp [am_tv]) (lv_room (by rw [am_cat_sum]; exact hro)) hd ⟨hmc, hsl⟩
/-- super.m(..) -/
theorem lk_SU {a ci : Nat} {q : vw_C} {As : List Value} (hd : decode Y.2.1 pc = .ok (.invokespecial idx, 3)) (hv : vs = .ref a :: As) (hn : As.length = n) (hm : am_ob ms σ a ci) (hq : am_cls[ci]? = some q) (hnm : Yc.1.name ≠ "<init>") (hp : am_np Yc.1.desc n) (hL : Yc.2.2.1 ≤ 45)
    (w1 : Cond.methodLink Y.1.cls idx Yc.1 ∈ am_gt) (w6 : Cond.sameMethod Yc.1.cls Yc.1.cls Yc.1.name Yc.1.desc ∈ am_gt) (w7 : Cond.superclass Y.1.cls Yc.1.cls ∈ am_gt) (w2 : Cond.instanceMethod Yc.1 ∈ am_gt) (w5 : Cond.initialized Yc.1.cls ∈ am_gt) (w4 : am_code Yc ∈ am_gt) : LK l E ms Y pc Yc vs σ := by
  intro d d' mc sl mc' sl' cu su Pc Qc p e s m args below meth c H locs ls st hdd C hW hk hsz hmc hsl hro hM hB hP
  subst hv
  exact va_runSU (C := q.1) (b := am_ad E a) (As := As.map (am_tv E)) (C.2.2.2.2.2.2.2.2.1.1 ci q hq).2 ⟨C.1, C.2.1, C.2.2.2.1, C.2.2.2.2.1, C.2.2.2.2.2.1⟩ hM (va_cwSU n C.2.2.2.2.2.1 (am_good [_, _, _, _, _] (by intro w hw; simp only [List.mem_cons, List.not_mem_nil, or_false] at hw; rcases hw with rfl | rfl | rfl | rfl | rfl <;> assumption) Yc w4) rfl rfl rfl ⟨hnm, hp⟩ (am_rmR hdd hL)) ⟨hB, am_recv hm hq hW hk C.2.2.2.2.2.2.2.2, hP⟩ rfl (by rw [List.length_map]; exact hn) hsz (by rw [am_tv_rev]; simp [am_tv]) (lv_room (by rw [am_cat_sum]; exact hro)) hd ⟨hmc, hsl⟩
theorem am_P_blind (vs : List Value) : FrameBlind (am_P E ms vs σ) := fun a U g mk h => ⟨h.1, h.2.1.moved (u := U) (U := U.calling g mk a) (Vm.Alike.refl U.vm), h.2.2⟩
theorem z_callX {V : Type} {ms' : List am_M} {k mc' sl' : Nat} {fc : Option V} {F : V → Option U} {er : V → Option Value} {es : V → am_S} (hst : stk = vs.reverse ++ st) (hl : LK l E ms Y pc Yc vs σ) (hk : k + 1 ≤ d) (hmc : cu + mc' ≤ mc ∧ su + sl' ≤ sl) (hro : (st.map fun v => v.category).sum ≤ 8) (hms : am_kp ms' ms)
    (hc : ∀ v, fc = some v → Ctr l E ms' Yc k mc' sl' vs σ (er v) (es v)) (kk : ∀ v, fc = some v → Z l E ms σ0 Y d mc sl (pc + 3) lv ((er v).toList ++ st) (cu + mc') (su + sl') (es v) (F v) G) : Z l E ms σ0 Y d mc sl pc lv stk cu su σ (fc.bind F) G := by
  intro u r σ' h1 h2 p e s m args below meth c H locs ls C HW hls
  subst hst
  cases hf : fc with
  | none => rw [hf] at h1; cases h1
  | some v =>
    rw [hf] at h1
    have hrun := hl d (d - 1) mc sl mc' sl' cu su _ _ p e s m args below meth c H locs ls st (by omega) C HW.1 HW.2.2.1 hls.1 hmc.1 hmc.2 hro (hc v hf (d - 1) (by omega)) (am_P_blind vs) (fun U0 hU hWm => ⟨rfl, C.2.2.2.2.2.2.2.2.moved hWm.alike, by rw [hU]; exact HW.1, hms.tr HW.2.2.1⟩)
    intro T hT X
    obtain ⟨v', st₀, t, T', L, h0, X', hL, e1, e2, ⟨hv, hq, hF, hkp⟩, stp⟩ := hrun T hT X
    cases hv
    obtain ⟨t2, a1, b1⟩ := kk v hf u r σ' h1 h2 p e s m args below meth c T'.heap (locs ++ L) ls C ⟨by rw [e1]; exact hq, ⟨Nat.le_trans HW.2.1.1 (by rw [e1, ← h0]; exact hF.1), fun x hx1 hx2 => by
      rw [e1, hF.2 x (by rw [h0]; exact Nat.lt_of_lt_of_le hx1 HW.2.1.1) hx2, h0]; exact HW.2.1.2.1 x hx1 hx2, fun x hx => by
        rcases List.mem_append.mp hx with h | h
        · exact HW.2.1.2.2 x h
        · exact hL x h⟩, HW.2.2.1.tr hkp, HW.2.2.2.tr hkp⟩ hls T' rfl X'
    refine ⟨t2, stp t2 ?_, b1⟩
    have e9 : ((er v).map (am_tv E)).toList ++ st.map (am_tv E) = ((er v).toList ++ st).map (am_tv E) := by cases er v <;> simp
    rw [e9]
    exact a1
theorem z_callI {ms' : List am_M} {k mc' sl' : Nat} {fc : Option Int32} {F : Int32 → Option U} (vs st : List Value) (hst : stk = vs.reverse ++ st) (hl : LK l E ms Y pc Yc vs σ) (hk : k + 1 ≤ d) (hmc : cu + mc' ≤ mc ∧ su + sl' ≤ sl) (hro : (st.map fun v => v.category).sum ≤ 8) (hms : am_kp ms' ms)
    (hc : ∀ v, fc = some v → Ctr l E ms' Yc k mc' sl' vs σ (some (.int v)) σ) (kk : ∀ v, fc = some v → Z l E ms σ0 Y d mc sl (pc + 3) lv (.int v :: st) (cu + mc') (su + sl') σ (F v) G) : Z l E ms σ0 Y d mc sl pc lv stk cu su σ (fc.bind F) G :=
  z_callX (er := fun v => some (.int v)) (es := fun v => σ) hst hl hk hmc hro hms (fun v hv => hc v hv) (fun v hv => kk v hv)
theorem z_callB {ms' : List am_M} {k mc' sl' : Nat} {fc : Option Bool} {F : Bool → Option U} (vs st : List Value) (hst : stk = vs.reverse ++ st) (hl : LK l E ms Y pc Yc vs σ) (hk : k + 1 ≤ d) (hmc : cu + mc' ≤ mc ∧ su + sl' ≤ sl) (hro : (st.map fun v => v.category).sum ≤ 8) (hms : am_kp ms' ms)
    (hc : ∀ v, fc = some v → Ctr l E ms' Yc k mc' sl' vs σ (some (.int (bI v))) σ) (kk : ∀ v, fc = some v → Z l E ms σ0 Y d mc sl (pc + 3) lv (.int (bI v) :: st) (cu + mc') (su + sl') σ (F v) G) : Z l E ms σ0 Y d mc sl pc lv stk cu su σ (fc.bind F) G :=
  z_callX (er := fun v => some (.int (bI v))) (es := fun v => σ) hst hl hk hmc hro hms (fun v hv => hc v hv) (fun v hv => kk v hv)
theorem z_callL {ms' : List am_M} {k mc' sl' : Nat} {fc : Option Int64} {F : Int64 → Option U} (vs st : List Value) (hst : stk = vs.reverse ++ st) (hl : LK l E ms Y pc Yc vs σ) (hk : k + 1 ≤ d) (hmc : cu + mc' ≤ mc ∧ su + sl' ≤ sl) (hro : (st.map fun v => v.category).sum ≤ 8) (hms : am_kp ms' ms)
    (hc : ∀ v, fc = some v → Ctr l E ms' Yc k mc' sl' vs σ (some (.long v)) σ) (kk : ∀ v, fc = some v → Z l E ms σ0 Y d mc sl (pc + 3) lv (.long v :: st) (cu + mc') (su + sl') σ (F v) G) : Z l E ms σ0 Y d mc sl pc lv stk cu su σ (fc.bind F) G :=
  z_callX (er := fun v => some (.long v)) (es := fun v => σ) hst hl hk hmc hro hms (fun v hv => hc v hv) (fun v hv => kk v hv)
theorem z_callR {ms' : List am_M} {k mc' sl' : Nat} {fc : Option (Option Nat)} {F : (Option Nat) → Option U} (vs st : List Value) (hst : stk = vs.reverse ++ st) (hl : LK l E ms Y pc Yc vs σ) (hk : k + 1 ≤ d) (hmc : cu + mc' ≤ mc ∧ su + sl' ≤ sl) (hro : (st.map fun v => v.category).sum ≤ 8) (hms : am_kp ms' ms)
    (hc : ∀ v, fc = some v → Ctr l E ms' Yc k mc' sl' vs σ (some (va_rf v)) σ) (kk : ∀ v, fc = some v → Z l E ms σ0 Y d mc sl (pc + 3) lv (va_rf v :: st) (cu + mc') (su + sl') σ (F v) G) : Z l E ms σ0 Y d mc sl pc lv stk cu su σ (fc.bind F) G :=
  z_callX (er := fun v => some (va_rf v)) (es := fun v => σ) hst hl hk hmc hro hms (fun v hv => hc v hv) (fun v hv => kk v hv)
theorem z_callIs {ms' : List am_M} {k mc' sl' : Nat} {fc : Option (Int32 × am_S)} {F : (Int32 × am_S) → Option U} (vs st : List Value) (hst : stk = vs.reverse ++ st) (hl : LK l E ms Y pc Yc vs σ) (hk : k + 1 ≤ d) (hmc : cu + mc' ≤ mc ∧ su + sl' ≤ sl) (hro : (st.map fun v => v.category).sum ≤ 8) (hms : am_kp ms' ms)
    (hc : ∀ v σ1, fc = some (v, σ1) → Ctr l E ms' Yc k mc' sl' vs σ (some (.int v)) σ1) (kk : ∀ v σ1, fc = some (v, σ1) → Z l E ms σ0 Y d mc sl (pc + 3) lv (.int v :: st) (cu + mc') (su + sl') σ1 (F (v, σ1)) G) : Z l E ms σ0 Y d mc sl pc lv stk cu su σ (fc.bind F) G :=
  z_callX (er := fun v => some (.int v.1)) (es := fun v => v.2) hst hl hk hmc hro hms (fun v hv => hc v.1 v.2 hv) (fun v hv => kk v.1 v.2 hv)
theorem z_callBs {ms' : List am_M} {k mc' sl' : Nat} {fc : Option (Bool × am_S)} {F : (Bool × am_S) → Option U} (vs st : List Value) (hst : stk = vs.reverse ++ st) (hl : LK l E ms Y pc Yc vs σ) (hk : k + 1 ≤ d) (hmc : cu + mc' ≤ mc ∧ su + sl' ≤ sl) (hro : (st.map fun v => v.category).sum ≤ 8) (hms : am_kp ms' ms)
    (hc : ∀ v σ1, fc = some (v, σ1) → Ctr l E ms' Yc k mc' sl' vs σ (some (.int (bI v))) σ1) (kk : ∀ v σ1, fc = some (v, σ1) → Z l E ms σ0 Y d mc sl (pc + 3) lv (.int (bI v) :: st) (cu + mc') (su + sl') σ1 (F (v, σ1)) G) : Z l E ms σ0 Y d mc sl pc lv stk cu su σ (fc.bind F) G :=
  z_callX (er := fun v => some (.int (bI v.1))) (es := fun v => v.2) hst hl hk hmc hro hms (fun v hv => hc v.1 v.2 hv) (fun v hv => kk v.1 v.2 hv)
theorem z_callLs {ms' : List am_M} {k mc' sl' : Nat} {fc : Option (Int64 × am_S)} {F : (Int64 × am_S) → Option U} (vs st : List Value) (hst : stk = vs.reverse ++ st) (hl : LK l E ms Y pc Yc vs σ) (hk : k + 1 ≤ d) (hmc : cu + mc' ≤ mc ∧ su + sl' ≤ sl) (hro : (st.map fun v => v.category).sum ≤ 8) (hms : am_kp ms' ms)
    (hc : ∀ v σ1, fc = some (v, σ1) → Ctr l E ms' Yc k mc' sl' vs σ (some (.long v)) σ1) (kk : ∀ v σ1, fc = some (v, σ1) → Z l E ms σ0 Y d mc sl (pc + 3) lv (.long v :: st) (cu + mc') (su + sl') σ1 (F (v, σ1)) G) : Z l E ms σ0 Y d mc sl pc lv stk cu su σ (fc.bind F) G :=
  z_callX (er := fun v => some (.long v.1)) (es := fun v => v.2) hst hl hk hmc hro hms (fun v hv => hc v.1 v.2 hv) (fun v hv => kk v.1 v.2 hv)
theorem z_callRs {ms' : List am_M} {k mc' sl' : Nat} {fc : Option (Option Nat × am_S)} {F : (Option Nat × am_S) → Option U} (vs st : List Value) (hst : stk = vs.reverse ++ st) (hl : LK l E ms Y pc Yc vs σ) (hk : k + 1 ≤ d) (hmc : cu + mc' ≤ mc ∧ su + sl' ≤ sl) (hro : (st.map fun v => v.category).sum ≤ 8) (hms : am_kp ms' ms)
    (hc : ∀ v σ1, fc = some (v, σ1) → Ctr l E ms' Yc k mc' sl' vs σ (some (va_rf v)) σ1) (kk : ∀ v σ1, fc = some (v, σ1) → Z l E ms σ0 Y d mc sl (pc + 3) lv (va_rf v :: st) (cu + mc') (su + sl') σ1 (F (v, σ1)) G) : Z l E ms σ0 Y d mc sl pc lv stk cu su σ (fc.bind F) G :=
  z_callX (er := fun v => some (va_rf v.1)) (es := fun v => v.2) hst hl hk hmc hro hms (fun v hv => hc v.1 v.2 hv) (fun v hv => kk v.1 v.2 hv)
theorem z_callNs {ms' : List am_M} {k mc' sl' : Nat} {fc : Option (Nat × am_S)} {F : (Nat × am_S) → Option U} (vs st : List Value) (hst : stk = vs.reverse ++ st) (hl : LK l E ms Y pc Yc vs σ) (hk : k + 1 ≤ d) (hmc : cu + mc' ≤ mc ∧ su + sl' ≤ sl) (hro : (st.map fun v => v.category).sum ≤ 8) (hms : am_kp ms' ms)
    (hc : ∀ v σ1, fc = some (v, σ1) → Ctr l E ms' Yc k mc' sl' vs σ (some (.ref v)) σ1) (kk : ∀ v σ1, fc = some (v, σ1) → Z l E ms σ0 Y d mc sl (pc + 3) lv (.ref v :: st) (cu + mc') (su + sl') σ1 (F (v, σ1)) G) : Z l E ms σ0 Y d mc sl pc lv stk cu su σ (fc.bind F) G :=
  z_callX (er := fun v => some (.ref v.1)) (es := fun v => v.2) hst hl hk hmc hro hms (fun v hv => hc v.1 v.2 hv) (fun v hv => kk v.1 v.2 hv)
theorem z_callVs {ms' : List am_M} {k mc' sl' : Nat} {fc : Option am_S} {F : am_S → Option U} (vs st : List Value) (hst : stk = vs.reverse ++ st) (hl : LK l E ms Y pc Yc vs σ) (hk : k + 1 ≤ d) (hmc : cu + mc' ≤ mc ∧ su + sl' ≤ sl) (hro : (st.map fun v => v.category).sum ≤ 8) (hms : am_kp ms' ms)
    (hc : ∀ σ1, fc = some σ1 → Ctr l E ms' Yc k mc' sl' vs σ none σ1) (kk : ∀ σ1, fc = some σ1 → Z l E ms σ0 Y d mc sl (pc + 3) lv st (cu + mc') (su + sl') σ1 (F σ1) G) : Z l E ms σ0 Y d mc sl pc lv stk cu su σ (fc.bind F) G :=
  z_callX (er := fun v => none) (es := fun v => v) hst hl hk hmc hro hms (fun v hv => hc v hv) (fun v hv => kk v hv)
theorem z_callVp {ms' : List am_M} {k mc' sl' : Nat} {fc : Option Unit} {F : Unit → Option U} (vs st : List Value) (hst : stk = vs.reverse ++ st) (hl : LK l E ms Y pc Yc vs σ) (hk : k + 1 ≤ d) (hmc : cu + mc' ≤ mc ∧ su + sl' ≤ sl) (hro : (st.map fun v => v.category).sum ≤ 8) (hms : am_kp ms' ms)
    (hc : ∀ v, fc = some v → Ctr l E ms' Yc k mc' sl' vs σ none σ) (kk : ∀ v, fc = some v → Z l E ms σ0 Y d mc sl (pc + 3) lv st (cu + mc') (su + sl') σ (F v) G) : Z l E ms σ0 Y d mc sl pc lv stk cu su σ (fc.bind F) G :=
  z_callX (er := fun v => none) (es := fun v => σ) hst hl hk hmc hro hms (fun v hv => hc v hv) (fun v hv => kk v hv)
/-- a part of the code first, then the rest -/
theorem z_bind {V : Type} {fc : Option V} {F : V → Option U} (k : Z l E ms σ0 Y d mc sl pc lv st cu su σ fc (fun v r σ' => ∃ u, F v = some u ∧ G u r σ')) : Z l E ms σ0 Y d mc sl pc lv st cu su σ (fc.bind F) G := by
  intro u r σ' h1 h2
  cases hf : fc with
  | none => rw [hf] at h1; cases h1
  | some v =>
    rw [hf] at h1
    exact k v r σ' hf ⟨u, h1, h2⟩
theorem z_exit {V : Type} {v : V} {F : V → Option U} (k : Z l E ms σ0 Y d mc sl pc lv st cu su σ (F v) G) : Z l E ms σ0 Y d mc sl pc lv st cu su σ (some v) (fun v r σ' => ∃ u, F v = some u ∧ G u r σ') := by
  intro v' r σ' h1 h2
  cases h1
  obtain ⟨u, h3, h4⟩ := h2
  exact k u r σ' h3 h4
/-- a name for a value -/
theorem z_name {V : Type} {v : V} {F : V → Option U} (k : Z l E ms σ0 Y d mc sl pc lv st cu su σ (F v) G) : Z l E ms σ0 Y d mc sl pc lv st cu su σ ((some v).bind F) G := k
theorem z_some {V : Type} {v : V} {F : V → Option U} {fc : Option V} (h : fc = some v) (k : Z l E ms σ0 Y d mc sl pc lv st cu su σ (F v) G) : Z l E ms σ0 Y d mc sl pc lv st cu su σ (fc.bind F) G := by rw [h]; exact k
end ZC
end
