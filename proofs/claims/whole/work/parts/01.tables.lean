-- ===== PART A: goes FIRST, ahead of the names: the tables' words, and 'selects' of the private methods out of them =====
/-- a private method of a class that the tables say can be made, by its rows of tables_1 -/
def lw_okq (q : MethodName × Nat) : Prop := (q.1.cls ≠ "java/lang/invoke/MethodHandle" ∧ q.1.cls ≠ "java/lang/invoke/VarHandle") ∧ Cond.instantiable q.1.cls q.2 ∈ tables_1 ∧ Cond.privateMethod q.1 ∈ tables_1 ∧ Cond.instanceMethod q.1 ∈ tables_1
theorem lw_p0 : lw_okq (⟨"SparesHouse", "putFour", "(I)V"⟩, 8) := ⟨⟨by decide +kernel, by decide +kernel⟩, List.mem_of_getElem? (i := 19) (by decide +kernel), List.mem_of_getElem? (i := 366) (by decide +kernel), List.mem_of_getElem? (i := 367) (by decide +kernel)⟩
theorem lw_p1 : lw_okq (⟨"SparesHouse$Reader", "skipGaps", "()V"⟩, 5) := ⟨⟨by decide +kernel, by decide +kernel⟩, List.mem_of_getElem? (i := 241) (by decide +kernel), List.mem_of_getElem? (i := 389) (by decide +kernel), List.mem_of_getElem? (i := 390) (by decide +kernel)⟩
theorem lw_p2 : lw_okq (⟨"SparesHouse$Reader", "readOne", "()I"⟩, 5) := ⟨⟨by decide +kernel, by decide +kernel⟩, List.mem_of_getElem? (i := 241) (by decide +kernel), List.mem_of_getElem? (i := 393) (by decide +kernel), List.mem_of_getElem? (i := 394) (by decide +kernel)⟩
theorem lw_p3 : lw_okq (⟨"SparesHouse$Reader", "readWord", "()I"⟩, 5) := ⟨⟨by decide +kernel, by decide +kernel⟩, List.mem_of_getElem? (i := 241) (by decide +kernel), List.mem_of_getElem? (i := 397) (by decide +kernel), List.mem_of_getElem? (i := 398) (by decide +kernel)⟩
theorem lw_p4 : lw_okq (⟨"SparesHouse$Reader", "isSpelled", "(Ljava/lang/String;I)Z"⟩, 5) := ⟨⟨by decide +kernel, by decide +kernel⟩, List.mem_of_getElem? (i := 241) (by decide +kernel), List.mem_of_getElem? (i := 411) (by decide +kernel), List.mem_of_getElem? (i := 412) (by decide +kernel)⟩
theorem lw_p5 : lw_okq (⟨"SparesHouse$Reader", "isOneTooMany", "(I)Z"⟩, 5) := ⟨⟨by decide +kernel, by decide +kernel⟩, List.mem_of_getElem? (i := 241) (by decide +kernel), List.mem_of_getElem? (i := 463) (by decide +kernel), List.mem_of_getElem? (i := 464) (by decide +kernel)⟩
theorem lw_p6 : lw_okq (⟨"SparesHouse$Reader", "readNumber", "(II)I"⟩, 5) := ⟨⟨by decide +kernel, by decide +kernel⟩, List.mem_of_getElem? (i := 241) (by decide +kernel), List.mem_of_getElem? (i := 472) (by decide +kernel), List.mem_of_getElem? (i := 473) (by decide +kernel)⟩
theorem lw_p7 : lw_okq (⟨"SparesHouse$Reader", "take", "(I)V"⟩, 5) := ⟨⟨by decide +kernel, by decide +kernel⟩, List.mem_of_getElem? (i := 241) (by decide +kernel), List.mem_of_getElem? (i := 493) (by decide +kernel), List.mem_of_getElem? (i := 494) (by decide +kernel)⟩
theorem lw_p8 : lw_okq (⟨"SparesHouse$Reader", "takePart", "()V"⟩, 5) := ⟨⟨by decide +kernel, by decide +kernel⟩, List.mem_of_getElem? (i := 241) (by decide +kernel), List.mem_of_getElem? (i := 497) (by decide +kernel), List.mem_of_getElem? (i := 498) (by decide +kernel)⟩
theorem lw_p9 : lw_okq (⟨"SparesHouse$Reader", "takeBase", "()V"⟩, 5) := ⟨⟨by decide +kernel, by decide +kernel⟩, List.mem_of_getElem? (i := 241) (by decide +kernel), List.mem_of_getElem? (i := 501) (by decide +kernel), List.mem_of_getElem? (i := 502) (by decide +kernel)⟩
theorem lw_p10 : lw_okq (⟨"SparesHouse$Reader", "takeCell", "()V"⟩, 5) := ⟨⟨by decide +kernel, by decide +kernel⟩, List.mem_of_getElem? (i := 241) (by decide +kernel), List.mem_of_getElem? (i := 505) (by decide +kernel), List.mem_of_getElem? (i := 506) (by decide +kernel)⟩
theorem lw_p11 : lw_okq (⟨"SparesHouse$Play", "beginWay", "(III)V"⟩, 19) := ⟨⟨by decide +kernel, by decide +kernel⟩, List.mem_of_getElem? (i := 27) (by decide +kernel), List.mem_of_getElem? (i := 573) (by decide +kernel), List.mem_of_getElem? (i := 574) (by decide +kernel)⟩
theorem lw_p12 : lw_okq (⟨"SparesHouse$Play", "callToAnswer", "(I)I"⟩, 19) := ⟨⟨by decide +kernel, by decide +kernel⟩, List.mem_of_getElem? (i := 27) (by decide +kernel), List.mem_of_getElem? (i := 588) (by decide +kernel), List.mem_of_getElem? (i := 589) (by decide +kernel)⟩
theorem lw_p13 : lw_okq (⟨"SparesHouse$Play", "come", "(II)V"⟩, 19) := ⟨⟨by decide +kernel, by decide +kernel⟩, List.mem_of_getElem? (i := 27) (by decide +kernel), List.mem_of_getElem? (i := 629) (by decide +kernel), List.mem_of_getElem? (i := 630) (by decide +kernel)⟩
theorem lw_p14 : lw_okq (⟨"SparesHouse$Play", "fillBenches", "()V"⟩, 19) := ⟨⟨by decide +kernel, by decide +kernel⟩, List.mem_of_getElem? (i := 27) (by decide +kernel), List.mem_of_getElem? (i := 633) (by decide +kernel), List.mem_of_getElem? (i := 634) (by decide +kernel)⟩
theorem lw_p15 : lw_okq (⟨"SparesHouse$Play", "lendAll", "()V"⟩, 19) := ⟨⟨by decide +kernel, by decide +kernel⟩, List.mem_of_getElem? (i := 27) (by decide +kernel), List.mem_of_getElem? (i := 642) (by decide +kernel), List.mem_of_getElem? (i := 643) (by decide +kernel)⟩
def lw_privs_1 : List (MethodName × Nat) := [(⟨"SparesHouse", "putFour", "(I)V"⟩, 8), (⟨"SparesHouse$Reader", "skipGaps", "()V"⟩, 5), (⟨"SparesHouse$Reader", "readOne", "()I"⟩, 5), (⟨"SparesHouse$Reader", "readWord", "()I"⟩, 5), (⟨"SparesHouse$Reader", "isSpelled", "(Ljava/lang/String;I)Z"⟩, 5), (⟨"SparesHouse$Reader", "isOneTooMany", "(I)Z"⟩, 5), (⟨"SparesHouse$Reader", "readNumber", "(II)I"⟩, 5), (⟨"SparesHouse$Reader", "take", "(I)V"⟩, 5), (⟨"SparesHouse$Reader", "takePart", "()V"⟩, 5), (⟨"SparesHouse$Reader", "takeBase", "()V"⟩, 5), (⟨"SparesHouse$Reader", "takeCell", "()V"⟩, 5), (⟨"SparesHouse$Play", "beginWay", "(III)V"⟩, 19), (⟨"SparesHouse$Play", "callToAnswer", "(I)I"⟩, 19), (⟨"SparesHouse$Play", "come", "(II)V"⟩, 19), (⟨"SparesHouse$Play", "fillBenches", "()V"⟩, 19), (⟨"SparesHouse$Play", "lendAll", "()V"⟩, 19)]
theorem lw_r1 : ∀ q ∈ lw_privs_1, lw_okq q := List.forall_mem_cons.mpr ⟨lw_p0, List.forall_mem_cons.mpr ⟨lw_p1, List.forall_mem_cons.mpr ⟨lw_p2, List.forall_mem_cons.mpr ⟨lw_p3, List.forall_mem_cons.mpr ⟨lw_p4, List.forall_mem_cons.mpr ⟨lw_p5, List.forall_mem_cons.mpr ⟨lw_p6, List.forall_mem_cons.mpr ⟨lw_p7, List.forall_mem_cons.mpr ⟨lw_p8, List.forall_mem_cons.mpr ⟨lw_p9, List.forall_mem_cons.mpr ⟨lw_p10, List.forall_mem_cons.mpr ⟨lw_p11, List.forall_mem_cons.mpr ⟨lw_p12, List.forall_mem_cons.mpr ⟨lw_p13, List.forall_mem_cons.mpr ⟨lw_p14, List.forall_mem_cons.mpr ⟨lw_p15, fun _ h => absurd h List.not_mem_nil⟩⟩⟩⟩⟩⟩⟩⟩⟩⟩⟩⟩⟩⟩⟩⟩
theorem lw_p16 : lw_okq (⟨"SparesHouse$Play", "hasOneToLend", "()Z"⟩, 19) := ⟨⟨by decide +kernel, by decide +kernel⟩, List.mem_of_getElem? (i := 27) (by decide +kernel), List.mem_of_getElem? (i := 646) (by decide +kernel), List.mem_of_getElem? (i := 647) (by decide +kernel)⟩
theorem lw_p17 : lw_okq (⟨"SparesHouse$Play", "lenderFor", "(I)I"⟩, 19) := ⟨⟨by decide +kernel, by decide +kernel⟩, List.mem_of_getElem? (i := 27) (by decide +kernel), List.mem_of_getElem? (i := 650) (by decide +kernel), List.mem_of_getElem? (i := 651) (by decide +kernel)⟩
theorem lw_p18 : lw_okq (⟨"SparesHouse$Play", "lend", "(II)V"⟩, 19) := ⟨⟨by decide +kernel, by decide +kernel⟩, List.mem_of_getElem? (i := 27) (by decide +kernel), List.mem_of_getElem? (i := 659) (by decide +kernel), List.mem_of_getElem? (i := 660) (by decide +kernel)⟩
theorem lw_p19 : lw_okq (⟨"SparesHouse$Play", "longestWait", "()I"⟩, 19) := ⟨⟨by decide +kernel, by decide +kernel⟩, List.mem_of_getElem? (i := 27) (by decide +kernel), List.mem_of_getElem? (i := 801) (by decide +kernel), List.mem_of_getElem? (i := 802) (by decide +kernel)⟩
theorem lw_p20 : lw_okq (⟨"SparesHouse$Worth", "fillOuts", "(III)V"⟩, 13) := ⟨⟨by decide +kernel, by decide +kernel⟩, List.mem_of_getElem? (i := 281) (by decide +kernel), List.mem_of_getElem? (i := 814) (by decide +kernel), List.mem_of_getElem? (i := 815) (by decide +kernel)⟩
theorem lw_p21 : lw_okq (⟨"SparesHouse$Worth", "fillLack", "(I)V"⟩, 13) := ⟨⟨by decide +kernel, by decide +kernel⟩, List.mem_of_getElem? (i := 281) (by decide +kernel), List.mem_of_getElem? (i := 818) (by decide +kernel), List.mem_of_getElem? (i := 819) (by decide +kernel)⟩
theorem lw_p22 : lw_okq (⟨"SparesHouse$Worth", "nextBuy", "(LSparesHouse$Plan;)I"⟩, 13) := ⟨⟨by decide +kernel, by decide +kernel⟩, List.mem_of_getElem? (i := 281) (by decide +kernel), List.mem_of_getElem? (i := 864) (by decide +kernel), List.mem_of_getElem? (i := 865) (by decide +kernel)⟩
theorem lw_p23 : lw_okq (⟨"SparesHouse$Worth", "gainOf", "(I)J"⟩, 13) := ⟨⟨by decide +kernel, by decide +kernel⟩, List.mem_of_getElem? (i := 281) (by decide +kernel), List.mem_of_getElem? (i := 868) (by decide +kernel), List.mem_of_getElem? (i := 869) (by decide +kernel)⟩
theorem lw_p24 : lw_okq (⟨"SparesHouse$Worth", "pickSpares", "(LSparesHouse$Plan;II)V"⟩, 13) := ⟨⟨by decide +kernel, by decide +kernel⟩, List.mem_of_getElem? (i := 281) (by decide +kernel), List.mem_of_getElem? (i := 897) (by decide +kernel), List.mem_of_getElem? (i := 898) (by decide +kernel)⟩
theorem lw_p25 : lw_okq (⟨"SparesHouse$Worth", "pickOf", "(II)I"⟩, 13) := ⟨⟨by decide +kernel, by decide +kernel⟩, List.mem_of_getElem? (i := 281) (by decide +kernel), List.mem_of_getElem? (i := 913) (by decide +kernel), List.mem_of_getElem? (i := 914) (by decide +kernel)⟩
theorem lw_p26 : lw_okq (⟨"SparesHouse", "lateBehindRun", "(II)I"⟩, 8) := ⟨⟨by decide +kernel, by decide +kernel⟩, List.mem_of_getElem? (i := 19) (by decide +kernel), List.mem_of_getElem? (i := 932) (by decide +kernel), List.mem_of_getElem? (i := 933) (by decide +kernel)⟩
theorem lw_p27 : lw_okq (⟨"SparesHouse$Speller", "writeOne", "(II)V"⟩, 2) := ⟨⟨by decide +kernel, by decide +kernel⟩, List.mem_of_getElem? (i := 266) (by decide +kernel), List.mem_of_getElem? (i := 968) (by decide +kernel), List.mem_of_getElem? (i := 969) (by decide +kernel)⟩
theorem lw_p28 : lw_okq (⟨"SparesHouse$Speller", "putWord", "(I)V"⟩, 2) := ⟨⟨by decide +kernel, by decide +kernel⟩, List.mem_of_getElem? (i := 266) (by decide +kernel), List.mem_of_getElem? (i := 972) (by decide +kernel), List.mem_of_getElem? (i := 973) (by decide +kernel)⟩
theorem lw_p29 : lw_okq (⟨"SparesHouse$Speller", "put", "(I)V"⟩, 2) := ⟨⟨by decide +kernel, by decide +kernel⟩, List.mem_of_getElem? (i := 266) (by decide +kernel), List.mem_of_getElem? (i := 979) (by decide +kernel), List.mem_of_getElem? (i := 980) (by decide +kernel)⟩
theorem lw_p30 : lw_okq (⟨"SparesHouse$Speller", "putNumber", "(I)V"⟩, 2) := ⟨⟨by decide +kernel, by decide +kernel⟩, List.mem_of_getElem? (i := 266) (by decide +kernel), List.mem_of_getElem? (i := 983) (by decide +kernel), List.mem_of_getElem? (i := 984) (by decide +kernel)⟩
theorem lw_p31 : lw_okq (⟨"SparesHouse$Speller", "writeParts", "(LSparesHouse$Plan;)V"⟩, 2) := ⟨⟨by decide +kernel, by decide +kernel⟩, List.mem_of_getElem? (i := 266) (by decide +kernel), List.mem_of_getElem? (i := 987) (by decide +kernel), List.mem_of_getElem? (i := 988) (by decide +kernel)⟩
def lw_privs_2 : List (MethodName × Nat) := [(⟨"SparesHouse$Play", "hasOneToLend", "()Z"⟩, 19), (⟨"SparesHouse$Play", "lenderFor", "(I)I"⟩, 19), (⟨"SparesHouse$Play", "lend", "(II)V"⟩, 19), (⟨"SparesHouse$Play", "longestWait", "()I"⟩, 19), (⟨"SparesHouse$Worth", "fillOuts", "(III)V"⟩, 13), (⟨"SparesHouse$Worth", "fillLack", "(I)V"⟩, 13), (⟨"SparesHouse$Worth", "nextBuy", "(LSparesHouse$Plan;)I"⟩, 13), (⟨"SparesHouse$Worth", "gainOf", "(I)J"⟩, 13), (⟨"SparesHouse$Worth", "pickSpares", "(LSparesHouse$Plan;II)V"⟩, 13), (⟨"SparesHouse$Worth", "pickOf", "(II)I"⟩, 13), (⟨"SparesHouse", "lateBehindRun", "(II)I"⟩, 8), (⟨"SparesHouse$Speller", "writeOne", "(II)V"⟩, 2), (⟨"SparesHouse$Speller", "putWord", "(I)V"⟩, 2), (⟨"SparesHouse$Speller", "put", "(I)V"⟩, 2), (⟨"SparesHouse$Speller", "putNumber", "(I)V"⟩, 2), (⟨"SparesHouse$Speller", "writeParts", "(LSparesHouse$Plan;)V"⟩, 2)]
theorem lw_r2 : ∀ q ∈ lw_privs_2, lw_okq q := List.forall_mem_cons.mpr ⟨lw_p16, List.forall_mem_cons.mpr ⟨lw_p17, List.forall_mem_cons.mpr ⟨lw_p18, List.forall_mem_cons.mpr ⟨lw_p19, List.forall_mem_cons.mpr ⟨lw_p20, List.forall_mem_cons.mpr ⟨lw_p21, List.forall_mem_cons.mpr ⟨lw_p22, List.forall_mem_cons.mpr ⟨lw_p23, List.forall_mem_cons.mpr ⟨lw_p24, List.forall_mem_cons.mpr ⟨lw_p25, List.forall_mem_cons.mpr ⟨lw_p26, List.forall_mem_cons.mpr ⟨lw_p27, List.forall_mem_cons.mpr ⟨lw_p28, List.forall_mem_cons.mpr ⟨lw_p29, List.forall_mem_cons.mpr ⟨lw_p30, List.forall_mem_cons.mpr ⟨lw_p31, fun _ h => absurd h List.not_mem_nil⟩⟩⟩⟩⟩⟩⟩⟩⟩⟩⟩⟩⟩⟩⟩⟩
theorem lw_p32 : lw_okq (⟨"SparesHouse$Speller", "writeCells", "(LSparesHouse$Plan;)V"⟩, 2) := ⟨⟨by decide +kernel, by decide +kernel⟩, List.mem_of_getElem? (i := 266) (by decide +kernel), List.mem_of_getElem? (i := 991) (by decide +kernel), List.mem_of_getElem? (i := 992) (by decide +kernel)⟩
theorem lw_p33 : lw_okq (⟨"SparesHouse$Speller", "writeWorks", "(LSparesHouse$Plan;)V"⟩, 2) := ⟨⟨by decide +kernel, by decide +kernel⟩, List.mem_of_getElem? (i := 266) (by decide +kernel), List.mem_of_getElem? (i := 996) (by decide +kernel), List.mem_of_getElem? (i := 997) (by decide +kernel)⟩
theorem lw_p34 : lw_okq (⟨"SparesHouseModel", "putAside", "()V"⟩, 24) := ⟨⟨by decide +kernel, by decide +kernel⟩, List.mem_of_getElem? (i := 1007) (by decide +kernel), List.mem_of_getElem? (i := 1100) (by decide +kernel), List.mem_of_getElem? (i := 1101) (by decide +kernel)⟩
theorem lw_p35 : lw_okq (⟨"SparesHouseModel", "nextToken", "()V"⟩, 24) := ⟨⟨by decide +kernel, by decide +kernel⟩, List.mem_of_getElem? (i := 1007) (by decide +kernel), List.mem_of_getElem? (i := 1104) (by decide +kernel), List.mem_of_getElem? (i := 1105) (by decide +kernel)⟩
theorem lw_p36 : lw_okq (⟨"SparesHouseModel", "isLetter", "(I)Z"⟩, 24) := ⟨⟨by decide +kernel, by decide +kernel⟩, List.mem_of_getElem? (i := 1007) (by decide +kernel), List.mem_of_getElem? (i := 1108) (by decide +kernel), List.mem_of_getElem? (i := 1109) (by decide +kernel)⟩
theorem lw_p37 : lw_okq (⟨"SparesHouseModel", "isDigit", "(I)Z"⟩, 24) := ⟨⟨by decide +kernel, by decide +kernel⟩, List.mem_of_getElem? (i := 1007) (by decide +kernel), List.mem_of_getElem? (i := 1112) (by decide +kernel), List.mem_of_getElem? (i := 1113) (by decide +kernel)⟩
theorem lw_p38 : lw_okq (⟨"SparesHouseModel", "wrong", "(I)V"⟩, 24) := ⟨⟨by decide +kernel, by decide +kernel⟩, List.mem_of_getElem? (i := 1007) (by decide +kernel), List.mem_of_getElem? (i := 1116) (by decide +kernel), List.mem_of_getElem? (i := 1117) (by decide +kernel)⟩
theorem lw_p39 : lw_okq (⟨"SparesHouseModel", "readLine", "()V"⟩, 24) := ⟨⟨by decide +kernel, by decide +kernel⟩, List.mem_of_getElem? (i := 1007) (by decide +kernel), List.mem_of_getElem? (i := 1120) (by decide +kernel), List.mem_of_getElem? (i := 1121) (by decide +kernel)⟩
theorem lw_p40 : lw_okq (⟨"SparesHouseModel", "isWord", "(J)Z"⟩, 24) := ⟨⟨by decide +kernel, by decide +kernel⟩, List.mem_of_getElem? (i := 1007) (by decide +kernel), List.mem_of_getElem? (i := 1125) (by decide +kernel), List.mem_of_getElem? (i := 1126) (by decide +kernel)⟩
theorem lw_p41 : lw_okq (⟨"SparesHouseModel", "readOne", "(III)V"⟩, 24) := ⟨⟨by decide +kernel, by decide +kernel⟩, List.mem_of_getElem? (i := 1007) (by decide +kernel), List.mem_of_getElem? (i := 1131) (by decide +kernel), List.mem_of_getElem? (i := 1132) (by decide +kernel)⟩
theorem lw_p42 : lw_okq (⟨"SparesHouseModel", "number", "(II)I"⟩, 24) := ⟨⟨by decide +kernel, by decide +kernel⟩, List.mem_of_getElem? (i := 1007) (by decide +kernel), List.mem_of_getElem? (i := 1135) (by decide +kernel), List.mem_of_getElem? (i := 1136) (by decide +kernel)⟩
theorem lw_p43 : lw_okq (⟨"SparesHouseModel", "readPart", "()V"⟩, 24) := ⟨⟨by decide +kernel, by decide +kernel⟩, List.mem_of_getElem? (i := 1007) (by decide +kernel), List.mem_of_getElem? (i := 1142) (by decide +kernel), List.mem_of_getElem? (i := 1143) (by decide +kernel)⟩
theorem lw_p44 : lw_okq (⟨"SparesHouseModel", "readBase", "()V"⟩, 24) := ⟨⟨by decide +kernel, by decide +kernel⟩, List.mem_of_getElem? (i := 1007) (by decide +kernel), List.mem_of_getElem? (i := 1147) (by decide +kernel), List.mem_of_getElem? (i := 1148) (by decide +kernel)⟩
theorem lw_p45 : lw_okq (⟨"SparesHouseModel", "readCell", "()V"⟩, 24) := ⟨⟨by decide +kernel, by decide +kernel⟩, List.mem_of_getElem? (i := 1007) (by decide +kernel), List.mem_of_getElem? (i := 1152) (by decide +kernel), List.mem_of_getElem? (i := 1153) (by decide +kernel)⟩
theorem lw_p46 : lw_okq (⟨"SparesHouseModel", "readWorks", "()V"⟩, 24) := ⟨⟨by decide +kernel, by decide +kernel⟩, List.mem_of_getElem? (i := 1007) (by decide +kernel), List.mem_of_getElem? (i := 1160) (by decide +kernel), List.mem_of_getElem? (i := 1161) (by decide +kernel)⟩
theorem lw_p47 : lw_okq (⟨"SparesHouseModel", "bringBack", "()V"⟩, 24) := ⟨⟨by decide +kernel, by decide +kernel⟩, List.mem_of_getElem? (i := 1007) (by decide +kernel), List.mem_of_getElem? (i := 1164) (by decide +kernel), List.mem_of_getElem? (i := 1165) (by decide +kernel)⟩
def lw_privs_3 : List (MethodName × Nat) := [(⟨"SparesHouse$Speller", "writeCells", "(LSparesHouse$Plan;)V"⟩, 2), (⟨"SparesHouse$Speller", "writeWorks", "(LSparesHouse$Plan;)V"⟩, 2), (⟨"SparesHouseModel", "putAside", "()V"⟩, 24), (⟨"SparesHouseModel", "nextToken", "()V"⟩, 24), (⟨"SparesHouseModel", "isLetter", "(I)Z"⟩, 24), (⟨"SparesHouseModel", "isDigit", "(I)Z"⟩, 24), (⟨"SparesHouseModel", "wrong", "(I)V"⟩, 24), (⟨"SparesHouseModel", "readLine", "()V"⟩, 24), (⟨"SparesHouseModel", "isWord", "(J)Z"⟩, 24), (⟨"SparesHouseModel", "readOne", "(III)V"⟩, 24), (⟨"SparesHouseModel", "number", "(II)I"⟩, 24), (⟨"SparesHouseModel", "readPart", "()V"⟩, 24), (⟨"SparesHouseModel", "readBase", "()V"⟩, 24), (⟨"SparesHouseModel", "readCell", "()V"⟩, 24), (⟨"SparesHouseModel", "readWorks", "()V"⟩, 24), (⟨"SparesHouseModel", "bringBack", "()V"⟩, 24)]
theorem lw_r3 : ∀ q ∈ lw_privs_3, lw_okq q := List.forall_mem_cons.mpr ⟨lw_p32, List.forall_mem_cons.mpr ⟨lw_p33, List.forall_mem_cons.mpr ⟨lw_p34, List.forall_mem_cons.mpr ⟨lw_p35, List.forall_mem_cons.mpr ⟨lw_p36, List.forall_mem_cons.mpr ⟨lw_p37, List.forall_mem_cons.mpr ⟨lw_p38, List.forall_mem_cons.mpr ⟨lw_p39, List.forall_mem_cons.mpr ⟨lw_p40, List.forall_mem_cons.mpr ⟨lw_p41, List.forall_mem_cons.mpr ⟨lw_p42, List.forall_mem_cons.mpr ⟨lw_p43, List.forall_mem_cons.mpr ⟨lw_p44, List.forall_mem_cons.mpr ⟨lw_p45, List.forall_mem_cons.mpr ⟨lw_p46, List.forall_mem_cons.mpr ⟨lw_p47, fun _ h => absurd h List.not_mem_nil⟩⟩⟩⟩⟩⟩⟩⟩⟩⟩⟩⟩⟩⟩⟩⟩
theorem lw_p48 : lw_okq (⟨"SparesHouseModel", "starts", "()V"⟩, 24) := ⟨⟨by decide +kernel, by decide +kernel⟩, List.mem_of_getElem? (i := 1007) (by decide +kernel), List.mem_of_getElem? (i := 1168) (by decide +kernel), List.mem_of_getElem? (i := 1169) (by decide +kernel)⟩
theorem lw_p49 : lw_okq (⟨"SparesHouseModel", "isCell", "(II)Z"⟩, 24) := ⟨⟨by decide +kernel, by decide +kernel⟩, List.mem_of_getElem? (i := 1007) (by decide +kernel), List.mem_of_getElem? (i := 1176) (by decide +kernel), List.mem_of_getElem? (i := 1177) (by decide +kernel)⟩
theorem lw_p50 : lw_okq (⟨"SparesHouseModel", "isBase", "(I)Z"⟩, 24) := ⟨⟨by decide +kernel, by decide +kernel⟩, List.mem_of_getElem? (i := 1007) (by decide +kernel), List.mem_of_getElem? (i := 1180) (by decide +kernel), List.mem_of_getElem? (i := 1181) (by decide +kernel)⟩
theorem lw_p51 : lw_okq (⟨"SparesHouseModel", "isPart", "(I)Z"⟩, 24) := ⟨⟨by decide +kernel, by decide +kernel⟩, List.mem_of_getElem? (i := 1007) (by decide +kernel), List.mem_of_getElem? (i := 1184) (by decide +kernel), List.mem_of_getElem? (i := 1185) (by decide +kernel)⟩
theorem lw_p52 : lw_okq (⟨"SparesHouseModel", "canBreak", "(II)Z"⟩, 24) := ⟨⟨by decide +kernel, by decide +kernel⟩, List.mem_of_getElem? (i := 1007) (by decide +kernel), List.mem_of_getElem? (i := 1188) (by decide +kernel), List.mem_of_getElem? (i := 1189) (by decide +kernel)⟩
theorem lw_p53 : lw_okq (⟨"SparesHouseModel", "remembers", "()V"⟩, 24) := ⟨⟨by decide +kernel, by decide +kernel⟩, List.mem_of_getElem? (i := 1007) (by decide +kernel), List.mem_of_getElem? (i := 1192) (by decide +kernel), List.mem_of_getElem? (i := 1193) (by decide +kernel)⟩
theorem lw_p54 : lw_okq (⟨"SparesHouseModel", "breaksOne", "(II)I"⟩, 24) := ⟨⟨by decide +kernel, by decide +kernel⟩, List.mem_of_getElem? (i := 1007) (by decide +kernel), List.mem_of_getElem? (i := 1196) (by decide +kernel), List.mem_of_getElem? (i := 1197) (by decide +kernel)⟩
theorem lw_p55 : lw_okq (⟨"SparesHouseModel", "begins", "(IIII)I"⟩, 24) := ⟨⟨by decide +kernel, by decide +kernel⟩, List.mem_of_getElem? (i := 1007) (by decide +kernel), List.mem_of_getElem? (i := 1200) (by decide +kernel), List.mem_of_getElem? (i := 1201) (by decide +kernel)⟩
theorem lw_p56 : lw_okq (⟨"SparesHouseModel", "answers", "(I)V"⟩, 24) := ⟨⟨by decide +kernel, by decide +kernel⟩, List.mem_of_getElem? (i := 1007) (by decide +kernel), List.mem_of_getElem? (i := 1204) (by decide +kernel), List.mem_of_getElem? (i := 1205) (by decide +kernel)⟩
theorem lw_p57 : lw_okq (⟨"SparesHouseModel", "nextCall", "(I)I"⟩, 24) := ⟨⟨by decide +kernel, by decide +kernel⟩, List.mem_of_getElem? (i := 1007) (by decide +kernel), List.mem_of_getElem? (i := 1208) (by decide +kernel), List.mem_of_getElem? (i := 1209) (by decide +kernel)⟩
theorem lw_p58 : lw_okq (⟨"SparesHouseModel", "wantsOf", "(II)I"⟩, 24) := ⟨⟨by decide +kernel, by decide +kernel⟩, List.mem_of_getElem? (i := 1007) (by decide +kernel), List.mem_of_getElem? (i := 1212) (by decide +kernel), List.mem_of_getElem? (i := 1213) (by decide +kernel)⟩
theorem lw_p59 : lw_okq (⟨"SparesHouseModel", "closes", "(IIII)V"⟩, 24) := ⟨⟨by decide +kernel, by decide +kernel⟩, List.mem_of_getElem? (i := 1007) (by decide +kernel), List.mem_of_getElem? (i := 1216) (by decide +kernel), List.mem_of_getElem? (i := 1217) (by decide +kernel)⟩
theorem lw_p60 : lw_okq (⟨"SparesHouseModel", "areDays", "(II)Z"⟩, 24) := ⟨⟨by decide +kernel, by decide +kernel⟩, List.mem_of_getElem? (i := 1007) (by decide +kernel), List.mem_of_getElem? (i := 1224) (by decide +kernel), List.mem_of_getElem? (i := 1225) (by decide +kernel)⟩
theorem lw_p61 : lw_okq (⟨"SparesHouseModel", "goesDay", "()V"⟩, 24) := ⟨⟨by decide +kernel, by decide +kernel⟩, List.mem_of_getElem? (i := 1007) (by decide +kernel), List.mem_of_getElem? (i := 1228) (by decide +kernel), List.mem_of_getElem? (i := 1229) (by decide +kernel)⟩
theorem lw_p62 : lw_okq (⟨"SparesHouseModel", "today", "()I"⟩, 24) := ⟨⟨by decide +kernel, by decide +kernel⟩, List.mem_of_getElem? (i := 1007) (by decide +kernel), List.mem_of_getElem? (i := 1232) (by decide +kernel), List.mem_of_getElem? (i := 1233) (by decide +kernel)⟩
theorem lw_p63 : lw_okq (⟨"SparesHouseModel", "arrives", "(I)V"⟩, 24) := ⟨⟨by decide +kernel, by decide +kernel⟩, List.mem_of_getElem? (i := 1007) (by decide +kernel), List.mem_of_getElem? (i := 1236) (by decide +kernel), List.mem_of_getElem? (i := 1237) (by decide +kernel)⟩
def lw_privs_4 : List (MethodName × Nat) := [(⟨"SparesHouseModel", "starts", "()V"⟩, 24), (⟨"SparesHouseModel", "isCell", "(II)Z"⟩, 24), (⟨"SparesHouseModel", "isBase", "(I)Z"⟩, 24), (⟨"SparesHouseModel", "isPart", "(I)Z"⟩, 24), (⟨"SparesHouseModel", "canBreak", "(II)Z"⟩, 24), (⟨"SparesHouseModel", "remembers", "()V"⟩, 24), (⟨"SparesHouseModel", "breaksOne", "(II)I"⟩, 24), (⟨"SparesHouseModel", "begins", "(IIII)I"⟩, 24), (⟨"SparesHouseModel", "answers", "(I)V"⟩, 24), (⟨"SparesHouseModel", "nextCall", "(I)I"⟩, 24), (⟨"SparesHouseModel", "wantsOf", "(II)I"⟩, 24), (⟨"SparesHouseModel", "closes", "(IIII)V"⟩, 24), (⟨"SparesHouseModel", "areDays", "(II)Z"⟩, 24), (⟨"SparesHouseModel", "goesDay", "()V"⟩, 24), (⟨"SparesHouseModel", "today", "()I"⟩, 24), (⟨"SparesHouseModel", "arrives", "(I)V"⟩, 24)]
theorem lw_r4 : ∀ q ∈ lw_privs_4, lw_okq q := List.forall_mem_cons.mpr ⟨lw_p48, List.forall_mem_cons.mpr ⟨lw_p49, List.forall_mem_cons.mpr ⟨lw_p50, List.forall_mem_cons.mpr ⟨lw_p51, List.forall_mem_cons.mpr ⟨lw_p52, List.forall_mem_cons.mpr ⟨lw_p53, List.forall_mem_cons.mpr ⟨lw_p54, List.forall_mem_cons.mpr ⟨lw_p55, List.forall_mem_cons.mpr ⟨lw_p56, List.forall_mem_cons.mpr ⟨lw_p57, List.forall_mem_cons.mpr ⟨lw_p58, List.forall_mem_cons.mpr ⟨lw_p59, List.forall_mem_cons.mpr ⟨lw_p60, List.forall_mem_cons.mpr ⟨lw_p61, List.forall_mem_cons.mpr ⟨lw_p62, List.forall_mem_cons.mpr ⟨lw_p63, fun _ h => absurd h List.not_mem_nil⟩⟩⟩⟩⟩⟩⟩⟩⟩⟩⟩⟩⟩⟩⟩⟩
theorem lw_p64 : lw_okq (⟨"SparesHouseModel", "loads", "()V"⟩, 24) := ⟨⟨by decide +kernel, by decide +kernel⟩, List.mem_of_getElem? (i := 1007) (by decide +kernel), List.mem_of_getElem? (i := 1240) (by decide +kernel), List.mem_of_getElem? (i := 1241) (by decide +kernel)⟩
theorem lw_p65 : lw_okq (⟨"SparesHouseModel", "onBenches", "()I"⟩, 24) := ⟨⟨by decide +kernel, by decide +kernel⟩, List.mem_of_getElem? (i := 1007) (by decide +kernel), List.mem_of_getElem? (i := 1244) (by decide +kernel), List.mem_of_getElem? (i := 1245) (by decide +kernel)⟩
theorem lw_p66 : lw_okq (⟨"SparesHouseModel", "comes", "(II)V"⟩, 24) := ⟨⟨by decide +kernel, by decide +kernel⟩, List.mem_of_getElem? (i := 1007) (by decide +kernel), List.mem_of_getElem? (i := 1248) (by decide +kernel), List.mem_of_getElem? (i := 1249) (by decide +kernel)⟩
theorem lw_p67 : lw_okq (⟨"SparesHouseModel", "lends", "()V"⟩, 24) := ⟨⟨by decide +kernel, by decide +kernel⟩, List.mem_of_getElem? (i := 1007) (by decide +kernel), List.mem_of_getElem? (i := 1252) (by decide +kernel), List.mem_of_getElem? (i := 1253) (by decide +kernel)⟩
theorem lw_p68 : lw_okq (⟨"SparesHouseModel", "lender", "(II)I"⟩, 24) := ⟨⟨by decide +kernel, by decide +kernel⟩, List.mem_of_getElem? (i := 1007) (by decide +kernel), List.mem_of_getElem? (i := 1256) (by decide +kernel), List.mem_of_getElem? (i := 1257) (by decide +kernel)⟩
theorem lw_p69 : lw_okq (⟨"SparesHouseModel", "runs", "(II)I"⟩, 24) := ⟨⟨by decide +kernel, by decide +kernel⟩, List.mem_of_getElem? (i := 1007) (by decide +kernel), List.mem_of_getElem? (i := 1264) (by decide +kernel), List.mem_of_getElem? (i := 1265) (by decide +kernel)⟩
theorem lw_p70 : lw_okq (⟨"SparesHouseModel", "puts", "(II)I"⟩, 24) := ⟨⟨by decide +kernel, by decide +kernel⟩, List.mem_of_getElem? (i := 1007) (by decide +kernel), List.mem_of_getElem? (i := 1285) (by decide +kernel), List.mem_of_getElem? (i := 1286) (by decide +kernel)⟩
theorem lw_p71 : lw_okq (⟨"SparesHouseModel", "callsOfPart", "(I)I"⟩, 24) := ⟨⟨by decide +kernel, by decide +kernel⟩, List.mem_of_getElem? (i := 1007) (by decide +kernel), List.mem_of_getElem? (i := 1317) (by decide +kernel), List.mem_of_getElem? (i := 1318) (by decide +kernel)⟩
theorem lw_p72 : lw_okq (⟨"SparesHouseModel", "callsOf", "(II)I"⟩, 24) := ⟨⟨by decide +kernel, by decide +kernel⟩, List.mem_of_getElem? (i := 1007) (by decide +kernel), List.mem_of_getElem? (i := 1321) (by decide +kernel), List.mem_of_getElem? (i := 1322) (by decide +kernel)⟩
theorem lw_p73 : lw_okq (⟨"SparesHouseModel", "waiting", "(I)I"⟩, 24) := ⟨⟨by decide +kernel, by decide +kernel⟩, List.mem_of_getElem? (i := 1007) (by decide +kernel), List.mem_of_getElem? (i := 1325) (by decide +kernel), List.mem_of_getElem? (i := 1326) (by decide +kernel)⟩
theorem lw_p74 : lw_okq (⟨"SparesHouseModel", "waysOf", "(III)I"⟩, 24) := ⟨⟨by decide +kernel, by decide +kernel⟩, List.mem_of_getElem? (i := 1007) (by decide +kernel), List.mem_of_getElem? (i := 1329) (by decide +kernel), List.mem_of_getElem? (i := 1330) (by decide +kernel)⟩
theorem lw_p75 : lw_okq (⟨"SparesHouseModel", "late", "()I"⟩, 24) := ⟨⟨by decide +kernel, by decide +kernel⟩, List.mem_of_getElem? (i := 1007) (by decide +kernel), List.mem_of_getElem? (i := 1361) (by decide +kernel), List.mem_of_getElem? (i := 1362) (by decide +kernel)⟩
theorem lw_p76 : lw_okq (⟨"SparesHouseModel", "mostLate", "()I"⟩, 24) := ⟨⟨by decide +kernel, by decide +kernel⟩, List.mem_of_getElem? (i := 1007) (by decide +kernel), List.mem_of_getElem? (i := 1365) (by decide +kernel), List.mem_of_getElem? (i := 1366) (by decide +kernel)⟩
theorem lw_p77 : lw_okq (⟨"SparesHouseModel", "outOf", "(II)J"⟩, 24) := ⟨⟨by decide +kernel, by decide +kernel⟩, List.mem_of_getElem? (i := 1007) (by decide +kernel), List.mem_of_getElem? (i := 1373) (by decide +kernel), List.mem_of_getElem? (i := 1374) (by decide +kernel)⟩
theorem lw_p78 : lw_okq (⟨"SparesHouseModel", "lackOf", "(II)J"⟩, 24) := ⟨⟨by decide +kernel, by decide +kernel⟩, List.mem_of_getElem? (i := 1007) (by decide +kernel), List.mem_of_getElem? (i := 1386) (by decide +kernel), List.mem_of_getElem? (i := 1387) (by decide +kernel)⟩
theorem lw_p79 : lw_okq (⟨"SparesHouseModel", "lacksBySpares", "([I)J"⟩, 24) := ⟨⟨by decide +kernel, by decide +kernel⟩, List.mem_of_getElem? (i := 1007) (by decide +kernel), List.mem_of_getElem? (i := 1394) (by decide +kernel), List.mem_of_getElem? (i := 1395) (by decide +kernel)⟩
def lw_privs_5 : List (MethodName × Nat) := [(⟨"SparesHouseModel", "loads", "()V"⟩, 24), (⟨"SparesHouseModel", "onBenches", "()I"⟩, 24), (⟨"SparesHouseModel", "comes", "(II)V"⟩, 24), (⟨"SparesHouseModel", "lends", "()V"⟩, 24), (⟨"SparesHouseModel", "lender", "(II)I"⟩, 24), (⟨"SparesHouseModel", "runs", "(II)I"⟩, 24), (⟨"SparesHouseModel", "puts", "(II)I"⟩, 24), (⟨"SparesHouseModel", "callsOfPart", "(I)I"⟩, 24), (⟨"SparesHouseModel", "callsOf", "(II)I"⟩, 24), (⟨"SparesHouseModel", "waiting", "(I)I"⟩, 24), (⟨"SparesHouseModel", "waysOf", "(III)I"⟩, 24), (⟨"SparesHouseModel", "late", "()I"⟩, 24), (⟨"SparesHouseModel", "mostLate", "()I"⟩, 24), (⟨"SparesHouseModel", "outOf", "(II)J"⟩, 24), (⟨"SparesHouseModel", "lackOf", "(II)J"⟩, 24), (⟨"SparesHouseModel", "lacksBySpares", "([I)J"⟩, 24)]
theorem lw_r5 : ∀ q ∈ lw_privs_5, lw_okq q := List.forall_mem_cons.mpr ⟨lw_p64, List.forall_mem_cons.mpr ⟨lw_p65, List.forall_mem_cons.mpr ⟨lw_p66, List.forall_mem_cons.mpr ⟨lw_p67, List.forall_mem_cons.mpr ⟨lw_p68, List.forall_mem_cons.mpr ⟨lw_p69, List.forall_mem_cons.mpr ⟨lw_p70, List.forall_mem_cons.mpr ⟨lw_p71, List.forall_mem_cons.mpr ⟨lw_p72, List.forall_mem_cons.mpr ⟨lw_p73, List.forall_mem_cons.mpr ⟨lw_p74, List.forall_mem_cons.mpr ⟨lw_p75, List.forall_mem_cons.mpr ⟨lw_p76, List.forall_mem_cons.mpr ⟨lw_p77, List.forall_mem_cons.mpr ⟨lw_p78, List.forall_mem_cons.mpr ⟨lw_p79, fun _ h => absurd h List.not_mem_nil⟩⟩⟩⟩⟩⟩⟩⟩⟩⟩⟩⟩⟩⟩⟩⟩
theorem lw_p80 : lw_okq (⟨"SparesHouseModel", "layBuys", "()V"⟩, 24) := ⟨⟨by decide +kernel, by decide +kernel⟩, List.mem_of_getElem? (i := 1007) (by decide +kernel), List.mem_of_getElem? (i := 1408) (by decide +kernel), List.mem_of_getElem? (i := 1409) (by decide +kernel)⟩
theorem lw_p81 : lw_okq (⟨"SparesHouseModel", "nextBuy", "()I"⟩, 24) := ⟨⟨by decide +kernel, by decide +kernel⟩, List.mem_of_getElem? (i := 1007) (by decide +kernel), List.mem_of_getElem? (i := 1412) (by decide +kernel), List.mem_of_getElem? (i := 1413) (by decide +kernel)⟩
theorem lw_p82 : lw_okq (⟨"SparesHouseModel", "gainOf", "(I)J"⟩, 24) := ⟨⟨by decide +kernel, by decide +kernel⟩, List.mem_of_getElem? (i := 1007) (by decide +kernel), List.mem_of_getElem? (i := 1416) (by decide +kernel), List.mem_of_getElem? (i := 1417) (by decide +kernel)⟩
theorem lw_p83 : lw_okq (⟨"SparesHouseModel", "layBought", "(I)I"⟩, 24) := ⟨⟨by decide +kernel, by decide +kernel⟩, List.mem_of_getElem? (i := 1007) (by decide +kernel), List.mem_of_getElem? (i := 1424) (by decide +kernel), List.mem_of_getElem? (i := 1425) (by decide +kernel)⟩
theorem lw_p84 : lw_okq (⟨"SparesHouseModel", "layBest", "()V"⟩, 24) := ⟨⟨by decide +kernel, by decide +kernel⟩, List.mem_of_getElem? (i := 1007) (by decide +kernel), List.mem_of_getElem? (i := 1432) (by decide +kernel), List.mem_of_getElem? (i := 1433) (by decide +kernel)⟩
theorem lw_p85 : lw_okq (⟨"SparesHouseModel", "spellsAll", "()V"⟩, 24) := ⟨⟨by decide +kernel, by decide +kernel⟩, List.mem_of_getElem? (i := 1007) (by decide +kernel), List.mem_of_getElem? (i := 1472) (by decide +kernel), List.mem_of_getElem? (i := 1473) (by decide +kernel)⟩
theorem lw_p86 : lw_okq (⟨"SparesHouseModel", "spellsOne", "(JI)V"⟩, 24) := ⟨⟨by decide +kernel, by decide +kernel⟩, List.mem_of_getElem? (i := 1007) (by decide +kernel), List.mem_of_getElem? (i := 1476) (by decide +kernel), List.mem_of_getElem? (i := 1477) (by decide +kernel)⟩
theorem lw_p87 : lw_okq (⟨"SparesHouseModel", "spells", "(J)V"⟩, 24) := ⟨⟨by decide +kernel, by decide +kernel⟩, List.mem_of_getElem? (i := 1007) (by decide +kernel), List.mem_of_getElem? (i := 1480) (by decide +kernel), List.mem_of_getElem? (i := 1481) (by decide +kernel)⟩
theorem lw_p88 : lw_okq (⟨"SparesHouseModel", "spellsLast", "(I)V"⟩, 24) := ⟨⟨by decide +kernel, by decide +kernel⟩, List.mem_of_getElem? (i := 1007) (by decide +kernel), List.mem_of_getElem? (i := 1484) (by decide +kernel), List.mem_of_getElem? (i := 1485) (by decide +kernel)⟩
theorem lw_p89 : lw_okq (⟨"SparesHouseModel", "spellsNumber", "(I)V"⟩, 24) := ⟨⟨by decide +kernel, by decide +kernel⟩, List.mem_of_getElem? (i := 1007) (by decide +kernel), List.mem_of_getElem? (i := 1488) (by decide +kernel), List.mem_of_getElem? (i := 1489) (by decide +kernel)⟩
theorem lw_p90 : lw_okq (⟨"SparesHouseModel", "spellsCell", "(II)V"⟩, 24) := ⟨⟨by decide +kernel, by decide +kernel⟩, List.mem_of_getElem? (i := 1007) (by decide +kernel), List.mem_of_getElem? (i := 1492) (by decide +kernel), List.mem_of_getElem? (i := 1493) (by decide +kernel)⟩
theorem lw_p91 : lw_okq (⟨"SparesHouseModel", "sumOf", "(II)I"⟩, 24) := ⟨⟨by decide +kernel, by decide +kernel⟩, List.mem_of_getElem? (i := 1007) (by decide +kernel), List.mem_of_getElem? (i := 1500) (by decide +kernel), List.mem_of_getElem? (i := 1501) (by decide +kernel)⟩
def lw_privs_6 : List (MethodName × Nat) := [(⟨"SparesHouseModel", "layBuys", "()V"⟩, 24), (⟨"SparesHouseModel", "nextBuy", "()I"⟩, 24), (⟨"SparesHouseModel", "gainOf", "(I)J"⟩, 24), (⟨"SparesHouseModel", "layBought", "(I)I"⟩, 24), (⟨"SparesHouseModel", "layBest", "()V"⟩, 24), (⟨"SparesHouseModel", "spellsAll", "()V"⟩, 24), (⟨"SparesHouseModel", "spellsOne", "(JI)V"⟩, 24), (⟨"SparesHouseModel", "spells", "(J)V"⟩, 24), (⟨"SparesHouseModel", "spellsLast", "(I)V"⟩, 24), (⟨"SparesHouseModel", "spellsNumber", "(I)V"⟩, 24), (⟨"SparesHouseModel", "spellsCell", "(II)V"⟩, 24), (⟨"SparesHouseModel", "sumOf", "(II)I"⟩, 24)]
theorem lw_r6 : ∀ q ∈ lw_privs_6, lw_okq q := List.forall_mem_cons.mpr ⟨lw_p80, List.forall_mem_cons.mpr ⟨lw_p81, List.forall_mem_cons.mpr ⟨lw_p82, List.forall_mem_cons.mpr ⟨lw_p83, List.forall_mem_cons.mpr ⟨lw_p84, List.forall_mem_cons.mpr ⟨lw_p85, List.forall_mem_cons.mpr ⟨lw_p86, List.forall_mem_cons.mpr ⟨lw_p87, List.forall_mem_cons.mpr ⟨lw_p88, List.forall_mem_cons.mpr ⟨lw_p89, List.forall_mem_cons.mpr ⟨lw_p90, List.forall_mem_cons.mpr ⟨lw_p91, fun _ h => absurd h List.not_mem_nil⟩⟩⟩⟩⟩⟩⟩⟩⟩⟩⟩⟩
def lw_privs : List (MethodName × Nat) := lw_privs_1 ++ (lw_privs_2 ++ (lw_privs_3 ++ (lw_privs_4 ++ (lw_privs_5 ++ (lw_privs_6)))))
def lw_tbl : List Cond := k2_sels lw_privs ++ tables_1
theorem lw_privs_ok : ∀ q ∈ lw_privs, lw_okq q := by
  show ∀ q ∈ lw_privs_1 ++ (lw_privs_2 ++ (lw_privs_3 ++ (lw_privs_4 ++ (lw_privs_5 ++ (lw_privs_6))))), lw_okq q
  exact List.forall_mem_append.mpr ⟨lw_r1, List.forall_mem_append.mpr ⟨lw_r2, List.forall_mem_append.mpr ⟨lw_r3, List.forall_mem_append.mpr ⟨lw_r4, List.forall_mem_append.mpr ⟨lw_r5, lw_r6⟩⟩⟩⟩⟩
-- ===== end of PART A; then your names; then what follows =====
/-! ===== BEGIN words of one list among another's, by their places ===== -/
theorem goodIn_r {big : List Cond} (ws : List Cond) (ps : List Nat) (hp : ws = ps.filterMap (fun i => big[i]?)) (h : ws.all goodWord = true) : GoodIn big ws := by
  intro w hw
  have h1 := List.all_eq_true.mp h w hw
  rw [hp] at hw
  obtain ⟨i, -, hi⟩ := List.mem_filterMap.mp hw
  have hm : w ∈ big := by first | exact List.mem_of_getElem? hi | exact List.getElem?_mem hi
  exact ⟨hm, good_of_word h1⟩
theorem goodIn_app {big a b : List Cond} (ha : GoodIn big a) (hb : GoodIn big b) : GoodIn big (a ++ b) := fun w h => (List.mem_append.mp h).elim (ha w) (hb w)
theorem goodIn_ca {big a b : List Cond} {c : Cond} (ha : GoodIn big (c :: a)) (hb : GoodIn big b) : GoodIn big (c :: (a ++ b)) := fun w h => (List.mem_cons.mp h).elim (fun e => ha w (List.mem_cons.mpr (Or.inl e))) (fun h => (List.mem_append.mp h).elim (fun h => ha w (List.mem_cons.mpr (Or.inr h))) (hb w))
theorem goodIn_sub {big ws : List Cond} (hm : ∀ w ∈ ws, w ∈ big) (h : ws.all goodWord = true) : GoodIn big ws := fun w hw => ⟨hm w hw, good_of_word (List.all_eq_true.mp h w hw)⟩
/-! ===== END ===== -/

/-! ===== BEGIN printed: names, fields, word lists, decode rows ===== -/
def RX0 : String := "SparesHouse$Acts"
def TX0 : u_T := fun k => match k with
  | 0 => ("SparesHouse$Acts", "kept", "[LSparesHouse$Play;", true)
  | 1 => ("SparesHouse$Acts", "next", "I", false)
  | _ => ("SparesHouse$Acts", "size", "I", false)
def tyX0 : Nat → FieldType := fun k => match k with
  | 0 => .array (.object "SparesHouse$Play")
  | 1 => .int
  | _ => .int
abbrev wsX00 : List Cond := u_ws RX0 TX0 3
theorem nmX0 : ∀ a, a < 3 → ∀ b, b < 3 → a ≠ b → (TX0 a).2.1 ≠ (TX0 b).2.1 := by decide +kernel
theorem tyX0_ok : ∀ k, k < 3 → parseFieldDescriptor (TX0 k).2.2.1 = some (tyX0 k) := by decide +kernel
abbrev cX0_init : ByteArray := prog_2_method_1_code
def yX0_init : MethodName := ⟨RX0, "<init>", "()V"⟩
abbrev cX0_remember : ByteArray := prog_2_method_2_code
def yX0_remember : MethodName := ⟨RX0, "remember", "(LSparesHouse$Play;)V"⟩
abbrev cX0_takeBack : ByteArray := prog_2_method_3_code
def yX0_takeBack : MethodName := ⟨RX0, "takeBack", "(LSparesHouse$Play;)Z"⟩
abbrev cX0_forget : ByteArray := prog_2_method_4_code
def yX0_forget : MethodName := ⟨RX0, "forget", "()V"⟩
def RX1 : String := "SparesHouse$Plan"
def TX1 : u_T := fun k => match k with
  | 0 => ("SparesHouse$Plan", "parts", "I", false)
  | 1 => ("SparesHouse$Plan", "bases", "I", false)
  | 2 => ("SparesHouse$Plan", "benches", "I", false)
  | 3 => ("SparesHouse$Plan", "keep", "I", false)
  | 4 => ("SparesHouse$Plan", "rule", "I", false)
  | 5 => ("SparesHouse$Plan", "price", "[I", true)
  | 6 => ("SparesHouse$Plan", "mend", "[I", true)
  | 7 => ("SparesHouse$Plan", "work", "[I", true)
  | 8 => ("SparesHouse$Plan", "worksStock", "[I", true)
  | 9 => ("SparesHouse$Plan", "ship", "[I", true)
  | 10 => ("SparesHouse$Plan", "units", "[I", true)
  | 11 => ("SparesHouse$Plan", "odds", "[I", true)
  | _ => ("SparesHouse$Plan", "stock", "[I", true)
def tyX1 : Nat → FieldType := fun k => match k with
  | 0 => .int
  | 1 => .int
  | 2 => .int
  | 3 => .int
  | 4 => .int
  | 5 => .array .int
  | 6 => .array .int
  | 7 => .array .int
  | 8 => .array .int
  | 9 => .array .int
  | 10 => .array .int
  | 11 => .array .int
  | _ => .array .int
abbrev wsX10 : List Cond := u_ws RX1 TX1 13
theorem nmX1 : ∀ a, a < 13 → ∀ b, b < 13 → a ≠ b → (TX1 a).2.1 ≠ (TX1 b).2.1 := by decide +kernel
theorem tyX1_ok : ∀ k, k < 13 → parseFieldDescriptor (TX1 k).2.2.1 = some (tyX1 k) := by decide +kernel
abbrev cX1_init : ByteArray := prog_3_method_1_code
def yX1_init : MethodName := ⟨RX1, "<init>", "()V"⟩
abbrev cX1_clear : ByteArray := prog_3_method_2_code
def yX1_clear : MethodName := ⟨RX1, "clear", "()V"⟩
abbrev cX1_copyFrom : ByteArray := prog_3_method_3_code
def yX1_copyFrom : MethodName := ⟨RX1, "copyFrom", "(LSparesHouse$Plan;)V"⟩
abbrev cX1_hasPart : ByteArray := prog_3_method_4_code
def yX1_hasPart : MethodName := ⟨RX1, "hasPart", "(I)Z"⟩
abbrev cX1_hasBase : ByteArray := prog_3_method_5_code
def yX1_hasBase : MethodName := ⟨RX1, "hasBase", "(I)Z"⟩
abbrev cX1_hasCell : ByteArray := prog_3_method_6_code
def yX1_hasCell : MethodName := ⟨RX1, "hasCell", "(II)Z"⟩
abbrev cX1_ofPart : ByteArray := prog_3_method_7_code
def yX1_ofPart : MethodName := ⟨RX1, "ofPart", "(II)I"⟩
abbrev cX1_changePart : ByteArray := prog_3_method_8_code
def yX1_changePart : MethodName := ⟨RX1, "changePart", "(III)V"⟩
def RX2 : String := "SparesHouse$Play"
def TX2 : u_T := fun k => match k with
  | 0 => ("SparesHouse$Play", "plan", "LSparesHouse$Plan;", true)
  | 1 => ("SparesHouse$Play", "hand", "[I", true)
  | 2 => ("SparesHouse$Play", "holes", "[I", true)
  | 3 => ("SparesHouse$Play", "lentNet", "[I", true)
  | 4 => ("SparesHouse$Play", "worksHand", "[I", true)
  | 5 => ("SparesHouse$Play", "ways", "LSparesHouse$Row;", true)
  | 6 => ("SparesHouse$Play", "wants", "LSparesHouse$Row;", true)
  | 7 => ("SparesHouse$Play", "calls", "LSparesHouse$Row;", true)
  | 8 => ("SparesHouse$Play", "waiting", "LSparesHouse$Row;", true)
  | 9 => ("SparesHouse$Play", "day", "I", false)
  | 10 => ("SparesHouse$Play", "begun", "I", false)
  | 11 => ("SparesHouse$Play", "onBenches", "I", false)
  | 12 => ("SparesHouse$Play", "broken", "I", false)
  | 13 => ("SparesHouse$Play", "handed", "I", false)
  | 14 => ("SparesHouse$Play", "filled", "I", false)
  | 15 => ("SparesHouse$Play", "lateOfFilled", "I", false)
  | 16 => ("SparesHouse$Play", "longestOfFilled", "I", false)
  | 17 => ("SparesHouse$Play", "lent", "I", false)
  | _ => ("SparesHouse$Play", "answered", "I", false)
def tyX2 : Nat → FieldType := fun k => match k with
  | 0 => .object "SparesHouse$Plan"
  | 1 => .array .int
  | 2 => .array .int
  | 3 => .array .int
  | 4 => .array .int
  | 5 => .object "SparesHouse$Row"
  | 6 => .object "SparesHouse$Row"
  | 7 => .object "SparesHouse$Row"
  | 8 => .object "SparesHouse$Row"
  | 9 => .int
  | 10 => .int
  | 11 => .int
  | 12 => .int
  | 13 => .int
  | 14 => .int
  | 15 => .int
  | 16 => .int
  | 17 => .int
  | _ => .int
abbrev wsX20 : List Cond := u_ws RX2 TX2 19
theorem nmX2 : ∀ a, a < 19 → ∀ b, b < 19 → a ≠ b → (TX2 a).2.1 ≠ (TX2 b).2.1 := by decide +kernel
theorem tyX2_ok : ∀ k, k < 19 → parseFieldDescriptor (TX2 k).2.2.1 = some (tyX2 k) := by decide +kernel
abbrev cX2_init : ByteArray := prog_4_method_1_code
def yX2_init : MethodName := ⟨RX2, "<init>", "()V"⟩
abbrev cX2_beginAnew : ByteArray := prog_4_method_2_code
def yX2_beginAnew : MethodName := ⟨RX2, "beginAnew", "()V"⟩
abbrev cX2_copyFrom : ByteArray := prog_4_method_3_code
def yX2_copyFrom : MethodName := ⟨RX2, "copyFrom", "(LSparesHouse$Play;)V"⟩
abbrev cX2_canGoBy : ByteArray := prog_4_method_4_code
def yX2_canGoBy : MethodName := ⟨RX2, "canGoBy", "(II)Z"⟩
abbrev cX2_canBreak : ByteArray := prog_4_method_5_code
def yX2_canBreak : MethodName := ⟨RX2, "canBreak", "(I)Z"⟩
abbrev cX2_breakPiece : ByteArray := prog_4_method_6_code
def yX2_breakPiece : MethodName := ⟨RX2, "breakPiece", "(I)I"⟩
abbrev cX2_beginWay : ByteArray := prog_4_method_7_code
def yX2_beginWay : MethodName := ⟨RX2, "beginWay", "(III)V"⟩
abbrev cX2_receive : ByteArray := prog_4_method_8_code
def yX2_receive : MethodName := ⟨RX2, "receive", "(I)V"⟩
abbrev cX2_answerCalls : ByteArray := prog_4_method_9_code
def yX2_answerCalls : MethodName := ⟨RX2, "answerCalls", "(I)V"⟩
abbrev cX2_callToAnswer : ByteArray := prog_4_method_10_code
def yX2_callToAnswer : MethodName := ⟨RX2, "callToAnswer", "(I)I"⟩
abbrev cX2_haveBenches : ByteArray := prog_4_method_11_code
def yX2_haveBenches : MethodName := ⟨RX2, "haveBenches", "(I)V"⟩
abbrev cX2_fillBenches : ByteArray := prog_4_method_12_code
def yX2_fillBenches : MethodName := ⟨RX2, "fillBenches", "()V"⟩
abbrev cX2_goBy : ByteArray := prog_4_method_13_code
def yX2_goBy : MethodName := ⟨RX2, "goBy", "()V"⟩
abbrev cX2_come : ByteArray := prog_4_method_14_code
def yX2_come : MethodName := ⟨RX2, "come", "(II)V"⟩
abbrev cX2_lendAll : ByteArray := prog_4_method_15_code
def yX2_lendAll : MethodName := ⟨RX2, "lendAll", "()V"⟩
abbrev cX2_hasOneToLend : ByteArray := prog_4_method_16_code
def yX2_hasOneToLend : MethodName := ⟨RX2, "hasOneToLend", "()Z"⟩
abbrev cX2_lenderFor : ByteArray := prog_4_method_17_code
def yX2_lenderFor : MethodName := ⟨RX2, "lenderFor", "(I)I"⟩
abbrev cX2_lend : ByteArray := prog_4_method_18_code
def yX2_lend : MethodName := ⟨RX2, "lend", "(II)V"⟩
abbrev cX2_drawDays : ByteArray := prog_4_method_19_code
def yX2_drawDays : MethodName := ⟨RX2, "drawDays", "(II)I"⟩
abbrev cX2_goTillQuiet : ByteArray := prog_4_method_20_code
def yX2_goTillQuiet : MethodName := ⟨RX2, "goTillQuiet", "()I"⟩
abbrev cX2_waysOf : ByteArray := prog_4_method_21_code
def yX2_waysOf : MethodName := ⟨RX2, "waysOf", "(III)I"⟩
abbrev cX2_inHand : ByteArray := prog_4_method_22_code
def yX2_inHand : MethodName := ⟨RX2, "inHand", "(I)I"⟩
abbrev cX2_late : ByteArray := prog_4_method_23_code
def yX2_late : MethodName := ⟨RX2, "late", "()I"⟩
abbrev cX2_longestWait : ByteArray := prog_4_method_24_code
def yX2_longestWait : MethodName := ⟨RX2, "longestWait", "()I"⟩
abbrev cX2_tell : ByteArray := prog_4_method_25_code
def yX2_tell : MethodName := ⟨RX2, "tell", "(I)I"⟩
def RX3 : String := "SparesHouse$Reader"
def TX3 : u_T := fun k => match k with
  | 0 => ("SparesHouse$Reader", "told", "LSparesHouse$Plan;", true)
  | 1 => ("SparesHouse$Reader", "numbers", "[I", true)
  | 2 => ("SparesHouse$Reader", "bytes", "[B", false)
  | 3 => ("SparesHouse$Reader", "length", "I", false)
  | _ => ("SparesHouse$Reader", "at", "I", false)
def tyX3 : Nat → FieldType := fun k => match k with
  | 0 => .object "SparesHouse$Plan"
  | 1 => .array .int
  | 2 => .array .byte
  | 3 => .int
  | _ => .int
abbrev wsX30 : List Cond := u_ws RX3 TX3 5
theorem nmX3 : ∀ a, a < 5 → ∀ b, b < 5 → a ≠ b → (TX3 a).2.1 ≠ (TX3 b).2.1 := by decide +kernel
theorem tyX3_ok : ∀ k, k < 5 → parseFieldDescriptor (TX3 k).2.2.1 = some (tyX3 k) := by decide +kernel
abbrev cX3_init : ByteArray := prog_5_method_1_code
def yX3_init : MethodName := ⟨RX3, "<init>", "()V"⟩
abbrev cX3_readAll : ByteArray := prog_5_method_2_code
def yX3_readAll : MethodName := ⟨RX3, "readAll", "([BI)I"⟩
abbrev cX3_readOne : ByteArray := prog_5_method_3_code
def yX3_readOne : MethodName := ⟨RX3, "readOne", "()I"⟩
abbrev cX3_isOneTooMany : ByteArray := prog_5_method_4_code
def yX3_isOneTooMany : MethodName := ⟨RX3, "isOneTooMany", "(I)Z"⟩
abbrev cX3_skipGaps : ByteArray := prog_5_method_5_code
def yX3_skipGaps : MethodName := ⟨RX3, "skipGaps", "()V"⟩
abbrev cX3_readWord : ByteArray := prog_5_method_6_code
def yX3_readWord : MethodName := ⟨RX3, "readWord", "()I"⟩
abbrev cX3_isSpelled : ByteArray := prog_5_method_7_code
def yX3_isSpelled : MethodName := ⟨RX3, "isSpelled", "(Ljava/lang/String;I)Z"⟩
abbrev cX3_readNumber : ByteArray := prog_5_method_8_code
def yX3_readNumber : MethodName := ⟨RX3, "readNumber", "(II)I"⟩
abbrev cX3_take : ByteArray := prog_5_method_9_code
def yX3_take : MethodName := ⟨RX3, "take", "(I)V"⟩
abbrev cX3_takePart : ByteArray := prog_5_method_10_code
def yX3_takePart : MethodName := ⟨RX3, "takePart", "()V"⟩
abbrev cX3_takeBase : ByteArray := prog_5_method_11_code
def yX3_takeBase : MethodName := ⟨RX3, "takeBase", "()V"⟩
abbrev cX3_takeCell : ByteArray := prog_5_method_12_code
def yX3_takeCell : MethodName := ⟨RX3, "takeCell", "()V"⟩
def RX4 : String := "SparesHouse$Row"
def TX4 : u_T := fun k => match k with
  | 0 => ("SparesHouse$Row", "slips", "[J", true)
  | _ => ("SparesHouse$Row", "size", "I", false)
def tyX4 : Nat → FieldType := fun k => match k with
  | 0 => .array .long
  | _ => .int
abbrev wsX40 : List Cond := u_ws RX4 TX4 2
theorem nmX4 : ∀ a, a < 2 → ∀ b, b < 2 → a ≠ b → (TX4 a).2.1 ≠ (TX4 b).2.1 := by decide +kernel
theorem tyX4_ok : ∀ k, k < 2 → parseFieldDescriptor (TX4 k).2.2.1 = some (tyX4 k) := by decide +kernel
abbrev cX4_init : ByteArray := prog_6_method_1_code
def yX4_init : MethodName := ⟨RX4, "<init>", "(I)V"⟩
abbrev cX4_has : ByteArray := prog_6_method_2_code
def yX4_has : MethodName := ⟨RX4, "has", "(I)Z"⟩
abbrev cX4_at : ByteArray := prog_6_method_3_code
def yX4_at : MethodName := ⟨RX4, "at", "(I)J"⟩
abbrev cX4_add : ByteArray := prog_6_method_4_code
def yX4_add : MethodName := ⟨RX4, "add", "(J)V"⟩
abbrev cX4_put : ByteArray := prog_6_method_5_code
def yX4_put : MethodName := ⟨RX4, "put", "(IJ)V"⟩
abbrev cX4_insertInOrder : ByteArray := prog_6_method_6_code
def yX4_insertInOrder : MethodName := ⟨RX4, "insertInOrder", "(J)V"⟩
abbrev cX4_removeAt : ByteArray := prog_6_method_7_code
def yX4_removeAt : MethodName := ⟨RX4, "removeAt", "(I)V"⟩
abbrev cX4_countAt : ByteArray := prog_6_method_8_code
def yX4_countAt : MethodName := ⟨RX4, "countAt", "(II)I"⟩
abbrev cX4_findAt : ByteArray := prog_6_method_9_code
def yX4_findAt : MethodName := ⟨RX4, "findAt", "(III)I"⟩
abbrev cX4_copyFrom : ByteArray := prog_6_method_10_code
def yX4_copyFrom : MethodName := ⟨RX4, "copyFrom", "(LSparesHouse$Row;)V"⟩
def RX5 : String := "SparesHouse$Slip"
def TX5 : u_T := fun k => match k with
  | _ => ("", "", "", false)
def tyX5 : Nat → FieldType := fun k => match k with
  | _ => .int
abbrev wsX50 : List Cond := u_ws RX5 TX5 0
theorem nmX5 : ∀ a, a < 0 → ∀ b, b < 0 → a ≠ b → (TX5 a).2.1 ≠ (TX5 b).2.1 := by decide +kernel
theorem tyX5_ok : ∀ k, k < 0 → parseFieldDescriptor (TX5 k).2.2.1 = some (tyX5 k) := by decide +kernel
abbrev cX5_of : ByteArray := prog_7_method_2_code
def yX5_of : MethodName := ⟨RX5, "of", "(IIII)J"⟩
abbrev cX5_day : ByteArray := prog_7_method_3_code
def yX5_day : MethodName := ⟨RX5, "day", "(J)I"⟩
abbrev cX5_number : ByteArray := prog_7_method_4_code
def yX5_number : MethodName := ⟨RX5, "number", "(J)I"⟩
abbrev cX5_mark : ByteArray := prog_7_method_5_code
def yX5_mark : MethodName := ⟨RX5, "mark", "(J)I"⟩
abbrev cX5_place : ByteArray := prog_7_method_6_code
def yX5_place : MethodName := ⟨RX5, "place", "(J)I"⟩
def RX6 : String := "SparesHouse$Speller"
def TX6 : u_T := fun k => match k with
  | 0 => ("SparesHouse$Speller", "bytes", "[B", true)
  | _ => ("SparesHouse$Speller", "length", "I", false)
def tyX6 : Nat → FieldType := fun k => match k with
  | 0 => .array .byte
  | _ => .int
abbrev wsX60 : List Cond := u_ws RX6 TX6 2
theorem nmX6 : ∀ a, a < 2 → ∀ b, b < 2 → a ≠ b → (TX6 a).2.1 ≠ (TX6 b).2.1 := by decide +kernel
theorem tyX6_ok : ∀ k, k < 2 → parseFieldDescriptor (TX6 k).2.2.1 = some (tyX6 k) := by decide +kernel
abbrev cX6_init : ByteArray := prog_8_method_1_code
def yX6_init : MethodName := ⟨RX6, "<init>", "()V"⟩
abbrev cX6_write : ByteArray := prog_8_method_2_code
def yX6_write : MethodName := ⟨RX6, "write", "(LSparesHouse$Plan;)V"⟩
abbrev cX6_writeOne : ByteArray := prog_8_method_3_code
def yX6_writeOne : MethodName := ⟨RX6, "writeOne", "(II)V"⟩
abbrev cX6_writeParts : ByteArray := prog_8_method_4_code
def yX6_writeParts : MethodName := ⟨RX6, "writeParts", "(LSparesHouse$Plan;)V"⟩
abbrev cX6_writeCells : ByteArray := prog_8_method_5_code
def yX6_writeCells : MethodName := ⟨RX6, "writeCells", "(LSparesHouse$Plan;)V"⟩
abbrev cX6_writeWorks : ByteArray := prog_8_method_6_code
def yX6_writeWorks : MethodName := ⟨RX6, "writeWorks", "(LSparesHouse$Plan;)V"⟩
abbrev cX6_putWord : ByteArray := prog_8_method_7_code
def yX6_putWord : MethodName := ⟨RX6, "putWord", "(I)V"⟩
abbrev cX6_putNumber : ByteArray := prog_8_method_8_code
def yX6_putNumber : MethodName := ⟨RX6, "putNumber", "(I)V"⟩
abbrev cX6_put : ByteArray := prog_8_method_9_code
def yX6_put : MethodName := ⟨RX6, "put", "(I)V"⟩
def RX7 : String := "SparesHouse$Words"
def TX7 : u_T := fun k => match k with
  | _ => ("", "", "", false)
def tyX7 : Nat → FieldType := fun k => match k with
  | _ => .int
abbrev wsX70 : List Cond := u_ws RX7 TX7 0
theorem nmX7 : ∀ a, a < 0 → ∀ b, b < 0 → a ≠ b → (TX7 a).2.1 ≠ (TX7 b).2.1 := by decide +kernel
theorem tyX7_ok : ∀ k, k < 0 → parseFieldDescriptor (TX7 k).2.2.1 = some (tyX7 k) := by decide +kernel
abbrev cX7_spelled : ByteArray := prog_9_method_2_code
def yX7_spelled : MethodName := ⟨RX7, "spelled", "(I)Ljava/lang/String;"⟩
abbrev cX7_numbersOf : ByteArray := prog_9_method_3_code
def yX7_numbersOf : MethodName := ⟨RX7, "numbersOf", "(I)I"⟩
abbrev cX7_fits : ByteArray := prog_9_method_4_code
def yX7_fits : MethodName := ⟨RX7, "fits", "(IIILSparesHouse$Plan;)Z"⟩
abbrev cX7_fitsPart : ByteArray := prog_9_method_5_code
def yX7_fitsPart : MethodName := ⟨RX7, "fitsPart", "(II)Z"⟩
abbrev cX7_fitsHouse : ByteArray := prog_9_method_6_code
def yX7_fitsHouse : MethodName := ⟨RX7, "fitsHouse", "(II)Z"⟩
def RX8 : String := "SparesHouse$Worth"
def TX8 : u_T := fun k => match k with
  | 0 => ("SparesHouse$Worth", "outs", "[J", true)
  | 1 => ("SparesHouse$Worth", "lackBy", "[J", true)
  | 2 => ("SparesHouse$Worth", "buyCell", "[I", true)
  | 3 => ("SparesHouse$Worth", "buyNth", "[I", true)
  | 4 => ("SparesHouse$Worth", "buySum", "[I", true)
  | 5 => ("SparesHouse$Worth", "buyCount", "I", false)
  | 6 => ("SparesHouse$Worth", "spares", "[I", true)
  | 7 => ("SparesHouse$Worth", "least", "[J", true)
  | 8 => ("SparesHouse$Worth", "cost", "[I", true)
  | 9 => ("SparesHouse$Worth", "pick", "[I", true)
  | 10 => ("SparesHouse$Worth", "knowsLack", "Z", false)
  | 11 => ("SparesHouse$Worth", "knowsBuys", "Z", false)
  | _ => ("SparesHouse$Worth", "knowsBest", "Z", false)
def tyX8 : Nat → FieldType := fun k => match k with
  | 0 => .array .long
  | 1 => .array .long
  | 2 => .array .int
  | 3 => .array .int
  | 4 => .array .int
  | 5 => .int
  | 6 => .array .int
  | 7 => .array .long
  | 8 => .array .int
  | 9 => .array .int
  | 10 => .boolean
  | 11 => .boolean
  | _ => .boolean
abbrev wsX80 : List Cond := u_ws RX8 TX8 13
theorem nmX8 : ∀ a, a < 13 → ∀ b, b < 13 → a ≠ b → (TX8 a).2.1 ≠ (TX8 b).2.1 := by decide +kernel
theorem tyX8_ok : ∀ k, k < 13 → parseFieldDescriptor (TX8 k).2.2.1 = some (tyX8 k) := by decide +kernel
abbrev cX8_init : ByteArray := prog_10_method_1_code
def yX8_init : MethodName := ⟨RX8, "<init>", "()V"⟩
abbrev cX8_forget : ByteArray := prog_10_method_2_code
def yX8_forget : MethodName := ⟨RX8, "forget", "()V"⟩
abbrev cX8_outOf : ByteArray := prog_10_method_3_code
def yX8_outOf : MethodName := ⟨RX8, "outOf", "(II)J"⟩
abbrev cX8_lackOf : ByteArray := prog_10_method_4_code
def yX8_lackOf : MethodName := ⟨RX8, "lackOf", "(II)J"⟩
abbrev cX8_learnLack : ByteArray := prog_10_method_5_code
def yX8_learnLack : MethodName := ⟨RX8, "learnLack", "(LSparesHouse$Plan;)V"⟩
abbrev cX8_fillOuts : ByteArray := prog_10_method_6_code
def yX8_fillOuts : MethodName := ⟨RX8, "fillOuts", "(III)V"⟩
abbrev cX8_fillLack : ByteArray := prog_10_method_7_code
def yX8_fillLack : MethodName := ⟨RX8, "fillLack", "(I)V"⟩
abbrev cX8_lackBySpares : ByteArray := prog_10_method_8_code
def yX8_lackBySpares : MethodName := ⟨RX8, "lackBySpares", "(LSparesHouse$Plan;[I)J"⟩
abbrev cX8_leastSure : ByteArray := prog_10_method_9_code
def yX8_leastSure : MethodName := ⟨RX8, "leastSure", "(II)I"⟩
abbrev cX8_learnBuys : ByteArray := prog_10_method_10_code
def yX8_learnBuys : MethodName := ⟨RX8, "learnBuys", "(LSparesHouse$Plan;)V"⟩
abbrev cX8_nextBuy : ByteArray := prog_10_method_11_code
def yX8_nextBuy : MethodName := ⟨RX8, "nextBuy", "(LSparesHouse$Plan;)I"⟩
abbrev cX8_gainOf : ByteArray := prog_10_method_12_code
def yX8_gainOf : MethodName := ⟨RX8, "gainOf", "(I)J"⟩
abbrev cX8_buysWithin : ByteArray := prog_10_method_13_code
def yX8_buysWithin : MethodName := ⟨RX8, "buysWithin", "(I)I"⟩
abbrev cX8_buysOfBase : ByteArray := prog_10_method_14_code
def yX8_buysOfBase : MethodName := ⟨RX8, "buysOfBase", "(II)I"⟩
abbrev cX8_countBuys : ByteArray := prog_10_method_15_code
def yX8_countBuys : MethodName := ⟨RX8, "countBuys", "(I)V"⟩
abbrev cX8_learnBest : ByteArray := prog_10_method_16_code
def yX8_learnBest : MethodName := ⟨RX8, "learnBest", "(LSparesHouse$Plan;)V"⟩
abbrev cX8_pickSpares : ByteArray := prog_10_method_17_code
def yX8_pickSpares : MethodName := ⟨RX8, "pickSpares", "(LSparesHouse$Plan;II)V"⟩
abbrev cX8_bestSpares : ByteArray := prog_10_method_18_code
def yX8_bestSpares : MethodName := ⟨RX8, "bestSpares", "(LSparesHouse$Plan;II)I"⟩
abbrev cX8_pickOf : ByteArray := prog_10_method_19_code
def yX8_pickOf : MethodName := ⟨RX8, "pickOf", "(II)I"⟩
def RX9 : String := "SparesHouse"
def TX9 : u_T := fun k => match k with
  | 0 => ("SparesHouse", "tape", "[B", true)
  | 1 => ("SparesHouse", "tapeLength", "I", false)
  | 2 => ("SparesHouse", "now", "LSparesHouse$Play;", true)
  | 3 => ("SparesHouse", "were", "LSparesHouse$Play;", true)
  | 4 => ("SparesHouse", "acts", "LSparesHouse$Acts;", true)
  | 5 => ("SparesHouse", "reader", "LSparesHouse$Reader;", true)
  | 6 => ("SparesHouse", "speller", "LSparesHouse$Speller;", true)
  | _ => ("SparesHouse", "worth", "LSparesHouse$Worth;", true)
def tyX9 : Nat → FieldType := fun k => match k with
  | 0 => .array .byte
  | 1 => .int
  | 2 => .object "SparesHouse$Play"
  | 3 => .object "SparesHouse$Play"
  | 4 => .object "SparesHouse$Acts"
  | 5 => .object "SparesHouse$Reader"
  | 6 => .object "SparesHouse$Speller"
  | _ => .object "SparesHouse$Worth"
abbrev wsX90 : List Cond := u_ws RX9 TX9 8
theorem nmX9 : ∀ a, a < 8 → ∀ b, b < 8 → a ≠ b → (TX9 a).2.1 ≠ (TX9 b).2.1 := by decide +kernel
theorem tyX9_ok : ∀ k, k < 8 → parseFieldDescriptor (TX9 k).2.2.1 = some (tyX9 k) := by decide +kernel
abbrev cX9_init : ByteArray := prog_1_method_1_code
def yX9_init : MethodName := ⟨RX9, "<init>", "()V"⟩
abbrev cX9_feed : ByteArray := prog_1_method_2_code
def yX9_feed : MethodName := ⟨RX9, "feed", "(IIIII)I"⟩
abbrev cX9_putFour : ByteArray := prog_1_method_3_code
def yX9_putFour : MethodName := ⟨RX9, "putFour", "(I)V"⟩
abbrev cX9_back : ByteArray := prog_1_method_4_code
def yX9_back : MethodName := ⟨RX9, "back", "(I)I"⟩
abbrev cX9_text : ByteArray := prog_1_method_5_code
def yX9_text : MethodName := ⟨RX9, "text", "()I"⟩
abbrev cX9_breaks : ByteArray := prog_1_method_6_code
def yX9_breaks : MethodName := ⟨RX9, "breaks", "(II)I"⟩
abbrev cX9_pass : ByteArray := prog_1_method_7_code
def yX9_pass : MethodName := ⟨RX9, "pass", "(I)I"⟩
abbrev cX9_run : ByteArray := prog_1_method_8_code
def yX9_run : MethodName := ⟨RX9, "run", "(II)I"⟩
abbrev cX9_buy : ByteArray := prog_1_method_9_code
def yX9_buy : MethodName := ⟨RX9, "buy", "(II)I"⟩
abbrev cX9_sell : ByteArray := prog_1_method_10_code
def yX9_sell : MethodName := ⟨RX9, "sell", "(II)I"⟩
abbrev cX9_supply : ByteArray := prog_1_method_11_code
def yX9_supply : MethodName := ⟨RX9, "supply", "(I)I"⟩
abbrev cX9_set : ByteArray := prog_1_method_12_code
def yX9_set : MethodName := ⟨RX9, "set", "(III)I"⟩
abbrev cX9_odds : ByteArray := prog_1_method_13_code
def yX9_odds : MethodName := ⟨RX9, "odds", "(III)I"⟩
abbrev cX9_benches : ByteArray := prog_1_method_14_code
def yX9_benches : MethodName := ⟨RX9, "benches", "(I)I"⟩
abbrev cX9_keep : ByteArray := prog_1_method_15_code
def yX9_keep : MethodName := ⟨RX9, "keep", "(I)I"⟩
abbrev cX9_rule : ByteArray := prog_1_method_16_code
def yX9_rule : MethodName := ⟨RX9, "rule", "()I"⟩
abbrev cX9_begin : ByteArray := prog_1_method_17_code
def yX9_begin : MethodName := ⟨RX9, "begin", "()I"⟩
abbrev cX9_undo : ByteArray := prog_1_method_18_code
def yX9_undo : MethodName := ⟨RX9, "undo", "()I"⟩
abbrev cX9_part : ByteArray := prog_1_method_19_code
def yX9_part : MethodName := ⟨RX9, "part", "(II)I"⟩
abbrev cX9_base : ByteArray := prog_1_method_20_code
def yX9_base : MethodName := ⟨RX9, "base", "(II)I"⟩
abbrev cX9_cell : ByteArray := prog_1_method_21_code
def yX9_cell : MethodName := ⟨RX9, "cell", "(III)I"⟩
abbrev cX9_want : ByteArray := prog_1_method_22_code
def yX9_want : MethodName := ⟨RX9, "want", "(II)I"⟩
abbrev cX9_call : ByteArray := prog_1_method_23_code
def yX9_call : MethodName := ⟨RX9, "call", "(III)I"⟩
abbrev cX9_way : ByteArray := prog_1_method_24_code
def yX9_way : MethodName := ⟨RX9, "way", "(II)I"⟩
abbrev cX9_waits : ByteArray := prog_1_method_25_code
def yX9_waits : MethodName := ⟨RX9, "waits", "(I)I"⟩
abbrev cX9_played : ByteArray := prog_1_method_26_code
def yX9_played : MethodName := ⟨RX9, "played", "(I)I"⟩
abbrev cX9_out : ByteArray := prog_1_method_27_code
def yX9_out : MethodName := ⟨RX9, "out", "(III)J"⟩
abbrev cX9_lack : ByteArray := prog_1_method_28_code
def yX9_lack : MethodName := ⟨RX9, "lack", "(III)J"⟩
abbrev cX9_lacks : ByteArray := prog_1_method_29_code
def yX9_lacks : MethodName := ⟨RX9, "lacks", "()J"⟩
abbrev cX9_sure : ByteArray := prog_1_method_30_code
def yX9_sure : MethodName := ⟨RX9, "sure", "(III)I"⟩
abbrev cX9_buys : ByteArray := prog_1_method_31_code
def yX9_buys : MethodName := ⟨RX9, "buys", "(II)I"⟩
abbrev cX9_bought : ByteArray := prog_1_method_32_code
def yX9_bought : MethodName := ⟨RX9, "bought", "(II)I"⟩
abbrev cX9_lacksBy : ByteArray := prog_1_method_33_code
def yX9_lacksBy : MethodName := ⟨RX9, "lacksBy", "(IZ)J"⟩
abbrev cX9_best : ByteArray := prog_1_method_34_code
def yX9_best : MethodName := ⟨RX9, "best", "(III)I"⟩
abbrev cX9_purseFor : ByteArray := prog_1_method_35_code
def yX9_purseFor : MethodName := ⟨RX9, "purseFor", "(I)I"⟩
abbrev cX9_isPurse : ByteArray := prog_1_method_36_code
def yX9_isPurse : MethodName := ⟨RX9, "isPurse", "(I)Z"⟩
abbrev cX9_would : ByteArray := prog_1_method_37_code
def yX9_would : MethodName := ⟨RX9, "would", "(III)I"⟩
abbrev cX9_spared : ByteArray := prog_1_method_38_code
def yX9_spared : MethodName := ⟨RX9, "spared", "(IIII)I"⟩
abbrev cX9_by : ByteArray := prog_1_method_39_code
def yX9_by : MethodName := ⟨RX9, "by", "(IIII)I"⟩
abbrev cX9_whichWord : ByteArray := prog_1_method_40_code
def yX9_whichWord : MethodName := ⟨RX9, "whichWord", "(I)I"⟩
abbrev cX9_bestKeep : ByteArray := prog_1_method_41_code
def yX9_bestKeep : MethodName := ⟨RX9, "bestKeep", "(II)I"⟩
abbrev cX9_lateBehindRun : ByteArray := prog_1_method_42_code
def yX9_lateBehindRun : MethodName := ⟨RX9, "lateBehindRun", "(II)I"⟩
abbrev cX9_quiet : ByteArray := prog_1_method_43_code
def yX9_quiet : MethodName := ⟨RX9, "quiet", "()I"⟩
abbrev cX9_spell : ByteArray := prog_1_method_44_code
def yX9_spell : MethodName := ⟨RX9, "spell", "(I)I"⟩
abbrev cX9_count : ByteArray := prog_1_method_45_code
def yX9_count : MethodName := ⟨RX9, "count", "(I)I"⟩
abbrev cX9_sum : ByteArray := prog_1_method_46_code
def yX9_sum : MethodName := ⟨RX9, "sum", "([I)I"⟩
abbrev cX9_placeOf : ByteArray := prog_1_method_47_code
def yX9_placeOf : MethodName := ⟨RX9, "placeOf", "(II)I"⟩
abbrev cX9_baseOf : ByteArray := prog_1_method_48_code
def yX9_baseOf : MethodName := ⟨RX9, "baseOf", "(I)I"⟩
abbrev cX9_partOf : ByteArray := prog_1_method_49_code
def yX9_partOf : MethodName := ⟨RX9, "partOf", "(I)I"⟩
def RX10 : String := "SparesHouseModel"
def TX10 : u_T := fun k => match k with
  | 0 => ("SparesHouseModel", "thrown", "I", false)
  | 1 => ("SparesHouseModel", "now", "[I", true)
  | 2 => ("SparesHouseModel", "aside", "[I", true)
  | 3 => ("SparesHouseModel", "undos", "[I", true)
  | 4 => ("SparesHouseModel", "undoMany", "I", false)
  | 5 => ("SparesHouseModel", "tape", "[I", true)
  | 6 => ("SparesHouseModel", "taped", "I", false)
  | 7 => ("SparesHouseModel", "size", "I", false)
  | 8 => ("SparesHouseModel", "at", "I", false)
  | 9 => ("SparesHouseModel", "token", "I", false)
  | 10 => ("SparesHouseModel", "from", "I", false)
  | 11 => ("SparesHouseModel", "value", "I", false)
  | 12 => ("SparesHouseModel", "fault", "I", false)
  | 13 => ("SparesHouseModel", "x", "I", false)
  | 14 => ("SparesHouseModel", "buyCell", "[I", true)
  | 15 => ("SparesHouseModel", "buySpares", "[I", true)
  | 16 => ("SparesHouseModel", "buyCost", "[I", true)
  | 17 => ("SparesHouseModel", "spares", "[I", true)
  | 18 => ("SparesHouseModel", "buyMany", "I", false)
  | 19 => ("SparesHouseModel", "least", "[J", true)
  | 20 => ("SparesHouseModel", "costs", "[I", true)
  | 21 => ("SparesHouseModel", "takes", "[I", true)
  | 22 => ("SparesHouseModel", "spelt", "[I", true)
  | _ => ("SparesHouseModel", "speltMany", "I", false)
def tyX10 : Nat → FieldType := fun k => match k with
  | 0 => .int
  | 1 => .array .int
  | 2 => .array .int
  | 3 => .array .int
  | 4 => .int
  | 5 => .array .int
  | 6 => .int
  | 7 => .int
  | 8 => .int
  | 9 => .int
  | 10 => .int
  | 11 => .int
  | 12 => .int
  | 13 => .int
  | 14 => .array .int
  | 15 => .array .int
  | 16 => .array .int
  | 17 => .array .int
  | 18 => .int
  | 19 => .array .long
  | 20 => .array .int
  | 21 => .array .int
  | 22 => .array .int
  | _ => .int
abbrev wsX100 : List Cond := u_ws RX10 TX10 24
theorem nmX10 : ∀ a, a < 24 → ∀ b, b < 24 → a ≠ b → (TX10 a).2.1 ≠ (TX10 b).2.1 := by decide +kernel
theorem tyX10_ok : ∀ k, k < 24 → parseFieldDescriptor (TX10 k).2.2.1 = some (tyX10 k) := by decide +kernel
abbrev cX10_init : ByteArray := prog_12_method_1_code
def yX10_init : MethodName := ⟨RX10, "<init>", "()V"⟩
abbrev cX10_isIn : ByteArray := prog_12_method_3_code
def yX10_isIn : MethodName := ⟨RX10, "isIn", "(III)Z"⟩
abbrev cX10_isPart : ByteArray := prog_12_method_4_code
def yX10_isPart : MethodName := ⟨RX10, "isPart", "(I)Z"⟩
abbrev cX10_isBase : ByteArray := prog_12_method_5_code
def yX10_isBase : MethodName := ⟨RX10, "isBase", "(I)Z"⟩
abbrev cX10_isCell : ByteArray := prog_12_method_6_code
def yX10_isCell : MethodName := ⟨RX10, "isCell", "(II)Z"⟩
abbrev cX10_cellOf : ByteArray := prog_12_method_7_code
def yX10_cellOf : MethodName := ⟨RX10, "cellOf", "(II)I"⟩
abbrev cX10_feed : ByteArray := prog_12_method_8_code
def yX10_feed : MethodName := ⟨RX10, "feed", "(IIIII)I"⟩
abbrev cX10_back : ByteArray := prog_12_method_9_code
def yX10_back : MethodName := ⟨RX10, "back", "(I)I"⟩
abbrev cX10_isLetter : ByteArray := prog_12_method_10_code
def yX10_isLetter : MethodName := ⟨RX10, "isLetter", "(I)Z"⟩
abbrev cX10_isDigit : ByteArray := prog_12_method_11_code
def yX10_isDigit : MethodName := ⟨RX10, "isDigit", "(I)Z"⟩
abbrev cX10_wrong : ByteArray := prog_12_method_12_code
def yX10_wrong : MethodName := ⟨RX10, "wrong", "(I)V"⟩
abbrev cX10_nextToken : ByteArray := prog_12_method_13_code
def yX10_nextToken : MethodName := ⟨RX10, "nextToken", "()V"⟩
abbrev cX10_isWord : ByteArray := prog_12_method_14_code
def yX10_isWord : MethodName := ⟨RX10, "isWord", "(J)Z"⟩
abbrev cX10_number : ByteArray := prog_12_method_15_code
def yX10_number : MethodName := ⟨RX10, "number", "(II)I"⟩
abbrev cX10_readPart : ByteArray := prog_12_method_16_code
def yX10_readPart : MethodName := ⟨RX10, "readPart", "()V"⟩
abbrev cX10_readBase : ByteArray := prog_12_method_17_code
def yX10_readBase : MethodName := ⟨RX10, "readBase", "()V"⟩
abbrev cX10_readCell : ByteArray := prog_12_method_18_code
def yX10_readCell : MethodName := ⟨RX10, "readCell", "()V"⟩
abbrev cX10_readWorks : ByteArray := prog_12_method_19_code
def yX10_readWorks : MethodName := ⟨RX10, "readWorks", "()V"⟩
abbrev cX10_readOne : ByteArray := prog_12_method_20_code
def yX10_readOne : MethodName := ⟨RX10, "readOne", "(III)V"⟩
abbrev cX10_readLine : ByteArray := prog_12_method_21_code
def yX10_readLine : MethodName := ⟨RX10, "readLine", "()V"⟩
abbrev cX10_text : ByteArray := prog_12_method_22_code
def yX10_text : MethodName := ⟨RX10, "text", "()I"⟩
abbrev cX10_putAside : ByteArray := prog_12_method_23_code
def yX10_putAside : MethodName := ⟨RX10, "putAside", "()V"⟩
abbrev cX10_bringBack : ByteArray := prog_12_method_24_code
def yX10_bringBack : MethodName := ⟨RX10, "bringBack", "()V"⟩
abbrev cX10_starts : ByteArray := prog_12_method_25_code
def yX10_starts : MethodName := ⟨RX10, "starts", "()V"⟩
abbrev cX10_closes : ByteArray := prog_12_method_26_code
def yX10_closes : MethodName := ⟨RX10, "closes", "(IIII)V"⟩
abbrev cX10_begins : ByteArray := prog_12_method_27_code
def yX10_begins : MethodName := ⟨RX10, "begins", "(IIII)I"⟩
abbrev cX10_wantsOf : ByteArray := prog_12_method_28_code
def yX10_wantsOf : MethodName := ⟨RX10, "wantsOf", "(II)I"⟩
abbrev cX10_callsOf : ByteArray := prog_12_method_29_code
def yX10_callsOf : MethodName := ⟨RX10, "callsOf", "(II)I"⟩
abbrev cX10_nextCall : ByteArray := prog_12_method_30_code
def yX10_nextCall : MethodName := ⟨RX10, "nextCall", "(I)I"⟩
abbrev cX10_answers : ByteArray := prog_12_method_31_code
def yX10_answers : MethodName := ⟨RX10, "answers", "(I)V"⟩
abbrev cX10_onBenches : ByteArray := prog_12_method_32_code
def yX10_onBenches : MethodName := ⟨RX10, "onBenches", "()I"⟩
abbrev cX10_loads : ByteArray := prog_12_method_33_code
def yX10_loads : MethodName := ⟨RX10, "loads", "()V"⟩
abbrev cX10_comes : ByteArray := prog_12_method_34_code
def yX10_comes : MethodName := ⟨RX10, "comes", "(II)V"⟩
abbrev cX10_canBreak : ByteArray := prog_12_method_35_code
def yX10_canBreak : MethodName := ⟨RX10, "canBreak", "(II)Z"⟩
abbrev cX10_breaksOne : ByteArray := prog_12_method_36_code
def yX10_breaksOne : MethodName := ⟨RX10, "breaksOne", "(II)I"⟩
abbrev cX10_today : ByteArray := prog_12_method_37_code
def yX10_today : MethodName := ⟨RX10, "today", "()I"⟩
abbrev cX10_arrives : ByteArray := prog_12_method_38_code
def yX10_arrives : MethodName := ⟨RX10, "arrives", "(I)V"⟩
abbrev cX10_lender : ByteArray := prog_12_method_39_code
def yX10_lender : MethodName := ⟨RX10, "lender", "(II)I"⟩
abbrev cX10_lends : ByteArray := prog_12_method_40_code
def yX10_lends : MethodName := ⟨RX10, "lends", "()V"⟩
abbrev cX10_goesDay : ByteArray := prog_12_method_41_code
def yX10_goesDay : MethodName := ⟨RX10, "goesDay", "()V"⟩
abbrev cX10_runs : ByteArray := prog_12_method_42_code
def yX10_runs : MethodName := ⟨RX10, "runs", "(II)I"⟩
abbrev cX10_remembers : ByteArray := prog_12_method_43_code
def yX10_remembers : MethodName := ⟨RX10, "remembers", "()V"⟩
abbrev cX10_breaks : ByteArray := prog_12_method_44_code
def yX10_breaks : MethodName := ⟨RX10, "breaks", "(II)I"⟩
abbrev cX10_areDays : ByteArray := prog_12_method_45_code
def yX10_areDays : MethodName := ⟨RX10, "areDays", "(II)Z"⟩
abbrev cX10_pass : ByteArray := prog_12_method_46_code
def yX10_pass : MethodName := ⟨RX10, "pass", "(I)I"⟩
abbrev cX10_run : ByteArray := prog_12_method_47_code
def yX10_run : MethodName := ⟨RX10, "run", "(II)I"⟩
abbrev cX10_buy : ByteArray := prog_12_method_48_code
def yX10_buy : MethodName := ⟨RX10, "buy", "(II)I"⟩
abbrev cX10_sell : ByteArray := prog_12_method_49_code
def yX10_sell : MethodName := ⟨RX10, "sell", "(II)I"⟩
abbrev cX10_supply : ByteArray := prog_12_method_50_code
def yX10_supply : MethodName := ⟨RX10, "supply", "(I)I"⟩
abbrev cX10_puts : ByteArray := prog_12_method_51_code
def yX10_puts : MethodName := ⟨RX10, "puts", "(II)I"⟩
abbrev cX10_set : ByteArray := prog_12_method_52_code
def yX10_set : MethodName := ⟨RX10, "set", "(III)I"⟩
abbrev cX10_odds : ByteArray := prog_12_method_53_code
def yX10_odds : MethodName := ⟨RX10, "odds", "(III)I"⟩
abbrev cX10_benches : ByteArray := prog_12_method_54_code
def yX10_benches : MethodName := ⟨RX10, "benches", "(I)I"⟩
abbrev cX10_keep : ByteArray := prog_12_method_55_code
def yX10_keep : MethodName := ⟨RX10, "keep", "(I)I"⟩
abbrev cX10_rule : ByteArray := prog_12_method_56_code
def yX10_rule : MethodName := ⟨RX10, "rule", "()I"⟩
abbrev cX10_begin : ByteArray := prog_12_method_57_code
def yX10_begin : MethodName := ⟨RX10, "begin", "()I"⟩
abbrev cX10_undo : ByteArray := prog_12_method_58_code
def yX10_undo : MethodName := ⟨RX10, "undo", "()I"⟩
abbrev cX10_waysOf : ByteArray := prog_12_method_59_code
def yX10_waysOf : MethodName := ⟨RX10, "waysOf", "(III)I"⟩
abbrev cX10_callsOfPart : ByteArray := prog_12_method_60_code
def yX10_callsOfPart : MethodName := ⟨RX10, "callsOfPart", "(I)I"⟩
abbrev cX10_waiting : ByteArray := prog_12_method_61_code
def yX10_waiting : MethodName := ⟨RX10, "waiting", "(I)I"⟩
abbrev cX10_part : ByteArray := prog_12_method_62_code
def yX10_part : MethodName := ⟨RX10, "part", "(II)I"⟩
abbrev cX10_base : ByteArray := prog_12_method_63_code
def yX10_base : MethodName := ⟨RX10, "base", "(II)I"⟩
abbrev cX10_cell : ByteArray := prog_12_method_64_code
def yX10_cell : MethodName := ⟨RX10, "cell", "(III)I"⟩
abbrev cX10_want : ByteArray := prog_12_method_65_code
def yX10_want : MethodName := ⟨RX10, "want", "(II)I"⟩
abbrev cX10_call : ByteArray := prog_12_method_66_code
def yX10_call : MethodName := ⟨RX10, "call", "(III)I"⟩
abbrev cX10_way : ByteArray := prog_12_method_67_code
def yX10_way : MethodName := ⟨RX10, "way", "(II)I"⟩
abbrev cX10_waits : ByteArray := prog_12_method_68_code
def yX10_waits : MethodName := ⟨RX10, "waits", "(I)I"⟩
abbrev cX10_late : ByteArray := prog_12_method_69_code
def yX10_late : MethodName := ⟨RX10, "late", "()I"⟩
abbrev cX10_mostLate : ByteArray := prog_12_method_70_code
def yX10_mostLate : MethodName := ⟨RX10, "mostLate", "()I"⟩
abbrev cX10_played : ByteArray := prog_12_method_71_code
def yX10_played : MethodName := ⟨RX10, "played", "(I)I"⟩
abbrev cX10_power : ByteArray := prog_12_method_72_code
def yX10_power : MethodName := ⟨RX10, "power", "(JI)J"⟩
abbrev cX10_outOf : ByteArray := prog_12_method_73_code
def yX10_outOf : MethodName := ⟨RX10, "outOf", "(II)J"⟩
abbrev cX10_lackOf : ByteArray := prog_12_method_74_code
def yX10_lackOf : MethodName := ⟨RX10, "lackOf", "(II)J"⟩
abbrev cX10_out : ByteArray := prog_12_method_75_code
def yX10_out : MethodName := ⟨RX10, "out", "(III)J"⟩
abbrev cX10_lack : ByteArray := prog_12_method_76_code
def yX10_lack : MethodName := ⟨RX10, "lack", "(III)J"⟩
abbrev cX10_lacksBySpares : ByteArray := prog_12_method_77_code
def yX10_lacksBySpares : MethodName := ⟨RX10, "lacksBySpares", "([I)J"⟩
abbrev cX10_lacks : ByteArray := prog_12_method_78_code
def yX10_lacks : MethodName := ⟨RX10, "lacks", "()J"⟩
abbrev cX10_sure : ByteArray := prog_12_method_79_code
def yX10_sure : MethodName := ⟨RX10, "sure", "(III)I"⟩
abbrev cX10_gainOf : ByteArray := prog_12_method_80_code
def yX10_gainOf : MethodName := ⟨RX10, "gainOf", "(I)J"⟩
abbrev cX10_nextBuy : ByteArray := prog_12_method_81_code
def yX10_nextBuy : MethodName := ⟨RX10, "nextBuy", "()I"⟩
abbrev cX10_layBuys : ByteArray := prog_12_method_82_code
def yX10_layBuys : MethodName := ⟨RX10, "layBuys", "()V"⟩
abbrev cX10_buys : ByteArray := prog_12_method_83_code
def yX10_buys : MethodName := ⟨RX10, "buys", "(II)I"⟩
abbrev cX10_layBought : ByteArray := prog_12_method_84_code
def yX10_layBought : MethodName := ⟨RX10, "layBought", "(I)I"⟩
abbrev cX10_bought : ByteArray := prog_12_method_85_code
def yX10_bought : MethodName := ⟨RX10, "bought", "(II)I"⟩
abbrev cX10_layBest : ByteArray := prog_12_method_86_code
def yX10_layBest : MethodName := ⟨RX10, "layBest", "()V"⟩
abbrev cX10_lacksBy : ByteArray := prog_12_method_87_code
def yX10_lacksBy : MethodName := ⟨RX10, "lacksBy", "(IZ)J"⟩
abbrev cX10_best : ByteArray := prog_12_method_88_code
def yX10_best : MethodName := ⟨RX10, "best", "(III)I"⟩
abbrev cX10_purseFor : ByteArray := prog_12_method_89_code
def yX10_purseFor : MethodName := ⟨RX10, "purseFor", "(I)I"⟩
abbrev cX10_would : ByteArray := prog_12_method_90_code
def yX10_would : MethodName := ⟨RX10, "would", "(III)I"⟩
abbrev cX10_spared : ByteArray := prog_12_method_91_code
def yX10_spared : MethodName := ⟨RX10, "spared", "(IIII)I"⟩
abbrev cX10_by : ByteArray := prog_12_method_92_code
def yX10_by : MethodName := ⟨RX10, "by", "(IIII)I"⟩
abbrev cX10_bestKeep : ByteArray := prog_12_method_93_code
def yX10_bestKeep : MethodName := ⟨RX10, "bestKeep", "(II)I"⟩
abbrev cX10_quiet : ByteArray := prog_12_method_94_code
def yX10_quiet : MethodName := ⟨RX10, "quiet", "()I"⟩
abbrev cX10_spells : ByteArray := prog_12_method_95_code
def yX10_spells : MethodName := ⟨RX10, "spells", "(J)V"⟩
abbrev cX10_spellsNumber : ByteArray := prog_12_method_96_code
def yX10_spellsNumber : MethodName := ⟨RX10, "spellsNumber", "(I)V"⟩
abbrev cX10_spellsLast : ByteArray := prog_12_method_97_code
def yX10_spellsLast : MethodName := ⟨RX10, "spellsLast", "(I)V"⟩
abbrev cX10_spellsOne : ByteArray := prog_12_method_98_code
def yX10_spellsOne : MethodName := ⟨RX10, "spellsOne", "(JI)V"⟩
abbrev cX10_spellsCell : ByteArray := prog_12_method_99_code
def yX10_spellsCell : MethodName := ⟨RX10, "spellsCell", "(II)V"⟩
abbrev cX10_spellsAll : ByteArray := prog_12_method_100_code
def yX10_spellsAll : MethodName := ⟨RX10, "spellsAll", "()V"⟩
abbrev cX10_spell : ByteArray := prog_12_method_101_code
def yX10_spell : MethodName := ⟨RX10, "spell", "(I)I"⟩
abbrev cX10_sumOf : ByteArray := prog_12_method_102_code
def yX10_sumOf : MethodName := ⟨RX10, "sumOf", "(II)I"⟩
abbrev cX10_count : ByteArray := prog_12_method_103_code
def yX10_count : MethodName := ⟨RX10, "count", "(I)I"⟩
def RJ9 : String := "java/lang/Math"
def TJ9 : u_T := fun k => match k with
  | _ => ("", "", "", false)
def tyJ9 : Nat → FieldType := fun k => match k with
  | _ => .int
abbrev wsJ90 : List Cond := u_ws RJ9 TJ9 0
theorem nmJ9 : ∀ a, a < 0 → ∀ b, b < 0 → a ≠ b → (TJ9 a).2.1 ≠ (TJ9 b).2.1 := by decide +kernel
theorem tyJ9_ok : ∀ k, k < 0 → parseFieldDescriptor (TJ9 k).2.2.1 = some (tyJ9 k) := by decide +kernel
abbrev cJ9_max_7cf53 : ByteArray := prog_13_method_65_code
def yJ9_max_7cf53 : MethodName := ⟨RJ9, "max", "(II)I"⟩
abbrev cJ9_min_7cf53 : ByteArray := prog_13_method_69_code
def yJ9_min_7cf53 : MethodName := ⟨RJ9, "min", "(II)I"⟩
def RJ0 : String := "java/lang/String"
def TJ0 : u_T := fun k => match k with
  | _ => ("", "", "", false)
def tyJ0 : Nat → FieldType := fun k => match k with
  | _ => .int
abbrev wsJ00 : List Cond := u_ws RJ0 TJ0 0
theorem nmJ0 : ∀ a, a < 0 → ∀ b, b < 0 → a ≠ b → (TJ0 a).2.1 ≠ (TJ0 b).2.1 := by decide +kernel
theorem tyJ0_ok : ∀ k, k < 0 → parseFieldDescriptor (TJ0 k).2.2.1 = some (tyJ0 k) := by decide +kernel
abbrev cJ0_length_8abf5 : ByteArray := prog_14_method_54_code
def yJ0_length_8abf5 : MethodName := ⟨RJ0, "length", "()I"⟩
abbrev cJ0_charAt_5068e : ByteArray := prog_14_method_56_code
def yJ0_charAt_5068e : MethodName := ⟨RJ0, "charAt", "(I)C"⟩
abbrev cJ0_coder_7d493 : ByteArray := prog_14_method_152_code
def yJ0_coder_7d493 : MethodName := ⟨RJ0, "coder", "()B"⟩
abbrev cJ0_isLatin1_aae02 : ByteArray := prog_14_method_154_code
def yJ0_isLatin1_aae02 : MethodName := ⟨RJ0, "isLatin1", "()Z"⟩
abbrev cJ0_checkIndex_df160 : ByteArray := prog_14_method_155_code
def yJ0_checkIndex_df160 : MethodName := ⟨RJ0, "checkIndex", "(II)V"⟩
def RJ1 : String := "java/lang/StringLatin1"
def TJ1 : u_T := fun k => match k with
  | _ => ("", "", "", false)
def tyJ1 : Nat → FieldType := fun k => match k with
  | _ => .int
abbrev wsJ10 : List Cond := u_ws RJ1 TJ1 0
theorem nmJ1 : ∀ a, a < 0 → ∀ b, b < 0 → a ≠ b → (TJ1 a).2.1 ≠ (TJ1 b).2.1 := by decide +kernel
theorem tyJ1_ok : ∀ k, k < 0 → parseFieldDescriptor (TJ1 k).2.2.1 = some (tyJ1 k) := by decide +kernel
abbrev cJ1_charAt_3b067 : ByteArray := prog_15_method_2_code
def yJ1_charAt_3b067 : MethodName := ⟨RJ1, "charAt", "([BI)C"⟩
def RJ2 : String := "java/lang/StringUTF16"
def TJ2 : u_T := fun k => match k with
  | _ => ("", "", "", false)
def tyJ2 : Nat → FieldType := fun k => match k with
  | _ => .int
abbrev wsJ20 : List Cond := u_ws RJ2 TJ2 0
theorem nmJ2 : ∀ a, a < 0 → ∀ b, b < 0 → a ≠ b → (TJ2 a).2.1 ≠ (TJ2 b).2.1 := by decide +kernel
theorem tyJ2_ok : ∀ k, k < 0 → parseFieldDescriptor (TJ2 k).2.2.1 = some (tyJ2 k) := by decide +kernel
abbrev cJ2_getChar_3b067 : ByteArray := prog_16_method_5_code
def yJ2_getChar_3b067 : MethodName := ⟨RJ2, "getChar", "([BI)C"⟩
abbrev cJ2_length_9d52b : ByteArray := prog_16_method_6_code
def yJ2_length_9d52b : MethodName := ⟨RJ2, "length", "([B)I"⟩
abbrev cJ2_charAt_3b067 : ByteArray := prog_16_method_83_code
def yJ2_charAt_3b067 : MethodName := ⟨RJ2, "charAt", "([BI)C"⟩
abbrev cJ2_checkIndex_2214a : ByteArray := prog_16_method_91_code
def yJ2_checkIndex_2214a : MethodName := ⟨RJ2, "checkIndex", "(I[B)V"⟩
def RJ10 : String := "java/lang/System"
def TJ10 : u_T := fun k => match k with
  | _ => ("", "", "", false)
def tyJ10 : Nat → FieldType := fun k => match k with
  | _ => .int
abbrev wsJ100 : List Cond := u_ws RJ10 TJ10 0
theorem nmJ10 : ∀ a, a < 0 → ∀ b, b < 0 → a ≠ b → (TJ10 a).2.1 ≠ (TJ10 b).2.1 := by decide +kernel
theorem tyJ10_ok : ∀ k, k < 0 → parseFieldDescriptor (TJ10 k).2.2.1 = some (tyJ10 k) := by decide +kernel
def RJ3 : String := "jdk/internal/util/Preconditions"
def TJ3 : u_T := fun k => match k with
  | _ => ("", "", "", false)
def tyJ3 : Nat → FieldType := fun k => match k with
  | _ => .int
abbrev wsJ30 : List Cond := u_ws RJ3 TJ3 0
theorem nmJ3 : ∀ a, a < 0 → ∀ b, b < 0 → a ≠ b → (TJ3 a).2.1 ≠ (TJ3 b).2.1 := by decide +kernel
theorem tyJ3_ok : ∀ k, k < 0 → parseFieldDescriptor (TJ3 k).2.2.1 = some (tyJ3 k) := by decide +kernel
abbrev cJ3_checkIndex_8e157 : ByteArray := prog_18_method_11_code
def yJ3_checkIndex_8e157 : MethodName := ⟨RJ3, "checkIndex", "(IILjava/util/function/BiFunction;)I"⟩
def RL : String := "SparesHouseLaw"
abbrev cL_law : ByteArray := code
def yL_law : MethodName := ⟨RL, "law", "([I)Z"⟩
