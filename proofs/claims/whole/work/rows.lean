section
-- ===== PART A: goes FIRST, ahead of the names: the tables' words, and 'selects' of the private methods out of them =====
/-- a private method of a class that the tables say can be made, by its rows of tables_1 -/
def lw_okq (q : MethodName × Nat) : Prop := (q.1.cls ≠ "java/lang/invoke/MethodHandle" ∧ q.1.cls ≠ "java/lang/invoke/VarHandle") ∧ Cond.instantiable q.1.cls q.2 ∈ tables_1 ∧ Cond.privateMethod q.1 ∈ tables_1 ∧ Cond.instanceMethod q.1 ∈ tables_1
theorem lw_p0 : lw_okq (⟨"HassockRoof$Reader", "nextToken", "()V"⟩, 10) := ⟨⟨by decide +kernel, by decide +kernel⟩, List.mem_of_getElem? (i := 156) (by decide +kernel), List.mem_of_getElem? (i := 423) (by decide +kernel), List.mem_of_getElem? (i := 424) (by decide +kernel)⟩
theorem lw_p1 : lw_okq (⟨"HassockRoof$Reader", "kindAt", "(I)I"⟩, 10) := ⟨⟨by decide +kernel, by decide +kernel⟩, List.mem_of_getElem? (i := 156) (by decide +kernel), List.mem_of_getElem? (i := 427) (by decide +kernel), List.mem_of_getElem? (i := 428) (by decide +kernel)⟩
theorem lw_p2 : lw_okq (⟨"HassockRoof$Reader", "readLine", "()Z"⟩, 10) := ⟨⟨by decide +kernel, by decide +kernel⟩, List.mem_of_getElem? (i := 156) (by decide +kernel), List.mem_of_getElem? (i := 434) (by decide +kernel), List.mem_of_getElem? (i := 435) (by decide +kernel)⟩
theorem lw_p3 : lw_okq (⟨"HassockRoof$Reader", "readRoofLine", "()Z"⟩, 10) := ⟨⟨by decide +kernel, by decide +kernel⟩, List.mem_of_getElem? (i := 156) (by decide +kernel), List.mem_of_getElem? (i := 438) (by decide +kernel), List.mem_of_getElem? (i := 439) (by decide +kernel)⟩
theorem lw_p4 : lw_okq (⟨"HassockRoof$Reader", "takeWord", "(Ljava/lang/String;)Z"⟩, 10) := ⟨⟨by decide +kernel, by decide +kernel⟩, List.mem_of_getElem? (i := 156) (by decide +kernel), List.mem_of_getElem? (i := 443) (by decide +kernel), List.mem_of_getElem? (i := 444) (by decide +kernel)⟩
theorem lw_p5 : lw_okq (⟨"HassockRoof$Reader", "isWord", "(Ljava/lang/String;)Z"⟩, 10) := ⟨⟨by decide +kernel, by decide +kernel⟩, List.mem_of_getElem? (i := 156) (by decide +kernel), List.mem_of_getElem? (i := 447) (by decide +kernel), List.mem_of_getElem? (i := 448) (by decide +kernel)⟩
theorem lw_p6 : lw_okq (⟨"HassockRoof$Reader", "refuse", "(II)Z"⟩, 10) := ⟨⟨by decide +kernel, by decide +kernel⟩, List.mem_of_getElem? (i := 156) (by decide +kernel), List.mem_of_getElem? (i := 499) (by decide +kernel), List.mem_of_getElem? (i := 500) (by decide +kernel)⟩
theorem lw_p7 : lw_okq (⟨"HassockRoof$Reader", "takeNumber", "(II)Z"⟩, 10) := ⟨⟨by decide +kernel, by decide +kernel⟩, List.mem_of_getElem? (i := 156) (by decide +kernel), List.mem_of_getElem? (i := 504) (by decide +kernel), List.mem_of_getElem? (i := 505) (by decide +kernel)⟩
theorem lw_p8 : lw_okq (⟨"HassockRoof$Reader", "numberOfToken", "()I"⟩, 10) := ⟨⟨by decide +kernel, by decide +kernel⟩, List.mem_of_getElem? (i := 156) (by decide +kernel), List.mem_of_getElem? (i := 508) (by decide +kernel), List.mem_of_getElem? (i := 509) (by decide +kernel)⟩
theorem lw_p9 : lw_okq (⟨"HassockRoof$Reader", "readPoint", "(LHassockRoof$Pairs;)Z"⟩, 10) := ⟨⟨by decide +kernel, by decide +kernel⟩, List.mem_of_getElem? (i := 156) (by decide +kernel), List.mem_of_getElem? (i := 516) (by decide +kernel), List.mem_of_getElem? (i := 517) (by decide +kernel)⟩
theorem lw_p10 : lw_okq (⟨"HassockRoof$Reader", "takeHead", "(LHassockRoof$Pairs;)Z"⟩, 10) := ⟨⟨by decide +kernel, by decide +kernel⟩, List.mem_of_getElem? (i := 156) (by decide +kernel), List.mem_of_getElem? (i := 520) (by decide +kernel), List.mem_of_getElem? (i := 521) (by decide +kernel)⟩
theorem lw_p11 : lw_okq (⟨"HassockRoof$Reader", "readWorth", "()Z"⟩, 10) := ⟨⟨by decide +kernel, by decide +kernel⟩, List.mem_of_getElem? (i := 156) (by decide +kernel), List.mem_of_getElem? (i := 542) (by decide +kernel), List.mem_of_getElem? (i := 543) (by decide +kernel)⟩
theorem lw_p12 : lw_okq (⟨"HassockRoof$Reader", "readWay", "()Z"⟩, 10) := ⟨⟨by decide +kernel, by decide +kernel⟩, List.mem_of_getElem? (i := 156) (by decide +kernel), List.mem_of_getElem? (i := 557) (by decide +kernel), List.mem_of_getElem? (i := 558) (by decide +kernel)⟩
theorem lw_p13 : lw_okq (⟨"HassockRoof$Reader", "readLooker", "()Z"⟩, 10) := ⟨⟨by decide +kernel, by decide +kernel⟩, List.mem_of_getElem? (i := 156) (by decide +kernel), List.mem_of_getElem? (i := 562) (by decide +kernel), List.mem_of_getElem? (i := 563) (by decide +kernel)⟩
theorem lw_p14 : lw_okq (⟨"HassockRoof$Reader", "takeSign", "()Z"⟩, 10) := ⟨⟨by decide +kernel, by decide +kernel⟩, List.mem_of_getElem? (i := 156) (by decide +kernel), List.mem_of_getElem? (i := 572) (by decide +kernel), List.mem_of_getElem? (i := 573) (by decide +kernel)⟩
theorem lw_p15 : lw_okq (⟨"HassockRoof", "lookAnew", "()V"⟩, 15) := ⟨⟨by decide +kernel, by decide +kernel⟩, List.mem_of_getElem? (i := 22) (by decide +kernel), List.mem_of_getElem? (i := 600) (by decide +kernel), List.mem_of_getElem? (i := 601) (by decide +kernel)⟩
def lw_privs_1 : List (MethodName × Nat) := [(⟨"HassockRoof$Reader", "nextToken", "()V"⟩, 10), (⟨"HassockRoof$Reader", "kindAt", "(I)I"⟩, 10), (⟨"HassockRoof$Reader", "readLine", "()Z"⟩, 10), (⟨"HassockRoof$Reader", "readRoofLine", "()Z"⟩, 10), (⟨"HassockRoof$Reader", "takeWord", "(Ljava/lang/String;)Z"⟩, 10), (⟨"HassockRoof$Reader", "isWord", "(Ljava/lang/String;)Z"⟩, 10), (⟨"HassockRoof$Reader", "refuse", "(II)Z"⟩, 10), (⟨"HassockRoof$Reader", "takeNumber", "(II)Z"⟩, 10), (⟨"HassockRoof$Reader", "numberOfToken", "()I"⟩, 10), (⟨"HassockRoof$Reader", "readPoint", "(LHassockRoof$Pairs;)Z"⟩, 10), (⟨"HassockRoof$Reader", "takeHead", "(LHassockRoof$Pairs;)Z"⟩, 10), (⟨"HassockRoof$Reader", "readWorth", "()Z"⟩, 10), (⟨"HassockRoof$Reader", "readWay", "()Z"⟩, 10), (⟨"HassockRoof$Reader", "readLooker", "()Z"⟩, 10), (⟨"HassockRoof$Reader", "takeSign", "()Z"⟩, 10), (⟨"HassockRoof", "lookAnew", "()V"⟩, 15)]
theorem lw_r1 : ∀ q ∈ lw_privs_1, lw_okq q := List.forall_mem_cons.mpr ⟨lw_p0, List.forall_mem_cons.mpr ⟨lw_p1, List.forall_mem_cons.mpr ⟨lw_p2, List.forall_mem_cons.mpr ⟨lw_p3, List.forall_mem_cons.mpr ⟨lw_p4, List.forall_mem_cons.mpr ⟨lw_p5, List.forall_mem_cons.mpr ⟨lw_p6, List.forall_mem_cons.mpr ⟨lw_p7, List.forall_mem_cons.mpr ⟨lw_p8, List.forall_mem_cons.mpr ⟨lw_p9, List.forall_mem_cons.mpr ⟨lw_p10, List.forall_mem_cons.mpr ⟨lw_p11, List.forall_mem_cons.mpr ⟨lw_p12, List.forall_mem_cons.mpr ⟨lw_p13, List.forall_mem_cons.mpr ⟨lw_p14, List.forall_mem_cons.mpr ⟨lw_p15, fun _ h => absurd h List.not_mem_nil⟩⟩⟩⟩⟩⟩⟩⟩⟩⟩⟩⟩⟩⟩⟩⟩
theorem lw_p16 : lw_okq (⟨"HassockRoof$Sight", "isBetween", "(III)Z"⟩, 3) := ⟨⟨by decide +kernel, by decide +kernel⟩, List.mem_of_getElem? (i := 200) (by decide +kernel), List.mem_of_getElem? (i := 621) (by decide +kernel), List.mem_of_getElem? (i := 622) (by decide +kernel)⟩
theorem lw_p17 : lw_okq (⟨"HassockRoof$Course", "goOn", "([III)V"⟩, 3) := ⟨⟨by decide +kernel, by decide +kernel⟩, List.mem_of_getElem? (i := 217) (by decide +kernel), List.mem_of_getElem? (i := 673) (by decide +kernel), List.mem_of_getElem? (i := 674) (by decide +kernel)⟩
theorem lw_p18 : lw_okq (⟨"HassockRoof$Course", "goBack", "([I)V"⟩, 3) := ⟨⟨by decide +kernel, by decide +kernel⟩, List.mem_of_getElem? (i := 217) (by decide +kernel), List.mem_of_getElem? (i := 681) (by decide +kernel), List.mem_of_getElem? (i := 682) (by decide +kernel)⟩
theorem lw_p19 : lw_okq (⟨"HassockRoof$Course", "changeMostAndLeast", "([I)V"⟩, 3) := ⟨⟨by decide +kernel, by decide +kernel⟩, List.mem_of_getElem? (i := 217) (by decide +kernel), List.mem_of_getElem? (i := 685) (by decide +kernel), List.mem_of_getElem? (i := 686) (by decide +kernel)⟩
theorem lw_p20 : lw_okq (⟨"HassockRoof$Course", "unhappy", "([I)I"⟩, 3) := ⟨⟨by decide +kernel, by decide +kernel⟩, List.mem_of_getElem? (i := 217) (by decide +kernel), List.mem_of_getElem? (i := 694) (by decide +kernel), List.mem_of_getElem? (i := 695) (by decide +kernel)⟩
theorem lw_p21 : lw_okq (⟨"HassockRoof$Course", "placesOf", "([II)I"⟩, 3) := ⟨⟨by decide +kernel, by decide +kernel⟩, List.mem_of_getElem? (i := 217) (by decide +kernel), List.mem_of_getElem? (i := 703) (by decide +kernel), List.mem_of_getElem? (i := 704) (by decide +kernel)⟩
theorem lw_p22 : lw_okq (⟨"HassockRoof", "isLookerInYear", "(II)Z"⟩, 15) := ⟨⟨by decide +kernel, by decide +kernel⟩, List.mem_of_getElem? (i := 22) (by decide +kernel), List.mem_of_getElem? (i := 807) (by decide +kernel), List.mem_of_getElem? (i := 808) (by decide +kernel)⟩
theorem lw_p23 : lw_okq (⟨"HassockRoof", "wouldTrade", "(III)Z"⟩, 15) := ⟨⟨by decide +kernel, by decide +kernel⟩, List.mem_of_getElem? (i := 22) (by decide +kernel), List.mem_of_getElem? (i := 906) (by decide +kernel), List.mem_of_getElem? (i := 907) (by decide +kernel)⟩
theorem lw_p24 : lw_okq (⟨"HassockRoof$Rosters", "gladByRow", "()I"⟩, 6) := ⟨⟨by decide +kernel, by decide +kernel⟩, List.mem_of_getElem? (i := 235) (by decide +kernel), List.mem_of_getElem? (i := 929) (by decide +kernel), List.mem_of_getElem? (i := 930) (by decide +kernel)⟩
theorem lw_p25 : lw_okq (⟨"HassockRoof", "refuseGoal", "(I)I"⟩, 15) := ⟨⟨by decide +kernel, by decide +kernel⟩, List.mem_of_getElem? (i := 22) (by decide +kernel), List.mem_of_getElem? (i := 962) (by decide +kernel), List.mem_of_getElem? (i := 963) (by decide +kernel)⟩
theorem lw_p26 : lw_okq (⟨"HassockRoof$Shifting", "spread", "()V"⟩, 7) := ⟨⟨by decide +kernel, by decide +kernel⟩, List.mem_of_getElem? (i := 262) (by decide +kernel), List.mem_of_getElem? (i := 985) (by decide +kernel), List.mem_of_getElem? (i := 986) (by decide +kernel)⟩
theorem lw_p27 : lw_okq (⟨"HassockRoof$Shifting", "visit", "(I)V"⟩, 7) := ⟨⟨by decide +kernel, by decide +kernel⟩, List.mem_of_getElem? (i := 262) (by decide +kernel), List.mem_of_getElem? (i := 990) (by decide +kernel), List.mem_of_getElem? (i := 991) (by decide +kernel)⟩
theorem lw_p28 : lw_okq (⟨"HassockRoof$Shifting", "visitNeighbours", "()V"⟩, 7) := ⟨⟨by decide +kernel, by decide +kernel⟩, List.mem_of_getElem? (i := 262) (by decide +kernel), List.mem_of_getElem? (i := 1005) (by decide +kernel), List.mem_of_getElem? (i := 1006) (by decide +kernel)⟩
theorem lw_p29 : lw_okq (⟨"HassockRoof$Shifting", "distanceOfRow", "()I"⟩, 7) := ⟨⟨by decide +kernel, by decide +kernel⟩, List.mem_of_getElem? (i := 262) (by decide +kernel), List.mem_of_getElem? (i := 1009) (by decide +kernel), List.mem_of_getElem? (i := 1010) (by decide +kernel)⟩
theorem lw_p30 : lw_okq (⟨"HassockRoof$Shifting", "taken", "()I"⟩, 7) := ⟨⟨by decide +kernel, by decide +kernel⟩, List.mem_of_getElem? (i := 262) (by decide +kernel), List.mem_of_getElem? (i := 1013) (by decide +kernel), List.mem_of_getElem? (i := 1014) (by decide +kernel)⟩
theorem lw_p31 : lw_okq (⟨"HassockRoof$Shifting", "nearTo", "(I)I"⟩, 7) := ⟨⟨by decide +kernel, by decide +kernel⟩, List.mem_of_getElem? (i := 262) (by decide +kernel), List.mem_of_getElem? (i := 1017) (by decide +kernel), List.mem_of_getElem? (i := 1018) (by decide +kernel)⟩
def lw_privs_2 : List (MethodName × Nat) := [(⟨"HassockRoof$Sight", "isBetween", "(III)Z"⟩, 3), (⟨"HassockRoof$Course", "goOn", "([III)V"⟩, 3), (⟨"HassockRoof$Course", "goBack", "([I)V"⟩, 3), (⟨"HassockRoof$Course", "changeMostAndLeast", "([I)V"⟩, 3), (⟨"HassockRoof$Course", "unhappy", "([I)I"⟩, 3), (⟨"HassockRoof$Course", "placesOf", "([II)I"⟩, 3), (⟨"HassockRoof", "isLookerInYear", "(II)Z"⟩, 15), (⟨"HassockRoof", "wouldTrade", "(III)Z"⟩, 15), (⟨"HassockRoof$Rosters", "gladByRow", "()I"⟩, 6), (⟨"HassockRoof", "refuseGoal", "(I)I"⟩, 15), (⟨"HassockRoof$Shifting", "spread", "()V"⟩, 7), (⟨"HassockRoof$Shifting", "visit", "(I)V"⟩, 7), (⟨"HassockRoof$Shifting", "visitNeighbours", "()V"⟩, 7), (⟨"HassockRoof$Shifting", "distanceOfRow", "()I"⟩, 7), (⟨"HassockRoof$Shifting", "taken", "()I"⟩, 7), (⟨"HassockRoof$Shifting", "nearTo", "(I)I"⟩, 7)]
theorem lw_r2 : ∀ q ∈ lw_privs_2, lw_okq q := List.forall_mem_cons.mpr ⟨lw_p16, List.forall_mem_cons.mpr ⟨lw_p17, List.forall_mem_cons.mpr ⟨lw_p18, List.forall_mem_cons.mpr ⟨lw_p19, List.forall_mem_cons.mpr ⟨lw_p20, List.forall_mem_cons.mpr ⟨lw_p21, List.forall_mem_cons.mpr ⟨lw_p22, List.forall_mem_cons.mpr ⟨lw_p23, List.forall_mem_cons.mpr ⟨lw_p24, List.forall_mem_cons.mpr ⟨lw_p25, List.forall_mem_cons.mpr ⟨lw_p26, List.forall_mem_cons.mpr ⟨lw_p27, List.forall_mem_cons.mpr ⟨lw_p28, List.forall_mem_cons.mpr ⟨lw_p29, List.forall_mem_cons.mpr ⟨lw_p30, List.forall_mem_cons.mpr ⟨lw_p31, fun _ h => absurd h List.not_mem_nil⟩⟩⟩⟩⟩⟩⟩⟩⟩⟩⟩⟩⟩⟩⟩⟩
theorem lw_p32 : lw_okq (⟨"HassockRoof$Shifting", "fillAsTold", "()V"⟩, 7) := ⟨⟨by decide +kernel, by decide +kernel⟩, List.mem_of_getElem? (i := 262) (by decide +kernel), List.mem_of_getElem? (i := 1021) (by decide +kernel), List.mem_of_getElem? (i := 1022) (by decide +kernel)⟩
theorem lw_p33 : lw_okq (⟨"HassockRoof$Rosters", "takenByOrder", "(I)I"⟩, 6) := ⟨⟨by decide +kernel, by decide +kernel⟩, List.mem_of_getElem? (i := 235) (by decide +kernel), List.mem_of_getElem? (i := 1056) (by decide +kernel), List.mem_of_getElem? (i := 1057) (by decide +kernel)⟩
theorem lw_p34 : lw_okq (⟨"HassockRoof", "refuseBook", "(II)I"⟩, 15) := ⟨⟨by decide +kernel, by decide +kernel⟩, List.mem_of_getElem? (i := 22) (by decide +kernel), List.mem_of_getElem? (i := 1104) (by decide +kernel), List.mem_of_getElem? (i := 1105) (by decide +kernel)⟩
theorem lw_p35 : lw_okq (⟨"HassockRoof$Book", "canHaveBeen", "(LHassockRoof$Slot;II)Z"⟩, 4) := ⟨⟨by decide +kernel, by decide +kernel⟩, List.mem_of_getElem? (i := 309) (by decide +kernel), List.mem_of_getElem? (i := 1117) (by decide +kernel), List.mem_of_getElem? (i := 1118) (by decide +kernel)⟩
theorem lw_p36 : lw_okq (⟨"HassockRoof$Book", "agrees", "(LHassockRoof$Slot;I)Z"⟩, 4) := ⟨⟨by decide +kernel, by decide +kernel⟩, List.mem_of_getElem? (i := 309) (by decide +kernel), List.mem_of_getElem? (i := 1126) (by decide +kernel), List.mem_of_getElem? (i := 1127) (by decide +kernel)⟩
theorem lw_p37 : lw_okq (⟨"HassockRoof$Book", "tallyCourse", "(I)V"⟩, 4) := ⟨⟨by decide +kernel, by decide +kernel⟩, List.mem_of_getElem? (i := 309) (by decide +kernel), List.mem_of_getElem? (i := 1139) (by decide +kernel), List.mem_of_getElem? (i := 1140) (by decide +kernel)⟩
theorem lw_p38 : lw_okq (⟨"HassockRoof", "joyByLaw", "(I)I"⟩, 15) := ⟨⟨by decide +kernel, by decide +kernel⟩, List.mem_of_getElem? (i := 22) (by decide +kernel), List.mem_of_getElem? (i := 1174) (by decide +kernel), List.mem_of_getElem? (i := 1175) (by decide +kernel)⟩
theorem lw_p39 : lw_okq (⟨"HassockRoof", "joyWithoutFlue", "(I)I"⟩, 15) := ⟨⟨by decide +kernel, by decide +kernel⟩, List.mem_of_getElem? (i := 22) (by decide +kernel), List.mem_of_getElem? (i := 1191) (by decide +kernel), List.mem_of_getElem? (i := 1192) (by decide +kernel)⟩
theorem lw_p40 : lw_okq (⟨"HassockRoof", "areTwoLookers", "(II)Z"⟩, 15) := ⟨⟨by decide +kernel, by decide +kernel⟩, List.mem_of_getElem? (i := 22) (by decide +kernel), List.mem_of_getElem? (i := 1199) (by decide +kernel), List.mem_of_getElem? (i := 1200) (by decide +kernel)⟩
theorem lw_p41 : lw_okq (⟨"HassockRoof", "gain", "(IIII)I"⟩, 15) := ⟨⟨by decide +kernel, by decide +kernel⟩, List.mem_of_getElem? (i := 22) (by decide +kernel), List.mem_of_getElem? (i := 1203) (by decide +kernel), List.mem_of_getElem? (i := 1204) (by decide +kernel)⟩
theorem lw_p42 : lw_okq (⟨"HassockRoof", "marksInGame", "(II)I"⟩, 15) := ⟨⟨by decide +kernel, by decide +kernel⟩, List.mem_of_getElem? (i := 22) (by decide +kernel), List.mem_of_getElem? (i := 1207) (by decide +kernel), List.mem_of_getElem? (i := 1208) (by decide +kernel)⟩
theorem lw_p43 : lw_okq (⟨"HassockRoof", "isChanceAsked", "(III)Z"⟩, 15) := ⟨⟨by decide +kernel, by decide +kernel⟩, List.mem_of_getElem? (i := 22) (by decide +kernel), List.mem_of_getElem? (i := 1220) (by decide +kernel), List.mem_of_getElem? (i := 1221) (by decide +kernel)⟩
theorem lw_p44 : lw_okq (⟨"HassockRoof$Chances", "branch", "(IIIJ)V"⟩, 3) := ⟨⟨by decide +kernel, by decide +kernel⟩, List.mem_of_getElem? (i := 292) (by decide +kernel), List.mem_of_getElem? (i := 1231) (by decide +kernel), List.mem_of_getElem? (i := 1232) (by decide +kernel)⟩
theorem lw_p45 : lw_okq (⟨"HassockRoof$Chances", "addWeight", "(IJ)V"⟩, 3) := ⟨⟨by decide +kernel, by decide +kernel⟩, List.mem_of_getElem? (i := 292) (by decide +kernel), List.mem_of_getElem? (i := 1236) (by decide +kernel), List.mem_of_getElem? (i := 1237) (by decide +kernel)⟩
theorem lw_p46 : lw_okq (⟨"HassockRoof", "slotsHeld", "()I"⟩, 15) := ⟨⟨by decide +kernel, by decide +kernel⟩, List.mem_of_getElem? (i := 22) (by decide +kernel), List.mem_of_getElem? (i := 1306) (by decide +kernel), List.mem_of_getElem? (i := 1307) (by decide +kernel)⟩
theorem lw_p47 : lw_okq (⟨"HassockRoof$Slot", "cut", "(J)J"⟩, 4) := ⟨⟨by decide +kernel, by decide +kernel⟩, List.mem_of_getElem? (i := 329) (by decide +kernel), List.mem_of_getElem? (i := 1337) (by decide +kernel), List.mem_of_getElem? (i := 1338) (by decide +kernel)⟩
def lw_privs_3 : List (MethodName × Nat) := [(⟨"HassockRoof$Shifting", "fillAsTold", "()V"⟩, 7), (⟨"HassockRoof$Rosters", "takenByOrder", "(I)I"⟩, 6), (⟨"HassockRoof", "refuseBook", "(II)I"⟩, 15), (⟨"HassockRoof$Book", "canHaveBeen", "(LHassockRoof$Slot;II)Z"⟩, 4), (⟨"HassockRoof$Book", "agrees", "(LHassockRoof$Slot;I)Z"⟩, 4), (⟨"HassockRoof$Book", "tallyCourse", "(I)V"⟩, 4), (⟨"HassockRoof", "joyByLaw", "(I)I"⟩, 15), (⟨"HassockRoof", "joyWithoutFlue", "(I)I"⟩, 15), (⟨"HassockRoof", "areTwoLookers", "(II)Z"⟩, 15), (⟨"HassockRoof", "gain", "(IIII)I"⟩, 15), (⟨"HassockRoof", "marksInGame", "(II)I"⟩, 15), (⟨"HassockRoof", "isChanceAsked", "(III)Z"⟩, 15), (⟨"HassockRoof$Chances", "branch", "(IIIJ)V"⟩, 3), (⟨"HassockRoof$Chances", "addWeight", "(IJ)V"⟩, 3), (⟨"HassockRoof", "slotsHeld", "()I"⟩, 15), (⟨"HassockRoof$Slot", "cut", "(J)J"⟩, 4)]
theorem lw_r3 : ∀ q ∈ lw_privs_3, lw_okq q := List.forall_mem_cons.mpr ⟨lw_p32, List.forall_mem_cons.mpr ⟨lw_p33, List.forall_mem_cons.mpr ⟨lw_p34, List.forall_mem_cons.mpr ⟨lw_p35, List.forall_mem_cons.mpr ⟨lw_p36, List.forall_mem_cons.mpr ⟨lw_p37, List.forall_mem_cons.mpr ⟨lw_p38, List.forall_mem_cons.mpr ⟨lw_p39, List.forall_mem_cons.mpr ⟨lw_p40, List.forall_mem_cons.mpr ⟨lw_p41, List.forall_mem_cons.mpr ⟨lw_p42, List.forall_mem_cons.mpr ⟨lw_p43, List.forall_mem_cons.mpr ⟨lw_p44, List.forall_mem_cons.mpr ⟨lw_p45, List.forall_mem_cons.mpr ⟨lw_p46, List.forall_mem_cons.mpr ⟨lw_p47, fun _ h => absurd h List.not_mem_nil⟩⟩⟩⟩⟩⟩⟩⟩⟩⟩⟩⟩⟩⟩⟩⟩
theorem lw_p48 : lw_okq (⟨"HassockRoofModel", "four", "(I)V"⟩, 45) := ⟨⟨by decide +kernel, by decide +kernel⟩, List.mem_of_getElem? (i := 1346) (by decide +kernel), List.mem_of_getElem? (i := 1515) (by decide +kernel), List.mem_of_getElem? (i := 1516) (by decide +kernel)⟩
theorem lw_p49 : lw_okq (⟨"HassockRoofModel", "clears", "()V"⟩, 45) := ⟨⟨by decide +kernel, by decide +kernel⟩, List.mem_of_getElem? (i := 1346) (by decide +kernel), List.mem_of_getElem? (i := 1531) (by decide +kernel), List.mem_of_getElem? (i := 1532) (by decide +kernel)⟩
theorem lw_p50 : lw_okq (⟨"HassockRoofModel", "tells", "(II)V"⟩, 45) := ⟨⟨by decide +kernel, by decide +kernel⟩, List.mem_of_getElem? (i := 1346) (by decide +kernel), List.mem_of_getElem? (i := 1535) (by decide +kernel), List.mem_of_getElem? (i := 1536) (by decide +kernel)⟩
theorem lw_p51 : lw_okq (⟨"HassockRoofModel", "begins", "()V"⟩, 45) := ⟨⟨by decide +kernel, by decide +kernel⟩, List.mem_of_getElem? (i := 1346) (by decide +kernel), List.mem_of_getElem? (i := 1539) (by decide +kernel), List.mem_of_getElem? (i := 1540) (by decide +kernel)⟩
theorem lw_p52 : lw_okq (⟨"HassockRoofModel", "next", "()V"⟩, 45) := ⟨⟨by decide +kernel, by decide +kernel⟩, List.mem_of_getElem? (i := 1346) (by decide +kernel), List.mem_of_getElem? (i := 1543) (by decide +kernel), List.mem_of_getElem? (i := 1544) (by decide +kernel)⟩
theorem lw_p53 : lw_okq (⟨"HassockRoofModel", "isByte", "(III)Z"⟩, 45) := ⟨⟨by decide +kernel, by decide +kernel⟩, List.mem_of_getElem? (i := 1346) (by decide +kernel), List.mem_of_getElem? (i := 1547) (by decide +kernel), List.mem_of_getElem? (i := 1548) (by decide +kernel)⟩
theorem lw_p54 : lw_okq (⟨"HassockRoofModel", "isGood", "()Z"⟩, 45) := ⟨⟨by decide +kernel, by decide +kernel⟩, List.mem_of_getElem? (i := 1346) (by decide +kernel), List.mem_of_getElem? (i := 1556) (by decide +kernel), List.mem_of_getElem? (i := 1557) (by decide +kernel)⟩
theorem lw_p55 : lw_okq (⟨"HassockRoofModel", "asks", "(J)V"⟩, 45) := ⟨⟨by decide +kernel, by decide +kernel⟩, List.mem_of_getElem? (i := 1346) (by decide +kernel), List.mem_of_getElem? (i := 1561) (by decide +kernel), List.mem_of_getElem? (i := 1562) (by decide +kernel)⟩
theorem lw_p56 : lw_okq (⟨"HassockRoofModel", "takes", "(J)Z"⟩, 45) := ⟨⟨by decide +kernel, by decide +kernel⟩, List.mem_of_getElem? (i := 1346) (by decide +kernel), List.mem_of_getElem? (i := 1565) (by decide +kernel), List.mem_of_getElem? (i := 1566) (by decide +kernel)⟩
theorem lw_p57 : lw_okq (⟨"HassockRoofModel", "is", "(J)Z"⟩, 45) := ⟨⟨by decide +kernel, by decide +kernel⟩, List.mem_of_getElem? (i := 1346) (by decide +kernel), List.mem_of_getElem? (i := 1569) (by decide +kernel), List.mem_of_getElem? (i := 1570) (by decide +kernel)⟩
theorem lw_p58 : lw_okq (⟨"HassockRoofModel", "fails", "(I)V"⟩, 45) := ⟨⟨by decide +kernel, by decide +kernel⟩, List.mem_of_getElem? (i := 1346) (by decide +kernel), List.mem_of_getElem? (i := 1573) (by decide +kernel), List.mem_of_getElem? (i := 1574) (by decide +kernel)⟩
theorem lw_p59 : lw_okq (⟨"HassockRoofModel", "number", "(JII)I"⟩, 45) := ⟨⟨by decide +kernel, by decide +kernel⟩, List.mem_of_getElem? (i := 1346) (by decide +kernel), List.mem_of_getElem? (i := 1578) (by decide +kernel), List.mem_of_getElem? (i := 1579) (by decide +kernel)⟩
theorem lw_p60 : lw_okq (⟨"HassockRoofModel", "number", "(II)I"⟩, 45) := ⟨⟨by decide +kernel, by decide +kernel⟩, List.mem_of_getElem? (i := 1346) (by decide +kernel), List.mem_of_getElem? (i := 1582) (by decide +kernel), List.mem_of_getElem? (i := 1583) (by decide +kernel)⟩
theorem lw_p61 : lw_okq (⟨"HassockRoofModel", "lineHere", "()V"⟩, 45) := ⟨⟨by decide +kernel, by decide +kernel⟩, List.mem_of_getElem? (i := 1346) (by decide +kernel), List.mem_of_getElem? (i := 1588) (by decide +kernel), List.mem_of_getElem? (i := 1589) (by decide +kernel)⟩
theorem lw_p62 : lw_okq (⟨"HassockRoofModel", "isRoom", "(ZII)Z"⟩, 45) := ⟨⟨by decide +kernel, by decide +kernel⟩, List.mem_of_getElem? (i := 1346) (by decide +kernel), List.mem_of_getElem? (i := 1593) (by decide +kernel), List.mem_of_getElem? (i := 1594) (by decide +kernel)⟩
theorem lw_p63 : lw_okq (⟨"HassockRoofModel", "hasRead", "(I)I"⟩, 45) := ⟨⟨by decide +kernel, by decide +kernel⟩, List.mem_of_getElem? (i := 1346) (by decide +kernel), List.mem_of_getElem? (i := 1597) (by decide +kernel), List.mem_of_getElem? (i := 1598) (by decide +kernel)⟩
def lw_privs_4 : List (MethodName × Nat) := [(⟨"HassockRoofModel", "four", "(I)V"⟩, 45), (⟨"HassockRoofModel", "clears", "()V"⟩, 45), (⟨"HassockRoofModel", "tells", "(II)V"⟩, 45), (⟨"HassockRoofModel", "begins", "()V"⟩, 45), (⟨"HassockRoofModel", "next", "()V"⟩, 45), (⟨"HassockRoofModel", "isByte", "(III)Z"⟩, 45), (⟨"HassockRoofModel", "isGood", "()Z"⟩, 45), (⟨"HassockRoofModel", "asks", "(J)V"⟩, 45), (⟨"HassockRoofModel", "takes", "(J)Z"⟩, 45), (⟨"HassockRoofModel", "is", "(J)Z"⟩, 45), (⟨"HassockRoofModel", "fails", "(I)V"⟩, 45), (⟨"HassockRoofModel", "number", "(JII)I"⟩, 45), (⟨"HassockRoofModel", "number", "(II)I"⟩, 45), (⟨"HassockRoofModel", "lineHere", "()V"⟩, 45), (⟨"HassockRoofModel", "isRoom", "(ZII)Z"⟩, 45), (⟨"HassockRoofModel", "hasRead", "(I)I"⟩, 45)]
theorem lw_r4 : ∀ q ∈ lw_privs_4, lw_okq q := List.forall_mem_cons.mpr ⟨lw_p48, List.forall_mem_cons.mpr ⟨lw_p49, List.forall_mem_cons.mpr ⟨lw_p50, List.forall_mem_cons.mpr ⟨lw_p51, List.forall_mem_cons.mpr ⟨lw_p52, List.forall_mem_cons.mpr ⟨lw_p53, List.forall_mem_cons.mpr ⟨lw_p54, List.forall_mem_cons.mpr ⟨lw_p55, List.forall_mem_cons.mpr ⟨lw_p56, List.forall_mem_cons.mpr ⟨lw_p57, List.forall_mem_cons.mpr ⟨lw_p58, List.forall_mem_cons.mpr ⟨lw_p59, List.forall_mem_cons.mpr ⟨lw_p60, List.forall_mem_cons.mpr ⟨lw_p61, List.forall_mem_cons.mpr ⟨lw_p62, List.forall_mem_cons.mpr ⟨lw_p63, fun _ h => absurd h List.not_mem_nil⟩⟩⟩⟩⟩⟩⟩⟩⟩⟩⟩⟩⟩⟩⟩⟩
theorem lw_p64 : lw_okq (⟨"HassockRoofModel", "pointHere", "([II)V"⟩, 45) := ⟨⟨by decide +kernel, by decide +kernel⟩, List.mem_of_getElem? (i := 1346) (by decide +kernel), List.mem_of_getElem? (i := 1601) (by decide +kernel), List.mem_of_getElem? (i := 1602) (by decide +kernel)⟩
theorem lw_p65 : lw_okq (⟨"HassockRoofModel", "isTaken", "([IIIII)Z"⟩, 45) := ⟨⟨by decide +kernel, by decide +kernel⟩, List.mem_of_getElem? (i := 1346) (by decide +kernel), List.mem_of_getElem? (i := 1606) (by decide +kernel), List.mem_of_getElem? (i := 1607) (by decide +kernel)⟩
theorem lw_p66 : lw_okq (⟨"HassockRoofModel", "wayLine", "()V"⟩, 45) := ⟨⟨by decide +kernel, by decide +kernel⟩, List.mem_of_getElem? (i := 1346) (by decide +kernel), List.mem_of_getElem? (i := 1614) (by decide +kernel), List.mem_of_getElem? (i := 1615) (by decide +kernel)⟩
theorem lw_p67 : lw_okq (⟨"HassockRoofModel", "placeHere", "()I"⟩, 45) := ⟨⟨by decide +kernel, by decide +kernel⟩, List.mem_of_getElem? (i := 1346) (by decide +kernel), List.mem_of_getElem? (i := 1618) (by decide +kernel), List.mem_of_getElem? (i := 1619) (by decide +kernel)⟩
theorem lw_p68 : lw_okq (⟨"HassockRoofModel", "lookerLine", "()V"⟩, 45) := ⟨⟨by decide +kernel, by decide +kernel⟩, List.mem_of_getElem? (i := 1346) (by decide +kernel), List.mem_of_getElem? (i := 1623) (by decide +kernel), List.mem_of_getElem? (i := 1624) (by decide +kernel)⟩
theorem lw_p69 : lw_okq (⟨"HassockRoofModel", "ends", "()V"⟩, 45) := ⟨⟨by decide +kernel, by decide +kernel⟩, List.mem_of_getElem? (i := 1346) (by decide +kernel), List.mem_of_getElem? (i := 1629) (by decide +kernel), List.mem_of_getElem? (i := 1630) (by decide +kernel)⟩
theorem lw_p70 : lw_okq (⟨"HassockRoofModel", "isOver", "()V"⟩, 45) := ⟨⟨by decide +kernel, by decide +kernel⟩, List.mem_of_getElem? (i := 1346) (by decide +kernel), List.mem_of_getElem? (i := 1633) (by decide +kernel), List.mem_of_getElem? (i := 1634) (by decide +kernel)⟩
theorem lw_p71 : lw_okq (⟨"HassockRoofModel", "copyRoof", "(II)V"⟩, 45) := ⟨⟨by decide +kernel, by decide +kernel⟩, List.mem_of_getElem? (i := 1346) (by decide +kernel), List.mem_of_getElem? (i := 1637) (by decide +kernel), List.mem_of_getElem? (i := 1638) (by decide +kernel)⟩
theorem lw_p72 : lw_okq (⟨"HassockRoofModel", "isPlace", "(J)Z"⟩, 45) := ⟨⟨by decide +kernel, by decide +kernel⟩, List.mem_of_getElem? (i := 1346) (by decide +kernel), List.mem_of_getElem? (i := 1648) (by decide +kernel), List.mem_of_getElem? (i := 1649) (by decide +kernel)⟩
theorem lw_p73 : lw_okq (⟨"HassockRoofModel", "places", "()I"⟩, 45) := ⟨⟨by decide +kernel, by decide +kernel⟩, List.mem_of_getElem? (i := 1346) (by decide +kernel), List.mem_of_getElem? (i := 1652) (by decide +kernel), List.mem_of_getElem? (i := 1653) (by decide +kernel)⟩
theorem lw_p74 : lw_okq (⟨"HassockRoofModel", "isMark", "(J)Z"⟩, 45) := ⟨⟨by decide +kernel, by decide +kernel⟩, List.mem_of_getElem? (i := 1346) (by decide +kernel), List.mem_of_getElem? (i := 1663) (by decide +kernel), List.mem_of_getElem? (i := 1664) (by decide +kernel)⟩
theorem lw_p75 : lw_okq (⟨"HassockRoofModel", "marks", "()I"⟩, 45) := ⟨⟨by decide +kernel, by decide +kernel⟩, List.mem_of_getElem? (i := 1346) (by decide +kernel), List.mem_of_getElem? (i := 1667) (by decide +kernel), List.mem_of_getElem? (i := 1668) (by decide +kernel)⟩
theorem lw_p76 : lw_okq (⟨"HassockRoofModel", "isFlue", "(I)Z"⟩, 45) := ⟨⟨by decide +kernel, by decide +kernel⟩, List.mem_of_getElem? (i := 1346) (by decide +kernel), List.mem_of_getElem? (i := 1676) (by decide +kernel), List.mem_of_getElem? (i := 1677) (by decide +kernel)⟩
theorem lw_p77 : lw_okq (⟨"HassockRoofModel", "laysFlues", "()V"⟩, 45) := ⟨⟨by decide +kernel, by decide +kernel⟩, List.mem_of_getElem? (i := 1346) (by decide +kernel), List.mem_of_getElem? (i := 1680) (by decide +kernel), List.mem_of_getElem? (i := 1681) (by decide +kernel)⟩
theorem lw_p78 : lw_okq (⟨"HassockRoofModel", "isMan", "(I)Z"⟩, 45) := ⟨⟨by decide +kernel, by decide +kernel⟩, List.mem_of_getElem? (i := 1346) (by decide +kernel), List.mem_of_getElem? (i := 1691) (by decide +kernel), List.mem_of_getElem? (i := 1692) (by decide +kernel)⟩
theorem lw_p79 : lw_okq (⟨"HassockRoofModel", "men", "()I"⟩, 45) := ⟨⟨by decide +kernel, by decide +kernel⟩, List.mem_of_getElem? (i := 1346) (by decide +kernel), List.mem_of_getElem? (i := 1695) (by decide +kernel), List.mem_of_getElem? (i := 1696) (by decide +kernel)⟩
def lw_privs_5 : List (MethodName × Nat) := [(⟨"HassockRoofModel", "pointHere", "([II)V"⟩, 45), (⟨"HassockRoofModel", "isTaken", "([IIIII)Z"⟩, 45), (⟨"HassockRoofModel", "wayLine", "()V"⟩, 45), (⟨"HassockRoofModel", "placeHere", "()I"⟩, 45), (⟨"HassockRoofModel", "lookerLine", "()V"⟩, 45), (⟨"HassockRoofModel", "ends", "()V"⟩, 45), (⟨"HassockRoofModel", "isOver", "()V"⟩, 45), (⟨"HassockRoofModel", "copyRoof", "(II)V"⟩, 45), (⟨"HassockRoofModel", "isPlace", "(J)Z"⟩, 45), (⟨"HassockRoofModel", "places", "()I"⟩, 45), (⟨"HassockRoofModel", "isMark", "(J)Z"⟩, 45), (⟨"HassockRoofModel", "marks", "()I"⟩, 45), (⟨"HassockRoofModel", "isFlue", "(I)Z"⟩, 45), (⟨"HassockRoofModel", "laysFlues", "()V"⟩, 45), (⟨"HassockRoofModel", "isMan", "(I)Z"⟩, 45), (⟨"HassockRoofModel", "men", "()I"⟩, 45)]
theorem lw_r5 : ∀ q ∈ lw_privs_5, lw_okq q := List.forall_mem_cons.mpr ⟨lw_p64, List.forall_mem_cons.mpr ⟨lw_p65, List.forall_mem_cons.mpr ⟨lw_p66, List.forall_mem_cons.mpr ⟨lw_p67, List.forall_mem_cons.mpr ⟨lw_p68, List.forall_mem_cons.mpr ⟨lw_p69, List.forall_mem_cons.mpr ⟨lw_p70, List.forall_mem_cons.mpr ⟨lw_p71, List.forall_mem_cons.mpr ⟨lw_p72, List.forall_mem_cons.mpr ⟨lw_p73, List.forall_mem_cons.mpr ⟨lw_p74, List.forall_mem_cons.mpr ⟨lw_p75, List.forall_mem_cons.mpr ⟨lw_p76, List.forall_mem_cons.mpr ⟨lw_p77, List.forall_mem_cons.mpr ⟨lw_p78, List.forall_mem_cons.mpr ⟨lw_p79, fun _ h => absurd h List.not_mem_nil⟩⟩⟩⟩⟩⟩⟩⟩⟩⟩⟩⟩⟩⟩⟩⟩
theorem lw_p80 : lw_okq (⟨"HassockRoofModel", "isWay", "(II)Z"⟩, 45) := ⟨⟨by decide +kernel, by decide +kernel⟩, List.mem_of_getElem? (i := 1346) (by decide +kernel), List.mem_of_getElem? (i := 1703) (by decide +kernel), List.mem_of_getElem? (i := 1704) (by decide +kernel)⟩
theorem lw_p81 : lw_okq (⟨"HassockRoofModel", "lays", "()V"⟩, 45) := ⟨⟨by decide +kernel, by decide +kernel⟩, List.mem_of_getElem? (i := 1346) (by decide +kernel), List.mem_of_getElem? (i := 1711) (by decide +kernel), List.mem_of_getElem? (i := 1712) (by decide +kernel)⟩
theorem lw_p82 : lw_okq (⟨"HassockRoofModel", "laysSees", "()V"⟩, 45) := ⟨⟨by decide +kernel, by decide +kernel⟩, List.mem_of_getElem? (i := 1346) (by decide +kernel), List.mem_of_getElem? (i := 1715) (by decide +kernel), List.mem_of_getElem? (i := 1716) (by decide +kernel)⟩
theorem lw_p83 : lw_okq (⟨"HassockRoofModel", "hidesOf", "(II)I"⟩, 45) := ⟨⟨by decide +kernel, by decide +kernel⟩, List.mem_of_getElem? (i := 1346) (by decide +kernel), List.mem_of_getElem? (i := 1719) (by decide +kernel), List.mem_of_getElem? (i := 1720) (by decide +kernel)⟩
theorem lw_p84 : lw_okq (⟨"HassockRoofModel", "isBetween", "(III)Z"⟩, 45) := ⟨⟨by decide +kernel, by decide +kernel⟩, List.mem_of_getElem? (i := 1346) (by decide +kernel), List.mem_of_getElem? (i := 1723) (by decide +kernel), List.mem_of_getElem? (i := 1724) (by decide +kernel)⟩
theorem lw_p85 : lw_okq (⟨"HassockRoofModel", "fromOf", "(I)I"⟩, 45) := ⟨⟨by decide +kernel, by decide +kernel⟩, List.mem_of_getElem? (i := 1346) (by decide +kernel), List.mem_of_getElem? (i := 1737) (by decide +kernel), List.mem_of_getElem? (i := 1738) (by decide +kernel)⟩
theorem lw_p86 : lw_okq (⟨"HassockRoofModel", "placeWorth", "(I)I"⟩, 45) := ⟨⟨by decide +kernel, by decide +kernel⟩, List.mem_of_getElem? (i := 1346) (by decide +kernel), List.mem_of_getElem? (i := 1749) (by decide +kernel), List.mem_of_getElem? (i := 1750) (by decide +kernel)⟩
theorem lw_p87 : lw_okq (⟨"HassockRoofModel", "worthOf", "(I)I"⟩, 45) := ⟨⟨by decide +kernel, by decide +kernel⟩, List.mem_of_getElem? (i := 1346) (by decide +kernel), List.mem_of_getElem? (i := 1753) (by decide +kernel), List.mem_of_getElem? (i := 1754) (by decide +kernel)⟩
theorem lw_p88 : lw_okq (⟨"HassockRoofModel", "isRoof", "()Z"⟩, 45) := ⟨⟨by decide +kernel, by decide +kernel⟩, List.mem_of_getElem? (i := 1346) (by decide +kernel), List.mem_of_getElem? (i := 1761) (by decide +kernel), List.mem_of_getElem? (i := 1762) (by decide +kernel)⟩
theorem lw_p89 : lw_okq (⟨"HassockRoofModel", "isYear", "(J)Z"⟩, 45) := ⟨⟨by decide +kernel, by decide +kernel⟩, List.mem_of_getElem? (i := 1346) (by decide +kernel), List.mem_of_getElem? (i := 1777) (by decide +kernel), List.mem_of_getElem? (i := 1778) (by decide +kernel)⟩
theorem lw_p90 : lw_okq (⟨"HassockRoofModel", "years", "()I"⟩, 45) := ⟨⟨by decide +kernel, by decide +kernel⟩, List.mem_of_getElem? (i := 1346) (by decide +kernel), List.mem_of_getElem? (i := 1781) (by decide +kernel), List.mem_of_getElem? (i := 1782) (by decide +kernel)⟩
theorem lw_p91 : lw_okq (⟨"HassockRoofModel", "laysNow", "()V"⟩, 45) := ⟨⟨by decide +kernel, by decide +kernel⟩, List.mem_of_getElem? (i := 1346) (by decide +kernel), List.mem_of_getElem? (i := 1785) (by decide +kernel), List.mem_of_getElem? (i := 1786) (by decide +kernel)⟩
theorem lw_p92 : lw_okq (⟨"HassockRoofModel", "runs", "()V"⟩, 45) := ⟨⟨by decide +kernel, by decide +kernel⟩, List.mem_of_getElem? (i := 1346) (by decide +kernel), List.mem_of_getElem? (i := 1789) (by decide +kernel), List.mem_of_getElem? (i := 1790) (by decide +kernel)⟩
theorem lw_p93 : lw_okq (⟨"HassockRoofModel", "exchanges", "(I)V"⟩, 45) := ⟨⟨by decide +kernel, by decide +kernel⟩, List.mem_of_getElem? (i := 1346) (by decide +kernel), List.mem_of_getElem? (i := 1793) (by decide +kernel), List.mem_of_getElem? (i := 1794) (by decide +kernel)⟩
theorem lw_p94 : lw_okq (⟨"HassockRoofModel", "moves", "()V"⟩, 45) := ⟨⟨by decide +kernel, by decide +kernel⟩, List.mem_of_getElem? (i := 1346) (by decide +kernel), List.mem_of_getElem? (i := 1797) (by decide +kernel), List.mem_of_getElem? (i := 1798) (by decide +kernel)⟩
theorem lw_p95 : lw_okq (⟨"HassockRoofModel", "changes", "()V"⟩, 45) := ⟨⟨by decide +kernel, by decide +kernel⟩, List.mem_of_getElem? (i := 1346) (by decide +kernel), List.mem_of_getElem? (i := 1801) (by decide +kernel), List.mem_of_getElem? (i := 1802) (by decide +kernel)⟩
def lw_privs_6 : List (MethodName × Nat) := [(⟨"HassockRoofModel", "isWay", "(II)Z"⟩, 45), (⟨"HassockRoofModel", "lays", "()V"⟩, 45), (⟨"HassockRoofModel", "laysSees", "()V"⟩, 45), (⟨"HassockRoofModel", "hidesOf", "(II)I"⟩, 45), (⟨"HassockRoofModel", "isBetween", "(III)Z"⟩, 45), (⟨"HassockRoofModel", "fromOf", "(I)I"⟩, 45), (⟨"HassockRoofModel", "placeWorth", "(I)I"⟩, 45), (⟨"HassockRoofModel", "worthOf", "(I)I"⟩, 45), (⟨"HassockRoofModel", "isRoof", "()Z"⟩, 45), (⟨"HassockRoofModel", "isYear", "(J)Z"⟩, 45), (⟨"HassockRoofModel", "years", "()I"⟩, 45), (⟨"HassockRoofModel", "laysNow", "()V"⟩, 45), (⟨"HassockRoofModel", "runs", "()V"⟩, 45), (⟨"HassockRoofModel", "exchanges", "(I)V"⟩, 45), (⟨"HassockRoofModel", "moves", "()V"⟩, 45), (⟨"HassockRoofModel", "changes", "()V"⟩, 45)]
theorem lw_r6 : ∀ q ∈ lw_privs_6, lw_okq q := List.forall_mem_cons.mpr ⟨lw_p80, List.forall_mem_cons.mpr ⟨lw_p81, List.forall_mem_cons.mpr ⟨lw_p82, List.forall_mem_cons.mpr ⟨lw_p83, List.forall_mem_cons.mpr ⟨lw_p84, List.forall_mem_cons.mpr ⟨lw_p85, List.forall_mem_cons.mpr ⟨lw_p86, List.forall_mem_cons.mpr ⟨lw_p87, List.forall_mem_cons.mpr ⟨lw_p88, List.forall_mem_cons.mpr ⟨lw_p89, List.forall_mem_cons.mpr ⟨lw_p90, List.forall_mem_cons.mpr ⟨lw_p91, List.forall_mem_cons.mpr ⟨lw_p92, List.forall_mem_cons.mpr ⟨lw_p93, List.forall_mem_cons.mpr ⟨lw_p94, List.forall_mem_cons.mpr ⟨lw_p95, fun _ h => absurd h List.not_mem_nil⟩⟩⟩⟩⟩⟩⟩⟩⟩⟩⟩⟩⟩⟩⟩⟩
theorem lw_p96 : lw_okq (⟨"HassockRoofModel", "oneBy", "(II)I"⟩, 45) := ⟨⟨by decide +kernel, by decide +kernel⟩, List.mem_of_getElem? (i := 1346) (by decide +kernel), List.mem_of_getElem? (i := 1805) (by decide +kernel), List.mem_of_getElem? (i := 1806) (by decide +kernel)⟩
theorem lw_p97 : lw_okq (⟨"HassockRoofModel", "isGlad", "(II)Z"⟩, 45) := ⟨⟨by decide +kernel, by decide +kernel⟩, List.mem_of_getElem? (i := 1346) (by decide +kernel), List.mem_of_getElem? (i := 1809) (by decide +kernel), List.mem_of_getElem? (i := 1810) (by decide +kernel)⟩
theorem lw_p98 : lw_okq (⟨"HassockRoofModel", "hopeOf", "(I)I"⟩, 45) := ⟨⟨by decide +kernel, by decide +kernel⟩, List.mem_of_getElem? (i := 1346) (by decide +kernel), List.mem_of_getElem? (i := 1813) (by decide +kernel), List.mem_of_getElem? (i := 1814) (by decide +kernel)⟩
theorem lw_p99 : lw_okq (⟨"HassockRoofModel", "nextPlace", "(II)I"⟩, 45) := ⟨⟨by decide +kernel, by decide +kernel⟩, List.mem_of_getElem? (i := 1346) (by decide +kernel), List.mem_of_getElem? (i := 1817) (by decide +kernel), List.mem_of_getElem? (i := 1818) (by decide +kernel)⟩
theorem lw_p100 : lw_okq (⟨"HassockRoofModel", "seesAt", "(II)I"⟩, 45) := ⟨⟨by decide +kernel, by decide +kernel⟩, List.mem_of_getElem? (i := 1346) (by decide +kernel), List.mem_of_getElem? (i := 1829) (by decide +kernel), List.mem_of_getElem? (i := 1830) (by decide +kernel)⟩
theorem lw_p101 : lw_okq (⟨"HassockRoofModel", "joyOf", "(II)I"⟩, 45) := ⟨⟨by decide +kernel, by decide +kernel⟩, List.mem_of_getElem? (i := 1346) (by decide +kernel), List.mem_of_getElem? (i := 1837) (by decide +kernel), List.mem_of_getElem? (i := 1838) (by decide +kernel)⟩
theorem lw_p102 : lw_okq (⟨"HassockRoofModel", "lifeOf", "(I)I"⟩, 45) := ⟨⟨by decide +kernel, by decide +kernel⟩, List.mem_of_getElem? (i := 1346) (by decide +kernel), List.mem_of_getElem? (i := 1845) (by decide +kernel), List.mem_of_getElem? (i := 1846) (by decide +kernel)⟩
theorem lw_p103 : lw_okq (⟨"HassockRoofModel", "drillOf", "(I)I"⟩, 45) := ⟨⟨by decide +kernel, by decide +kernel⟩, List.mem_of_getElem? (i := 1346) (by decide +kernel), List.mem_of_getElem? (i := 1857) (by decide +kernel), List.mem_of_getElem? (i := 1858) (by decide +kernel)⟩
theorem lw_p104 : lw_okq (⟨"HassockRoofModel", "gladAt", "(I)I"⟩, 45) := ⟨⟨by decide +kernel, by decide +kernel⟩, List.mem_of_getElem? (i := 1346) (by decide +kernel), List.mem_of_getElem? (i := 1861) (by decide +kernel), List.mem_of_getElem? (i := 1862) (by decide +kernel)⟩
theorem lw_p105 : lw_okq (⟨"HassockRoofModel", "isAsFirst", "(I)Z"⟩, 45) := ⟨⟨by decide +kernel, by decide +kernel⟩, List.mem_of_getElem? (i := 1346) (by decide +kernel), List.mem_of_getElem? (i := 1877) (by decide +kernel), List.mem_of_getElem? (i := 1878) (by decide +kernel)⟩
theorem lw_p106 : lw_okq (⟨"HassockRoofModel", "joyAt", "(I)I"⟩, 45) := ⟨⟨by decide +kernel, by decide +kernel⟩, List.mem_of_getElem? (i := 1346) (by decide +kernel), List.mem_of_getElem? (i := 1889) (by decide +kernel), List.mem_of_getElem? (i := 1890) (by decide +kernel)⟩
theorem lw_p107 : lw_okq (⟨"HassockRoofModel", "laysRows", "()V"⟩, 45) := ⟨⟨by decide +kernel, by decide +kernel⟩, List.mem_of_getElem? (i := 1346) (by decide +kernel), List.mem_of_getElem? (i := 1905) (by decide +kernel), List.mem_of_getElem? (i := 1906) (by decide +kernel)⟩
theorem lw_p108 : lw_okq (⟨"HassockRoofModel", "rowsFrom", "(II)V"⟩, 45) := ⟨⟨by decide +kernel, by decide +kernel⟩, List.mem_of_getElem? (i := 1346) (by decide +kernel), List.mem_of_getElem? (i := 1909) (by decide +kernel), List.mem_of_getElem? (i := 1910) (by decide +kernel)⟩
theorem lw_p109 : lw_okq (⟨"HassockRoofModel", "whyNotRow", "(I)I"⟩, 45) := ⟨⟨by decide +kernel, by decide +kernel⟩, List.mem_of_getElem? (i := 1346) (by decide +kernel), List.mem_of_getElem? (i := 1929) (by decide +kernel), List.mem_of_getElem? (i := 1930) (by decide +kernel)⟩
theorem lw_p110 : lw_okq (⟨"HassockRoofModel", "laysTo", "(I)I"⟩, 45) := ⟨⟨by decide +kernel, by decide +kernel⟩, List.mem_of_getElem? (i := 1346) (by decide +kernel), List.mem_of_getElem? (i := 1933) (by decide +kernel), List.mem_of_getElem? (i := 1934) (by decide +kernel)⟩
theorem lw_p111 : lw_okq (⟨"HassockRoofModel", "codeOf", "([I)I"⟩, 45) := ⟨⟨by decide +kernel, by decide +kernel⟩, List.mem_of_getElem? (i := 1346) (by decide +kernel), List.mem_of_getElem? (i := 1937) (by decide +kernel), List.mem_of_getElem? (i := 1938) (by decide +kernel)⟩
def lw_privs_7 : List (MethodName × Nat) := [(⟨"HassockRoofModel", "oneBy", "(II)I"⟩, 45), (⟨"HassockRoofModel", "isGlad", "(II)Z"⟩, 45), (⟨"HassockRoofModel", "hopeOf", "(I)I"⟩, 45), (⟨"HassockRoofModel", "nextPlace", "(II)I"⟩, 45), (⟨"HassockRoofModel", "seesAt", "(II)I"⟩, 45), (⟨"HassockRoofModel", "joyOf", "(II)I"⟩, 45), (⟨"HassockRoofModel", "lifeOf", "(I)I"⟩, 45), (⟨"HassockRoofModel", "drillOf", "(I)I"⟩, 45), (⟨"HassockRoofModel", "gladAt", "(I)I"⟩, 45), (⟨"HassockRoofModel", "isAsFirst", "(I)Z"⟩, 45), (⟨"HassockRoofModel", "joyAt", "(I)I"⟩, 45), (⟨"HassockRoofModel", "laysRows", "()V"⟩, 45), (⟨"HassockRoofModel", "rowsFrom", "(II)V"⟩, 45), (⟨"HassockRoofModel", "whyNotRow", "(I)I"⟩, 45), (⟨"HassockRoofModel", "laysTo", "(I)I"⟩, 45), (⟨"HassockRoofModel", "codeOf", "([I)I"⟩, 45)]
theorem lw_r7 : ∀ q ∈ lw_privs_7, lw_okq q := List.forall_mem_cons.mpr ⟨lw_p96, List.forall_mem_cons.mpr ⟨lw_p97, List.forall_mem_cons.mpr ⟨lw_p98, List.forall_mem_cons.mpr ⟨lw_p99, List.forall_mem_cons.mpr ⟨lw_p100, List.forall_mem_cons.mpr ⟨lw_p101, List.forall_mem_cons.mpr ⟨lw_p102, List.forall_mem_cons.mpr ⟨lw_p103, List.forall_mem_cons.mpr ⟨lw_p104, List.forall_mem_cons.mpr ⟨lw_p105, List.forall_mem_cons.mpr ⟨lw_p106, List.forall_mem_cons.mpr ⟨lw_p107, List.forall_mem_cons.mpr ⟨lw_p108, List.forall_mem_cons.mpr ⟨lw_p109, List.forall_mem_cons.mpr ⟨lw_p110, List.forall_mem_cons.mpr ⟨lw_p111, fun _ h => absurd h List.not_mem_nil⟩⟩⟩⟩⟩⟩⟩⟩⟩⟩⟩⟩⟩⟩⟩⟩
theorem lw_p112 : lw_okq (⟨"HassockRoofModel", "laysShifts", "(I)V"⟩, 45) := ⟨⟨by decide +kernel, by decide +kernel⟩, List.mem_of_getElem? (i := 1346) (by decide +kernel), List.mem_of_getElem? (i := 1941) (by decide +kernel), List.mem_of_getElem? (i := 1942) (by decide +kernel)⟩
theorem lw_p113 : lw_okq (⟨"HassockRoofModel", "decodes", "(I)V"⟩, 45) := ⟨⟨by decide +kernel, by decide +kernel⟩, List.mem_of_getElem? (i := 1346) (by decide +kernel), List.mem_of_getElem? (i := 1945) (by decide +kernel), List.mem_of_getElem? (i := 1946) (by decide +kernel)⟩
theorem lw_p114 : lw_okq (⟨"HassockRoofModel", "isEmpty", "(I)Z"⟩, 45) := ⟨⟨by decide +kernel, by decide +kernel⟩, List.mem_of_getElem? (i := 1346) (by decide +kernel), List.mem_of_getElem? (i := 1949) (by decide +kernel), List.mem_of_getElem? (i := 1950) (by decide +kernel)⟩
theorem lw_p115 : lw_okq (⟨"HassockRoofModel", "shiftsTo", "(III)V"⟩, 45) := ⟨⟨by decide +kernel, by decide +kernel⟩, List.mem_of_getElem? (i := 1346) (by decide +kernel), List.mem_of_getElem? (i := 1953) (by decide +kernel), List.mem_of_getElem? (i := 1954) (by decide +kernel)⟩
theorem lw_p116 : lw_okq (⟨"HassockRoofModel", "startCode", "()I"⟩, 45) := ⟨⟨by decide +kernel, by decide +kernel⟩, List.mem_of_getElem? (i := 1346) (by decide +kernel), List.mem_of_getElem? (i := 1957) (by decide +kernel), List.mem_of_getElem? (i := 1958) (by decide +kernel)⟩
theorem lw_p117 : lw_okq (⟨"HassockRoofModel", "lotsFrom", "(IIII)I"⟩, 45) := ⟨⟨by decide +kernel, by decide +kernel⟩, List.mem_of_getElem? (i := 1346) (by decide +kernel), List.mem_of_getElem? (i := 1977) (by decide +kernel), List.mem_of_getElem? (i := 1978) (by decide +kernel)⟩
theorem lw_p118 : lw_okq (⟨"HassockRoofModel", "takesOf", "(II)I"⟩, 45) := ⟨⟨by decide +kernel, by decide +kernel⟩, List.mem_of_getElem? (i := 1346) (by decide +kernel), List.mem_of_getElem? (i := 1981) (by decide +kernel), List.mem_of_getElem? (i := 1982) (by decide +kernel)⟩
theorem lw_p119 : lw_okq (⟨"HassockRoofModel", "allOf", "(I)I"⟩, 45) := ⟨⟨by decide +kernel, by decide +kernel⟩, List.mem_of_getElem? (i := 1346) (by decide +kernel), List.mem_of_getElem? (i := 2001) (by decide +kernel), List.mem_of_getElem? (i := 2002) (by decide +kernel)⟩
theorem lw_p120 : lw_okq (⟨"HassockRoofModel", "watchOf", "()I"⟩, 45) := ⟨⟨by decide +kernel, by decide +kernel⟩, List.mem_of_getElem? (i := 1346) (by decide +kernel), List.mem_of_getElem? (i := 2013) (by decide +kernel), List.mem_of_getElem? (i := 2014) (by decide +kernel)⟩
theorem lw_p121 : lw_okq (⟨"HassockRoofModel", "whyNotBook", "(II)I"⟩, 45) := ⟨⟨by decide +kernel, by decide +kernel⟩, List.mem_of_getElem? (i := 1346) (by decide +kernel), List.mem_of_getElem? (i := 2025) (by decide +kernel), List.mem_of_getElem? (i := 2026) (by decide +kernel)⟩
theorem lw_p122 : lw_okq (⟨"HassockRoofModel", "laysFirsts", "(II)V"⟩, 45) := ⟨⟨by decide +kernel, by decide +kernel⟩, List.mem_of_getElem? (i := 1346) (by decide +kernel), List.mem_of_getElem? (i := 2029) (by decide +kernel), List.mem_of_getElem? (i := 2030) (by decide +kernel)⟩
theorem lw_p123 : lw_okq (⟨"HassockRoofModel", "isSo", "(II)Z"⟩, 45) := ⟨⟨by decide +kernel, by decide +kernel⟩, List.mem_of_getElem? (i := 1346) (by decide +kernel), List.mem_of_getElem? (i := 2033) (by decide +kernel), List.mem_of_getElem? (i := 2034) (by decide +kernel)⟩
theorem lw_p124 : lw_okq (⟨"HassockRoofModel", "joyBy", "(I)I"⟩, 45) := ⟨⟨by decide +kernel, by decide +kernel⟩, List.mem_of_getElem? (i := 1346) (by decide +kernel), List.mem_of_getElem? (i := 2049) (by decide +kernel), List.mem_of_getElem? (i := 2050) (by decide +kernel)⟩
theorem lw_p125 : lw_okq (⟨"HassockRoofModel", "joyAll", "()I"⟩, 45) := ⟨⟨by decide +kernel, by decide +kernel⟩, List.mem_of_getElem? (i := 1346) (by decide +kernel), List.mem_of_getElem? (i := 2053) (by decide +kernel), List.mem_of_getElem? (i := 2054) (by decide +kernel)⟩
theorem lw_p126 : lw_okq (⟨"HassockRoofModel", "areTwo", "(II)Z"⟩, 45) := ⟨⟨by decide +kernel, by decide +kernel⟩, List.mem_of_getElem? (i := 1346) (by decide +kernel), List.mem_of_getElem? (i := 2073) (by decide +kernel), List.mem_of_getElem? (i := 2074) (by decide +kernel)⟩
theorem lw_p127 : lw_okq (⟨"HassockRoofModel", "getsBy", "(IIIII)I"⟩, 45) := ⟨⟨by decide +kernel, by decide +kernel⟩, List.mem_of_getElem? (i := 1346) (by decide +kernel), List.mem_of_getElem? (i := 2077) (by decide +kernel), List.mem_of_getElem? (i := 2078) (by decide +kernel)⟩
def lw_privs_8 : List (MethodName × Nat) := [(⟨"HassockRoofModel", "laysShifts", "(I)V"⟩, 45), (⟨"HassockRoofModel", "decodes", "(I)V"⟩, 45), (⟨"HassockRoofModel", "isEmpty", "(I)Z"⟩, 45), (⟨"HassockRoofModel", "shiftsTo", "(III)V"⟩, 45), (⟨"HassockRoofModel", "startCode", "()I"⟩, 45), (⟨"HassockRoofModel", "lotsFrom", "(IIII)I"⟩, 45), (⟨"HassockRoofModel", "takesOf", "(II)I"⟩, 45), (⟨"HassockRoofModel", "allOf", "(I)I"⟩, 45), (⟨"HassockRoofModel", "watchOf", "()I"⟩, 45), (⟨"HassockRoofModel", "whyNotBook", "(II)I"⟩, 45), (⟨"HassockRoofModel", "laysFirsts", "(II)V"⟩, 45), (⟨"HassockRoofModel", "isSo", "(II)Z"⟩, 45), (⟨"HassockRoofModel", "joyBy", "(I)I"⟩, 45), (⟨"HassockRoofModel", "joyAll", "()I"⟩, 45), (⟨"HassockRoofModel", "areTwo", "(II)Z"⟩, 45), (⟨"HassockRoofModel", "getsBy", "(IIIII)I"⟩, 45)]
theorem lw_r8 : ∀ q ∈ lw_privs_8, lw_okq q := List.forall_mem_cons.mpr ⟨lw_p112, List.forall_mem_cons.mpr ⟨lw_p113, List.forall_mem_cons.mpr ⟨lw_p114, List.forall_mem_cons.mpr ⟨lw_p115, List.forall_mem_cons.mpr ⟨lw_p116, List.forall_mem_cons.mpr ⟨lw_p117, List.forall_mem_cons.mpr ⟨lw_p118, List.forall_mem_cons.mpr ⟨lw_p119, List.forall_mem_cons.mpr ⟨lw_p120, List.forall_mem_cons.mpr ⟨lw_p121, List.forall_mem_cons.mpr ⟨lw_p122, List.forall_mem_cons.mpr ⟨lw_p123, List.forall_mem_cons.mpr ⟨lw_p124, List.forall_mem_cons.mpr ⟨lw_p125, List.forall_mem_cons.mpr ⟨lw_p126, List.forall_mem_cons.mpr ⟨lw_p127, fun _ h => absurd h List.not_mem_nil⟩⟩⟩⟩⟩⟩⟩⟩⟩⟩⟩⟩⟩⟩⟩⟩
theorem lw_p128 : lw_okq (⟨"HassockRoofModel", "turnedTo", "(II)I"⟩, 45) := ⟨⟨by decide +kernel, by decide +kernel⟩, List.mem_of_getElem? (i := 1346) (by decide +kernel), List.mem_of_getElem? (i := 2081) (by decide +kernel), List.mem_of_getElem? (i := 2082) (by decide +kernel)⟩
theorem lw_p129 : lw_okq (⟨"HassockRoofModel", "isSoon", "(I)Z"⟩, 45) := ⟨⟨by decide +kernel, by decide +kernel⟩, List.mem_of_getElem? (i := 1346) (by decide +kernel), List.mem_of_getElem? (i := 2093) (by decide +kernel), List.mem_of_getElem? (i := 2094) (by decide +kernel)⟩
theorem lw_p130 : lw_okq (⟨"HassockRoofModel", "weightOf", "(III)J"⟩, 45) := ⟨⟨by decide +kernel, by decide +kernel⟩, List.mem_of_getElem? (i := 1346) (by decide +kernel), List.mem_of_getElem? (i := 2097) (by decide +kernel), List.mem_of_getElem? (i := 2098) (by decide +kernel)⟩
theorem lw_p131 : lw_okq (⟨"HassockRoofModel", "draws", "(J)V"⟩, 45) := ⟨⟨by decide +kernel, by decide +kernel⟩, List.mem_of_getElem? (i := 1346) (by decide +kernel), List.mem_of_getElem? (i := 2118) (by decide +kernel), List.mem_of_getElem? (i := 2119) (by decide +kernel)⟩
theorem lw_p132 : lw_okq (⟨"HassockRoofModel", "isAhead", "(I)Z"⟩, 45) := ⟨⟨by decide +kernel, by decide +kernel⟩, List.mem_of_getElem? (i := 1346) (by decide +kernel), List.mem_of_getElem? (i := 2135) (by decide +kernel), List.mem_of_getElem? (i := 2136) (by decide +kernel)⟩
theorem lw_p133 : lw_okq (⟨"HassockRoofModel", "does", "(IIII)V"⟩, 45) := ⟨⟨by decide +kernel, by decide +kernel⟩, List.mem_of_getElem? (i := 1346) (by decide +kernel), List.mem_of_getElem? (i := 2139) (by decide +kernel), List.mem_of_getElem? (i := 2140) (by decide +kernel)⟩
def lw_privs_9 : List (MethodName × Nat) := [(⟨"HassockRoofModel", "turnedTo", "(II)I"⟩, 45), (⟨"HassockRoofModel", "isSoon", "(I)Z"⟩, 45), (⟨"HassockRoofModel", "weightOf", "(III)J"⟩, 45), (⟨"HassockRoofModel", "draws", "(J)V"⟩, 45), (⟨"HassockRoofModel", "isAhead", "(I)Z"⟩, 45), (⟨"HassockRoofModel", "does", "(IIII)V"⟩, 45)]
theorem lw_r9 : ∀ q ∈ lw_privs_9, lw_okq q := List.forall_mem_cons.mpr ⟨lw_p128, List.forall_mem_cons.mpr ⟨lw_p129, List.forall_mem_cons.mpr ⟨lw_p130, List.forall_mem_cons.mpr ⟨lw_p131, List.forall_mem_cons.mpr ⟨lw_p132, List.forall_mem_cons.mpr ⟨lw_p133, fun _ h => absurd h List.not_mem_nil⟩⟩⟩⟩⟩⟩
def lw_privs : List (MethodName × Nat) := lw_privs_1 ++ (lw_privs_2 ++ (lw_privs_3 ++ (lw_privs_4 ++ (lw_privs_5 ++ (lw_privs_6 ++ (lw_privs_7 ++ (lw_privs_8 ++ (lw_privs_9))))))))
def lw_tbl : List Cond := k2_sels lw_privs ++ tables_1
theorem lw_privs_ok : ∀ q ∈ lw_privs, lw_okq q := by
  show ∀ q ∈ lw_privs_1 ++ (lw_privs_2 ++ (lw_privs_3 ++ (lw_privs_4 ++ (lw_privs_5 ++ (lw_privs_6 ++ (lw_privs_7 ++ (lw_privs_8 ++ (lw_privs_9)))))))), lw_okq q
  exact List.forall_mem_append.mpr ⟨lw_r1, List.forall_mem_append.mpr ⟨lw_r2, List.forall_mem_append.mpr ⟨lw_r3, List.forall_mem_append.mpr ⟨lw_r4, List.forall_mem_append.mpr ⟨lw_r5, List.forall_mem_append.mpr ⟨lw_r6, List.forall_mem_append.mpr ⟨lw_r7, List.forall_mem_append.mpr ⟨lw_r8, lw_r9⟩⟩⟩⟩⟩⟩⟩⟩
end
section
/-! NAMES: pasted out of claim/NAMES.whole.lean.txt (printed): classes, fields, methods; no decode rows -/
def RX0 : String := "HassockRoof$Acts"
def TX0 : u_T := fun k => match k with
  | 0 => ("HassockRoof$Acts", "ones", "[I", true)
  | 1 => ("HassockRoof$Acts", "others", "[I", true)
  | 2 => ("HassockRoof$Acts", "years", "[I", true)
  | _ => ("HassockRoof$Acts", "size", "I", false)
def tyX0 : Nat → FieldType := fun k => match k with
  | 0 => .array .int
  | 1 => .array .int
  | 2 => .array .int
  | _ => .int
abbrev wsX00 : List Cond := u_ws RX0 TX0 4
theorem nmX0 : ∀ a, a < 4 → ∀ b, b < 4 → a ≠ b → (TX0 a).2.1 ≠ (TX0 b).2.1 := by decide +kernel
theorem tyX0_ok : ∀ k, k < 4 → parseFieldDescriptor (TX0 k).2.2.1 = some (tyX0 k) := by decide +kernel
abbrev cX0_init : ByteArray := prog_2_method_1_code
def yX0_init : MethodName := ⟨RX0, "<init>", "()V"⟩
abbrev cX0_isFull : ByteArray := prog_2_method_2_code
def yX0_isFull : MethodName := ⟨RX0, "isFull", "()Z"⟩
abbrev cX0_addExchange : ByteArray := prog_2_method_3_code
def yX0_addExchange : MethodName := ⟨RX0, "addExchange", "(III)V"⟩
abbrev cX0_addFelling : ByteArray := prog_2_method_4_code
def yX0_addFelling : MethodName := ⟨RX0, "addFelling", "(I)V"⟩
abbrev cX0_isFallen : ByteArray := prog_2_method_5_code
def yX0_isFallen : MethodName := ⟨RX0, "isFallen", "(I)Z"⟩
abbrev cX0_exchangeIn : ByteArray := prog_2_method_6_code
def yX0_exchangeIn : MethodName := ⟨RX0, "exchangeIn", "(I[I)V"⟩
abbrev cX0_exchange : ByteArray := prog_2_method_7_code
def yX0_exchange : MethodName := ⟨RX0, "exchange", "([III)V"⟩
abbrev cX0_copyFrom : ByteArray := prog_2_method_8_code
def yX0_copyFrom : MethodName := ⟨RX0, "copyFrom", "(LHassockRoof$Acts;)V"⟩
def RX1 : String := "HassockRoof$Book"
def TX1 : u_T := fun k => match k with
  | 0 => ("HassockRoof$Book", "roof", "LHassockRoof$Roof;", true)
  | 1 => ("HassockRoof$Book", "course", "LHassockRoof$Course;", true)
  | 2 => ("HassockRoof$Book", "tally", "[[I", true)
  | _ => ("HassockRoof$Book", "candidates", "I", false)
def tyX1 : Nat → FieldType := fun k => match k with
  | 0 => .object "HassockRoof$Roof"
  | 1 => .object "HassockRoof$Course"
  | 2 => .array (.array .int)
  | _ => .int
abbrev wsX10 : List Cond := u_ws RX1 TX1 4
theorem nmX1 : ∀ a, a < 4 → ∀ b, b < 4 → a ≠ b → (TX1 a).2.1 ≠ (TX1 b).2.1 := by decide +kernel
theorem tyX1_ok : ∀ k, k < 4 → parseFieldDescriptor (TX1 k).2.2.1 = some (tyX1 k) := by decide +kernel
abbrev cX1_init : ByteArray := prog_3_method_1_code
def yX1_init : MethodName := ⟨RX1, "<init>", "(LHassockRoof$Roof;LHassockRoof$Course;)V"⟩
abbrev cX1_isRight : ByteArray := prog_3_method_2_code
def yX1_isRight : MethodName := ⟨RX1, "isRight", "(LHassockRoof$Slot;)Z"⟩
abbrev cX1_firstPlaces : ByteArray := prog_3_method_3_code
def yX1_firstPlaces : MethodName := ⟨RX1, "firstPlaces", "(LHassockRoof$Slot;I)I"⟩
abbrev cX1_lawsThatAgree : ByteArray := prog_3_method_4_code
def yX1_lawsThatAgree : MethodName := ⟨RX1, "lawsThatAgree", "(LHassockRoof$Slot;I)I"⟩
abbrev cX1_tallyYears : ByteArray := prog_3_method_5_code
def yX1_tallyYears : MethodName := ⟨RX1, "tallyYears", "(LHassockRoof$Slot;I)V"⟩
abbrev cX1_tallyCourse : ByteArray := prog_3_method_6_code
def yX1_tallyCourse : MethodName := ⟨RX1, "tallyCourse", "(I)V"⟩
abbrev cX1_yearToAsk : ByteArray := prog_3_method_7_code
def yX1_yearToAsk : MethodName := ⟨RX1, "yearToAsk", "()I"⟩
abbrev cX1_worstIn : ByteArray := prog_3_method_8_code
def yX1_worstIn : MethodName := ⟨RX1, "worstIn", "(I)I"⟩
abbrev cX1_canHaveBeen : ByteArray := prog_3_method_9_code
def yX1_canHaveBeen : MethodName := ⟨RX1, "canHaveBeen", "(LHassockRoof$Slot;II)Z"⟩
abbrev cX1_agrees : ByteArray := prog_3_method_10_code
def yX1_agrees : MethodName := ⟨RX1, "agrees", "(LHassockRoof$Slot;I)Z"⟩
def RX2 : String := "HassockRoof$Chances"
def TX2 : u_T := fun k => match k with
  | 0 => ("HassockRoof$Chances", "roof", "LHassockRoof$Roof;", true)
  | 1 => ("HassockRoof$Chances", "course", "LHassockRoof$Course;", true)
  | _ => ("HassockRoof$Chances", "weights", "[J", true)
def tyX2 : Nat → FieldType := fun k => match k with
  | 0 => .object "HassockRoof$Roof"
  | 1 => .object "HassockRoof$Course"
  | _ => .array .long
abbrev wsX20 : List Cond := u_ws RX2 TX2 3
theorem nmX2 : ∀ a, a < 3 → ∀ b, b < 3 → a ≠ b → (TX2 a).2.1 ≠ (TX2 b).2.1 := by decide +kernel
theorem tyX2_ok : ∀ k, k < 3 → parseFieldDescriptor (TX2 k).2.2.1 = some (tyX2 k) := by decide +kernel
abbrev cX2_init : ByteArray := prog_4_method_1_code
def yX2_init : MethodName := ⟨RX2, "<init>", "(LHassockRoof$Roof;LHassockRoof$Course;)V"⟩
abbrev cX2_tenTo : ByteArray := prog_4_method_2_code
def yX2_tenTo : MethodName := ⟨RX2, "tenTo", "(I)J"⟩
abbrev cX2_weigh : ByteArray := prog_4_method_3_code
def yX2_weigh : MethodName := ⟨RX2, "weigh", "(II)V"⟩
abbrev cX2_branch : ByteArray := prog_4_method_4_code
def yX2_branch : MethodName := ⟨RX2, "branch", "(IIIJ)V"⟩
abbrev cX2_addWeight : ByteArray := prog_4_method_5_code
def yX2_addWeight : MethodName := ⟨RX2, "addWeight", "(IJ)V"⟩
abbrev cX2_weightOf : ByteArray := prog_4_method_6_code
def yX2_weightOf : MethodName := ⟨RX2, "weightOf", "(I)J"⟩
abbrev cX2_drawYears : ByteArray := prog_4_method_7_code
def yX2_drawYears : MethodName := ⟨RX2, "drawYears", "(I)I"⟩
def RX3 : String := "HassockRoof$Course"
def TX3 : u_T := fun k => match k with
  | 0 => ("HassockRoof$Course", "roof", "LHassockRoof$Roof;", true)
  | 1 => ("HassockRoof$Course", "sight", "LHassockRoof$Sight;", true)
  | _ => ("HassockRoof$Course", "spots", "[[I", true)
def tyX3 : Nat → FieldType := fun k => match k with
  | 0 => .object "HassockRoof$Roof"
  | 1 => .object "HassockRoof$Sight"
  | _ => .array (.array .int)
abbrev wsX30 : List Cond := u_ws RX3 TX3 3
theorem nmX3 : ∀ a, a < 3 → ∀ b, b < 3 → a ≠ b → (TX3 a).2.1 ≠ (TX3 b).2.1 := by decide +kernel
theorem tyX3_ok : ∀ k, k < 3 → parseFieldDescriptor (TX3 k).2.2.1 = some (tyX3 k) := by decide +kernel
abbrev cX3_init : ByteArray := prog_5_method_1_code
def yX3_init : MethodName := ⟨RX3, "<init>", "(LHassockRoof$Roof;LHassockRoof$Sight;)V"⟩
abbrev cX3_startAsTold : ByteArray := prog_5_method_2_code
def yX3_startAsTold : MethodName := ⟨RX3, "startAsTold", "()V"⟩
abbrev cX3_startWith : ByteArray := prog_5_method_3_code
def yX3_startWith : MethodName := ⟨RX3, "startWith", "(II)V"⟩
abbrev cX3_run : ByteArray := prog_5_method_4_code
def yX3_run : MethodName := ⟨RX3, "run", "(II)V"⟩
abbrev cX3_exchangeIn : ByteArray := prog_5_method_5_code
def yX3_exchangeIn : MethodName := ⟨RX3, "exchangeIn", "(I)V"⟩
abbrev cX3_stayOn : ByteArray := prog_5_method_6_code
def yX3_stayOn : MethodName := ⟨RX3, "stayOn", "(I)V"⟩
abbrev cX3_moveOn : ByteArray := prog_5_method_7_code
def yX3_moveOn : MethodName := ⟨RX3, "moveOn", "(II)V"⟩
abbrev cX3_isRowOfSpots : ByteArray := prog_5_method_8_code
def yX3_isRowOfSpots : MethodName := ⟨RX3, "isRowOfSpots", "(I)Z"⟩
abbrev cX3_goOn : ByteArray := prog_5_method_9_code
def yX3_goOn : MethodName := ⟨RX3, "goOn", "([III)V"⟩
abbrev cX3_goBack : ByteArray := prog_5_method_10_code
def yX3_goBack : MethodName := ⟨RX3, "goBack", "([I)V"⟩
abbrev cX3_changeMostAndLeast : ByteArray := prog_5_method_11_code
def yX3_changeMostAndLeast : MethodName := ⟨RX3, "changeMostAndLeast", "([I)V"⟩
abbrev cX3_unhappy : ByteArray := prog_5_method_12_code
def yX3_unhappy : MethodName := ⟨RX3, "unhappy", "([I)I"⟩
abbrev cX3_placesOf : ByteArray := prog_5_method_13_code
def yX3_placesOf : MethodName := ⟨RX3, "placesOf", "([II)I"⟩
abbrev cX3_spot : ByteArray := prog_5_method_14_code
def yX3_spot : MethodName := ⟨RX3, "spot", "(II)I"⟩
abbrev cX3_isAlike : ByteArray := prog_5_method_15_code
def yX3_isAlike : MethodName := ⟨RX3, "isAlike", "(II)Z"⟩
abbrev cX3_marksSeen : ByteArray := prog_5_method_16_code
def yX3_marksSeen : MethodName := ⟨RX3, "marksSeen", "(II)I"⟩
abbrev cX3_seesHope : ByteArray := prog_5_method_17_code
def yX3_seesHope : MethodName := ⟨RX3, "seesHope", "(II)Z"⟩
abbrev cX3_firstGladYear : ByteArray := prog_5_method_18_code
def yX3_firstGladYear : MethodName := ⟨RX3, "firstGladYear", "(I)I"⟩
abbrev cX3_joyIn : ByteArray := prog_5_method_19_code
def yX3_joyIn : MethodName := ⟨RX3, "joyIn", "(II)I"⟩
abbrev cX3_joyOfLife : ByteArray := prog_5_method_20_code
def yX3_joyOfLife : MethodName := ⟨RX3, "joyOfLife", "(I)I"⟩
abbrev cX3_joyOfAllIn : ByteArray := prog_5_method_21_code
def yX3_joyOfAllIn : MethodName := ⟨RX3, "joyOfAllIn", "(I)I"⟩
abbrev cX3_joyOfAll : ByteArray := prog_5_method_22_code
def yX3_joyOfAll : MethodName := ⟨RX3, "joyOfAll", "()I"⟩
def RX4 : String := "HassockRoof$Pairs"
def TX4 : u_T := fun k => match k with
  | 0 => ("HassockRoof$Pairs", "ones", "[I", true)
  | 1 => ("HassockRoof$Pairs", "others", "[I", true)
  | _ => ("HassockRoof$Pairs", "size", "I", false)
def tyX4 : Nat → FieldType := fun k => match k with
  | 0 => .array .int
  | 1 => .array .int
  | _ => .int
abbrev wsX40 : List Cond := u_ws RX4 TX4 3
theorem nmX4 : ∀ a, a < 3 → ∀ b, b < 3 → a ≠ b → (TX4 a).2.1 ≠ (TX4 b).2.1 := by decide +kernel
theorem tyX4_ok : ∀ k, k < 3 → parseFieldDescriptor (TX4 k).2.2.1 = some (tyX4 k) := by decide +kernel
abbrev cX4_init : ByteArray := prog_6_method_1_code
def yX4_init : MethodName := ⟨RX4, "<init>", "(I)V"⟩
abbrev cX4_has : ByteArray := prog_6_method_2_code
def yX4_has : MethodName := ⟨RX4, "has", "(I)Z"⟩
abbrev cX4_isFull : ByteArray := prog_6_method_3_code
def yX4_isFull : MethodName := ⟨RX4, "isFull", "()Z"⟩
abbrev cX4_add : ByteArray := prog_6_method_4_code
def yX4_add : MethodName := ⟨RX4, "add", "(II)V"⟩
abbrev cX4_one : ByteArray := prog_6_method_5_code
def yX4_one : MethodName := ⟨RX4, "one", "(I)I"⟩
abbrev cX4_other : ByteArray := prog_6_method_6_code
def yX4_other : MethodName := ⟨RX4, "other", "(I)I"⟩
abbrev cX4_hasPair : ByteArray := prog_6_method_7_code
def yX4_hasPair : MethodName := ⟨RX4, "hasPair", "(II)Z"⟩
abbrev cX4_hasOne : ByteArray := prog_6_method_8_code
def yX4_hasOne : MethodName := ⟨RX4, "hasOne", "(I)Z"⟩
abbrev cX4_allBits : ByteArray := prog_6_method_9_code
def yX4_allBits : MethodName := ⟨RX4, "allBits", "()I"⟩
abbrev cX4_copyFrom : ByteArray := prog_6_method_10_code
def yX4_copyFrom : MethodName := ⟨RX4, "copyFrom", "(LHassockRoof$Pairs;)V"⟩
def RX5 : String := "HassockRoof$Reader"
def TX5 : u_T := fun k => match k with
  | 0 => ("HassockRoof$Reader", "draft", "LHassockRoof$Roof;", true)
  | 1 => ("HassockRoof$Reader", "tape", "[B", true)
  | 2 => ("HassockRoof$Reader", "length", "I", false)
  | 3 => ("HassockRoof$Reader", "kind", "I", false)
  | 4 => ("HassockRoof$Reader", "start", "I", false)
  | 5 => ("HassockRoof$Reader", "stop", "I", false)
  | 6 => ("HassockRoof$Reader", "value", "I", false)
  | 7 => ("HassockRoof$Reader", "valueStart", "I", false)
  | 8 => ("HassockRoof$Reader", "fault", "I", false)
  | _ => ("HassockRoof$Reader", "faultPlace", "I", false)
def tyX5 : Nat → FieldType := fun k => match k with
  | 0 => .object "HassockRoof$Roof"
  | 1 => .array .byte
  | 2 => .int
  | 3 => .int
  | 4 => .int
  | 5 => .int
  | 6 => .int
  | 7 => .int
  | 8 => .int
  | _ => .int
abbrev wsX50 : List Cond := u_ws RX5 TX5 10
theorem nmX5 : ∀ a, a < 10 → ∀ b, b < 10 → a ≠ b → (TX5 a).2.1 ≠ (TX5 b).2.1 := by decide +kernel
theorem tyX5_ok : ∀ k, k < 10 → parseFieldDescriptor (TX5 k).2.2.1 = some (tyX5 k) := by decide +kernel
abbrev cX5_init : ByteArray := prog_7_method_1_code
def yX5_init : MethodName := ⟨RX5, "<init>", "(LHassockRoof$Roof;)V"⟩
abbrev cX5_append : ByteArray := prog_7_method_2_code
def yX5_append : MethodName := ⟨RX5, "append", "(I)V"⟩
abbrev cX5_readRoof : ByteArray := prog_7_method_3_code
def yX5_readRoof : MethodName := ⟨RX5, "readRoof", "()Z"⟩
abbrev cX5_readLine : ByteArray := prog_7_method_4_code
def yX5_readLine : MethodName := ⟨RX5, "readLine", "()Z"⟩
abbrev cX5_readRoofLine : ByteArray := prog_7_method_5_code
def yX5_readRoofLine : MethodName := ⟨RX5, "readRoofLine", "()Z"⟩
abbrev cX5_readPoint : ByteArray := prog_7_method_6_code
def yX5_readPoint : MethodName := ⟨RX5, "readPoint", "(LHassockRoof$Pairs;)Z"⟩
abbrev cX5_readWorth : ByteArray := prog_7_method_7_code
def yX5_readWorth : MethodName := ⟨RX5, "readWorth", "()Z"⟩
abbrev cX5_readWay : ByteArray := prog_7_method_8_code
def yX5_readWay : MethodName := ⟨RX5, "readWay", "()Z"⟩
abbrev cX5_readLooker : ByteArray := prog_7_method_9_code
def yX5_readLooker : MethodName := ⟨RX5, "readLooker", "()Z"⟩
abbrev cX5_takeHead : ByteArray := prog_7_method_10_code
def yX5_takeHead : MethodName := ⟨RX5, "takeHead", "(LHassockRoof$Pairs;)Z"⟩
abbrev cX5_takeWord : ByteArray := prog_7_method_11_code
def yX5_takeWord : MethodName := ⟨RX5, "takeWord", "(Ljava/lang/String;)Z"⟩
abbrev cX5_takeSign : ByteArray := prog_7_method_12_code
def yX5_takeSign : MethodName := ⟨RX5, "takeSign", "()Z"⟩
abbrev cX5_takeNumber : ByteArray := prog_7_method_13_code
def yX5_takeNumber : MethodName := ⟨RX5, "takeNumber", "(II)Z"⟩
abbrev cX5_refuse : ByteArray := prog_7_method_14_code
def yX5_refuse : MethodName := ⟨RX5, "refuse", "(II)Z"⟩
abbrev cX5_isWord : ByteArray := prog_7_method_15_code
def yX5_isWord : MethodName := ⟨RX5, "isWord", "(Ljava/lang/String;)Z"⟩
abbrev cX5_numberOfToken : ByteArray := prog_7_method_16_code
def yX5_numberOfToken : MethodName := ⟨RX5, "numberOfToken", "()I"⟩
abbrev cX5_nextToken : ByteArray := prog_7_method_17_code
def yX5_nextToken : MethodName := ⟨RX5, "nextToken", "()V"⟩
abbrev cX5_kindAt : ByteArray := prog_7_method_18_code
def yX5_kindAt : MethodName := ⟨RX5, "kindAt", "(I)I"⟩
def RX6 : String := "HassockRoof$Roof"
def TX6 : u_T := fun k => match k with
  | 0 => ("HassockRoof$Roof", "years", "I", false)
  | 1 => ("HassockRoof$Roof", "law", "I", false)
  | 2 => ("HassockRoof$Roof", "odds", "I", false)
  | 3 => ("HassockRoof$Roof", "lines", "I", false)
  | 4 => ("HassockRoof$Roof", "places", "LHassockRoof$Pairs;", true)
  | 5 => ("HassockRoof$Roof", "marks", "LHassockRoof$Pairs;", true)
  | 6 => ("HassockRoof$Roof", "worths", "[I", true)
  | 7 => ("HassockRoof$Roof", "flues", "LHassockRoof$Pairs;", true)
  | 8 => ("HassockRoof$Roof", "ways", "LHassockRoof$Pairs;", true)
  | 9 => ("HassockRoof$Roof", "lookers", "LHassockRoof$Pairs;", true)
  | _ => ("HassockRoof$Roof", "acts", "LHassockRoof$Acts;", true)
def tyX6 : Nat → FieldType := fun k => match k with
  | 0 => .int
  | 1 => .int
  | 2 => .int
  | 3 => .int
  | 4 => .object "HassockRoof$Pairs"
  | 5 => .object "HassockRoof$Pairs"
  | 6 => .array .int
  | 7 => .object "HassockRoof$Pairs"
  | 8 => .object "HassockRoof$Pairs"
  | 9 => .object "HassockRoof$Pairs"
  | _ => .object "HassockRoof$Acts"
abbrev wsX60 : List Cond := u_ws RX6 TX6 11
theorem nmX6 : ∀ a, a < 11 → ∀ b, b < 11 → a ≠ b → (TX6 a).2.1 ≠ (TX6 b).2.1 := by decide +kernel
theorem tyX6_ok : ∀ k, k < 11 → parseFieldDescriptor (TX6 k).2.2.1 = some (tyX6 k) := by decide +kernel
abbrev cX6_init : ByteArray := prog_8_method_1_code
def yX6_init : MethodName := ⟨RX6, "<init>", "()V"⟩
abbrev cX6_isTold : ByteArray := prog_8_method_2_code
def yX6_isTold : MethodName := ⟨RX6, "isTold", "()Z"⟩
abbrev cX6_hasYear : ByteArray := prog_8_method_3_code
def yX6_hasYear : MethodName := ⟨RX6, "hasYear", "(I)Z"⟩
abbrev cX6_isTaken : ByteArray := prog_8_method_4_code
def yX6_isTaken : MethodName := ⟨RX6, "isTaken", "(II)Z"⟩
abbrev cX6_isFallen : ByteArray := prog_8_method_5_code
def yX6_isFallen : MethodName := ⟨RX6, "isFallen", "(I)Z"⟩
abbrev cX6_worthOfMark : ByteArray := prog_8_method_6_code
def yX6_worthOfMark : MethodName := ⟨RX6, "worthOfMark", "(I)I"⟩
abbrev cX6_setWorth : ByteArray := prog_8_method_7_code
def yX6_setWorth : MethodName := ⟨RX6, "setWorth", "(II)V"⟩
abbrev cX6_worthOfSet : ByteArray := prog_8_method_8_code
def yX6_worthOfSet : MethodName := ⟨RX6, "worthOfSet", "(I)I"⟩
abbrev cX6_neighbours : ByteArray := prog_8_method_9_code
def yX6_neighbours : MethodName := ⟨RX6, "neighbours", "(I)I"⟩
abbrev cX6_nextIn : ByteArray := prog_8_method_10_code
def yX6_nextIn : MethodName := ⟨RX6, "nextIn", "(II)I"⟩
abbrev cX6_makeEmpty : ByteArray := prog_8_method_11_code
def yX6_makeEmpty : MethodName := ⟨RX6, "makeEmpty", "()V"⟩
abbrev cX6_copyFrom : ByteArray := prog_8_method_12_code
def yX6_copyFrom : MethodName := ⟨RX6, "copyFrom", "(LHassockRoof$Roof;)V"⟩
def RX7 : String := "HassockRoof$Rosters"
def TX7 : u_T := fun k => match k with
  | 0 => ("HassockRoof$Rosters", "roof", "LHassockRoof$Roof;", true)
  | 1 => ("HassockRoof$Rosters", "sight", "LHassockRoof$Sight;", true)
  | 2 => ("HassockRoof$Rosters", "row", "[I", true)
  | 3 => ("HassockRoof$Rosters", "firstRow", "[I", true)
  | 4 => ("HassockRoof$Rosters", "most", "I", false)
  | _ => ("HassockRoof$Rosters", "howMany", "I", false)
def tyX7 : Nat → FieldType := fun k => match k with
  | 0 => .object "HassockRoof$Roof"
  | 1 => .object "HassockRoof$Sight"
  | 2 => .array .int
  | 3 => .array .int
  | 4 => .int
  | _ => .int
abbrev wsX70 : List Cond := u_ws RX7 TX7 6
theorem nmX7 : ∀ a, a < 6 → ∀ b, b < 6 → a ≠ b → (TX7 a).2.1 ≠ (TX7 b).2.1 := by decide +kernel
theorem tyX7_ok : ∀ k, k < 6 → parseFieldDescriptor (TX7 k).2.2.1 = some (tyX7 k) := by decide +kernel
abbrev cX7_init : ByteArray := prog_9_method_1_code
def yX7_init : MethodName := ⟨RX7, "<init>", "(LHassockRoof$Roof;LHassockRoof$Sight;)V"⟩
abbrev cX7_tryAll : ByteArray := prog_9_method_2_code
def yX7_tryAll : MethodName := ⟨RX7, "tryAll", "()V"⟩
abbrev cX7_gladByRow : ByteArray := prog_9_method_3_code
def yX7_gladByRow : MethodName := ⟨RX7, "gladByRow", "()I"⟩
abbrev cX7_placeInFirst : ByteArray := prog_9_method_4_code
def yX7_placeInFirst : MethodName := ⟨RX7, "placeInFirst", "(I)I"⟩
abbrev cX7_ordersThatGive : ByteArray := prog_9_method_5_code
def yX7_ordersThatGive : MethodName := ⟨RX7, "ordersThatGive", "(II)I"⟩
abbrev cX7_takenByOrder : ByteArray := prog_9_method_6_code
def yX7_takenByOrder : MethodName := ⟨RX7, "takenByOrder", "(I)I"⟩
def RX8 : String := "HassockRoof$Shifting"
def TX8 : u_T := fun k => match k with
  | 0 => ("HassockRoof$Shifting", "roof", "LHassockRoof$Roof;", true)
  | 1 => ("HassockRoof$Shifting", "distances", "[I", true)
  | 2 => ("HassockRoof$Shifting", "queue", "[I", true)
  | 3 => ("HassockRoof$Shifting", "row", "[I", true)
  | 4 => ("HassockRoof$Shifting", "near", "[I", true)
  | 5 => ("HassockRoof$Shifting", "reached", "I", false)
  | _ => ("HassockRoof$Shifting", "farthest", "I", false)
def tyX8 : Nat → FieldType := fun k => match k with
  | 0 => .object "HassockRoof$Roof"
  | 1 => .array .int
  | 2 => .array .int
  | 3 => .array .int
  | 4 => .array .int
  | 5 => .int
  | _ => .int
abbrev wsX80 : List Cond := u_ws RX8 TX8 7
theorem nmX8 : ∀ a, a < 7 → ∀ b, b < 7 → a ≠ b → (TX8 a).2.1 ≠ (TX8 b).2.1 := by decide +kernel
theorem tyX8_ok : ∀ k, k < 7 → parseFieldDescriptor (TX8 k).2.2.1 = some (tyX8 k) := by decide +kernel
abbrev cX8_init : ByteArray := prog_10_method_1_code
def yX8_init : MethodName := ⟨RX8, "<init>", "(LHassockRoof$Roof;)V"⟩
abbrev cX8_isGoal : ByteArray := prog_10_method_2_code
def yX8_isGoal : MethodName := ⟨RX8, "isGoal", "(LHassockRoof$Slot;)Z"⟩
abbrev cX8_fewest : ByteArray := prog_10_method_3_code
def yX8_fewest : MethodName := ⟨RX8, "fewest", "(LHassockRoof$Slot;)I"⟩
abbrev cX8_firstLooker : ByteArray := prog_10_method_4_code
def yX8_firstLooker : MethodName := ⟨RX8, "firstLooker", "(LHassockRoof$Slot;)I"⟩
abbrev cX8_spreadFromTold : ByteArray := prog_10_method_5_code
def yX8_spreadFromTold : MethodName := ⟨RX8, "spreadFromTold", "()V"⟩
abbrev cX8_fillAsTold : ByteArray := prog_10_method_6_code
def yX8_fillAsTold : MethodName := ⟨RX8, "fillAsTold", "()V"⟩
abbrev cX8_spread : ByteArray := prog_10_method_7_code
def yX8_spread : MethodName := ⟨RX8, "spread", "()V"⟩
abbrev cX8_visitNeighbours : ByteArray := prog_10_method_8_code
def yX8_visitNeighbours : MethodName := ⟨RX8, "visitNeighbours", "()V"⟩
abbrev cX8_nearTo : ByteArray := prog_10_method_9_code
def yX8_nearTo : MethodName := ⟨RX8, "nearTo", "(I)I"⟩
abbrev cX8_visit : ByteArray := prog_10_method_10_code
def yX8_visit : MethodName := ⟨RX8, "visit", "(I)V"⟩
abbrev cX8_taken : ByteArray := prog_10_method_11_code
def yX8_taken : MethodName := ⟨RX8, "taken", "()I"⟩
abbrev cX8_distanceOfRow : ByteArray := prog_10_method_12_code
def yX8_distanceOfRow : MethodName := ⟨RX8, "distanceOfRow", "()I"⟩
def RX9 : String := "HassockRoof$Sight"
def TX9 : u_T := fun k => match k with
  | 0 => ("HassockRoof$Sight", "roof", "LHassockRoof$Roof;", true)
  | 1 => ("HassockRoof$Sight", "marks", "[I", true)
  | _ => ("HassockRoof$Sight", "worths", "[I", true)
def tyX9 : Nat → FieldType := fun k => match k with
  | 0 => .object "HassockRoof$Roof"
  | 1 => .array .int
  | _ => .array .int
abbrev wsX90 : List Cond := u_ws RX9 TX9 3
theorem nmX9 : ∀ a, a < 3 → ∀ b, b < 3 → a ≠ b → (TX9 a).2.1 ≠ (TX9 b).2.1 := by decide +kernel
theorem tyX9_ok : ∀ k, k < 3 → parseFieldDescriptor (TX9 k).2.2.1 = some (tyX9 k) := by decide +kernel
abbrev cX9_init : ByteArray := prog_11_method_1_code
def yX9_init : MethodName := ⟨RX9, "<init>", "(LHassockRoof$Roof;)V"⟩
abbrev cX9_look : ByteArray := prog_11_method_2_code
def yX9_look : MethodName := ⟨RX9, "look", "(I)V"⟩
abbrev cX9_hider : ByteArray := prog_11_method_3_code
def yX9_hider : MethodName := ⟨RX9, "hider", "(III)I"⟩
abbrev cX9_isBetween : ByteArray := prog_11_method_4_code
def yX9_isBetween : MethodName := ⟨RX9, "isBetween", "(III)Z"⟩
abbrev cX9_marksFrom : ByteArray := prog_11_method_5_code
def yX9_marksFrom : MethodName := ⟨RX9, "marksFrom", "(I)I"⟩
abbrev cX9_worthFrom : ByteArray := prog_11_method_6_code
def yX9_worthFrom : MethodName := ⟨RX9, "worthFrom", "(I)I"⟩
abbrev cX9_isSeen : ByteArray := prog_11_method_7_code
def yX9_isSeen : MethodName := ⟨RX9, "isSeen", "(II)Z"⟩
abbrev cX9_placesOf : ByteArray := prog_11_method_8_code
def yX9_placesOf : MethodName := ⟨RX9, "placesOf", "(I)I"⟩
abbrev cX9_marksFromSet : ByteArray := prog_11_method_9_code
def yX9_marksFromSet : MethodName := ⟨RX9, "marksFromSet", "(I)I"⟩
abbrev cX9_placeOfMostWorth : ByteArray := prog_11_method_10_code
def yX9_placeOfMostWorth : MethodName := ⟨RX9, "placeOfMostWorth", "(I)I"⟩
abbrev cX9_firstThatSees : ByteArray := prog_11_method_11_code
def yX9_firstThatSees : MethodName := ⟨RX9, "firstThatSees", "(II)I"⟩
abbrev cX9_worthOfNthBest : ByteArray := prog_11_method_12_code
def yX9_worthOfNthBest : MethodName := ⟨RX9, "worthOfNthBest", "(I)I"⟩
abbrev cX9_sixtiethsOfShare : ByteArray := prog_11_method_13_code
def yX9_sixtiethsOfShare : MethodName := ⟨RX9, "sixtiethsOfShare", "(I)I"⟩
abbrev cX9_leastWatch : ByteArray := prog_11_method_14_code
def yX9_leastWatch : MethodName := ⟨RX9, "leastWatch", "()I"⟩
def RX10 : String := "HassockRoof$Slot"
def TX10 : u_T := fun k => match k with
  | 0 => ("HassockRoof$Slot", "numbers", "[J", true)
  | 1 => ("HassockRoof$Slot", "isHeld", "Z", false)
  | 2 => ("HassockRoof$Slot", "width", "I", false)
  | _ => ("HassockRoof$Slot", "size", "I", false)
def tyX10 : Nat → FieldType := fun k => match k with
  | 0 => .array .long
  | 1 => .boolean
  | 2 => .int
  | _ => .int
abbrev wsX100 : List Cond := u_ws RX10 TX10 4
theorem nmX10 : ∀ a, a < 4 → ∀ b, b < 4 → a ≠ b → (TX10 a).2.1 ≠ (TX10 b).2.1 := by decide +kernel
theorem tyX10_ok : ∀ k, k < 4 → parseFieldDescriptor (TX10 k).2.2.1 = some (tyX10 k) := by decide +kernel
abbrev cX10_init : ByteArray := prog_12_method_1_code
def yX10_init : MethodName := ⟨RX10, "<init>", "()V"⟩
abbrev cX10_makeAnew : ByteArray := prog_12_method_2_code
def yX10_makeAnew : MethodName := ⟨RX10, "makeAnew", "(II)V"⟩
abbrev cX10_hasNumbers : ByteArray := prog_12_method_3_code
def yX10_hasNumbers : MethodName := ⟨RX10, "hasNumbers", "(II)Z"⟩
abbrev cX10_number : ByteArray := prog_12_method_4_code
def yX10_number : MethodName := ⟨RX10, "number", "(I)J"⟩
abbrev cX10_setNumber : ByteArray := prog_12_method_5_code
def yX10_setNumber : MethodName := ⟨RX10, "setNumber", "(IJ)V"⟩
abbrev cX10_cut : ByteArray := prog_12_method_6_code
def yX10_cut : MethodName := ⟨RX10, "cut", "(J)J"⟩
def RX11 : String := "HassockRoof"
def TX11 : u_T := fun k => match k with
  | 0 => ("HassockRoof", "now", "LHassockRoof$Roof;", true)
  | 1 => ("HassockRoof", "draft", "LHassockRoof$Roof;", true)
  | 2 => ("HassockRoof", "reader", "LHassockRoof$Reader;", true)
  | 3 => ("HassockRoof", "images", "[LHassockRoof$Roof;", true)
  | 4 => ("HassockRoof", "kept", "[Z", true)
  | 5 => ("HassockRoof", "slots", "[LHassockRoof$Slot;", true)
  | 6 => ("HassockRoof", "sight", "LHassockRoof$Sight;", true)
  | 7 => ("HassockRoof", "felledSight", "LHassockRoof$Sight;", true)
  | 8 => ("HassockRoof", "course", "LHassockRoof$Course;", true)
  | 9 => ("HassockRoof", "trial", "LHassockRoof$Course;", true)
  | 10 => ("HassockRoof", "felled", "LHassockRoof$Course;", true)
  | 11 => ("HassockRoof", "lists", "LHassockRoof$Rosters;", true)
  | 12 => ("HassockRoof", "shifting", "LHassockRoof$Shifting;", true)
  | 13 => ("HassockRoof", "chances", "LHassockRoof$Chances;", true)
  | _ => ("HassockRoof", "book", "LHassockRoof$Book;", true)
def tyX11 : Nat → FieldType := fun k => match k with
  | 0 => .object "HassockRoof$Roof"
  | 1 => .object "HassockRoof$Roof"
  | 2 => .object "HassockRoof$Reader"
  | 3 => .array (.object "HassockRoof$Roof")
  | 4 => .array .boolean
  | 5 => .array (.object "HassockRoof$Slot")
  | 6 => .object "HassockRoof$Sight"
  | 7 => .object "HassockRoof$Sight"
  | 8 => .object "HassockRoof$Course"
  | 9 => .object "HassockRoof$Course"
  | 10 => .object "HassockRoof$Course"
  | 11 => .object "HassockRoof$Rosters"
  | 12 => .object "HassockRoof$Shifting"
  | 13 => .object "HassockRoof$Chances"
  | _ => .object "HassockRoof$Book"
abbrev wsX110 : List Cond := u_ws RX11 TX11 15
theorem nmX11 : ∀ a, a < 15 → ∀ b, b < 15 → a ≠ b → (TX11 a).2.1 ≠ (TX11 b).2.1 := by decide +kernel
theorem tyX11_ok : ∀ k, k < 15 → parseFieldDescriptor (TX11 k).2.2.1 = some (tyX11 k) := by decide +kernel
abbrev cX11_init : ByteArray := prog_1_method_1_code
def yX11_init : MethodName := ⟨RX11, "<init>", "()V"⟩
abbrev cX11_feed : ByteArray := prog_1_method_2_code
def yX11_feed : MethodName := ⟨RX11, "feed", "(IIIII)I"⟩
abbrev cX11_end : ByteArray := prog_1_method_3_code
def yX11_end : MethodName := ⟨RX11, "end", "(I)I"⟩
abbrev cX11_roof : ByteArray := prog_1_method_4_code
def yX11_roof : MethodName := ⟨RX11, "roof", "()I"⟩
abbrev cX11_fault : ByteArray := prog_1_method_5_code
def yX11_fault : MethodName := ⟨RX11, "fault", "(I)I"⟩
abbrev cX11_place : ByteArray := prog_1_method_6_code
def yX11_place : MethodName := ⟨RX11, "place", "(II)I"⟩
abbrev cX11_mark : ByteArray := prog_1_method_7_code
def yX11_mark : MethodName := ⟨RX11, "mark", "(II)I"⟩
abbrev cX11_flue : ByteArray := prog_1_method_8_code
def yX11_flue : MethodName := ⟨RX11, "flue", "(II)I"⟩
abbrev cX11_looker : ByteArray := prog_1_method_9_code
def yX11_looker : MethodName := ⟨RX11, "looker", "(II)I"⟩
abbrev cX11_ways : ByteArray := prog_1_method_10_code
def yX11_ways : MethodName := ⟨RX11, "ways", "(I)I"⟩
abbrev cX11_sees : ByteArray := prog_1_method_11_code
def yX11_sees : MethodName := ⟨RX11, "sees", "(I)I"⟩
abbrev cX11_from : ByteArray := prog_1_method_12_code
def yX11_from : MethodName := ⟨RX11, "from", "(I)I"⟩
abbrev cX11_hides : ByteArray := prog_1_method_13_code
def yX11_hides : MethodName := ⟨RX11, "hides", "(II)I"⟩
abbrev cX11_worth : ByteArray := prog_1_method_14_code
def yX11_worth : MethodName := ⟨RX11, "worth", "(I)I"⟩
abbrev cX11_blind : ByteArray := prog_1_method_15_code
def yX11_blind : MethodName := ⟨RX11, "blind", "()I"⟩
abbrev cX11_lost : ByteArray := prog_1_method_16_code
def yX11_lost : MethodName := ⟨RX11, "lost", "()I"⟩
abbrev cX11_best : ByteArray := prog_1_method_17_code
def yX11_best : MethodName := ⟨RX11, "best", "()I"⟩
abbrev cX11_at : ByteArray := prog_1_method_18_code
def yX11_at : MethodName := ⟨RX11, "at", "(II)I"⟩
abbrev cX11_who : ByteArray := prog_1_method_19_code
def yX11_who : MethodName := ⟨RX11, "who", "(II)I"⟩
abbrev cX11_seen : ByteArray := prog_1_method_20_code
def yX11_seen : MethodName := ⟨RX11, "seen", "(II)I"⟩
abbrev cX11_joy : ByteArray := prog_1_method_21_code
def yX11_joy : MethodName := ⟨RX11, "joy", "(II)I"⟩
abbrev cX11_life : ByteArray := prog_1_method_22_code
def yX11_life : MethodName := ⟨RX11, "life", "(I)I"⟩
abbrev cX11_sad : ByteArray := prog_1_method_23_code
def yX11_sad : MethodName := ⟨RX11, "sad", "()I"⟩
abbrev cX11_drill : ByteArray := prog_1_method_24_code
def yX11_drill : MethodName := ⟨RX11, "drill", "(I)I"⟩
abbrev cX11_glad : ByteArray := prog_1_method_25_code
def yX11_glad : MethodName := ⟨RX11, "glad", "(I)I"⟩
abbrev cX11_often : ByteArray := prog_1_method_26_code
def yX11_often : MethodName := ⟨RX11, "often", "(I)I"⟩
abbrev cX11_round : ByteArray := prog_1_method_27_code
def yX11_round : MethodName := ⟨RX11, "round", "()I"⟩
abbrev cX11_walks : ByteArray := prog_1_method_28_code
def yX11_walks : MethodName := ⟨RX11, "walks", "(I)I"⟩
abbrev cX11_feast : ByteArray := prog_1_method_29_code
def yX11_feast : MethodName := ⟨RX11, "feast", "()I"⟩
abbrev cX11_envies : ByteArray := prog_1_method_30_code
def yX11_envies : MethodName := ⟨RX11, "envies", "(II)I"⟩
abbrev cX11_trade : ByteArray := prog_1_method_31_code
def yX11_trade : MethodName := ⟨RX11, "trade", "(I)I"⟩
abbrev cX11_roster : ByteArray := prog_1_method_32_code
def yX11_roster : MethodName := ⟨RX11, "roster", "()I"⟩
abbrev cX11_put : ByteArray := prog_1_method_33_code
def yX11_put : MethodName := ⟨RX11, "put", "(I)I"⟩
abbrev cX11_rosters : ByteArray := prog_1_method_34_code
def yX11_rosters : MethodName := ⟨RX11, "rosters", "()I"⟩
abbrev cX11_fair : ByteArray := prog_1_method_35_code
def yX11_fair : MethodName := ⟨RX11, "fair", "()I"⟩
abbrev cX11_shifts : ByteArray := prog_1_method_36_code
def yX11_shifts : MethodName := ⟨RX11, "shifts", "(I)I"⟩
abbrev cX11_first : ByteArray := prog_1_method_37_code
def yX11_first : MethodName := ⟨RX11, "first", "(I)I"⟩
abbrev cX11_reach : ByteArray := prog_1_method_38_code
def yX11_reach : MethodName := ⟨RX11, "reach", "()I"⟩
abbrev cX11_far : ByteArray := prog_1_method_39_code
def yX11_far : MethodName := ⟨RX11, "far", "()I"⟩
abbrev cX11_lot : ByteArray := prog_1_method_40_code
def yX11_lot : MethodName := ⟨RX11, "lot", "(III)I"⟩
abbrev cX11_share : ByteArray := prog_1_method_41_code
def yX11_share : MethodName := ⟨RX11, "share", "(II)I"⟩
abbrev cX11_all : ByteArray := prog_1_method_42_code
def yX11_all : MethodName := ⟨RX11, "all", "(I)I"⟩
abbrev cX11_watch : ByteArray := prog_1_method_43_code
def yX11_watch : MethodName := ⟨RX11, "watch", "()I"⟩
abbrev cX11_watches : ByteArray := prog_1_method_44_code
def yX11_watches : MethodName := ⟨RX11, "watches", "()I"⟩
abbrev cX11_firsts : ByteArray := prog_1_method_45_code
def yX11_firsts : MethodName := ⟨RX11, "firsts", "(II)I"⟩
abbrev cX11_ask : ByteArray := prog_1_method_46_code
def yX11_ask : MethodName := ⟨RX11, "ask", "(II)I"⟩
abbrev cX11_leaves : ByteArray := prog_1_method_47_code
def yX11_leaves : MethodName := ⟨RX11, "leaves", "(II)I"⟩
abbrev cX11_laws : ByteArray := prog_1_method_48_code
def yX11_laws : MethodName := ⟨RX11, "laws", "(II)I"⟩
abbrev cX11_by : ByteArray := prog_1_method_49_code
def yX11_by : MethodName := ⟨RX11, "by", "(I)I"⟩
abbrev cX11_law : ByteArray := prog_1_method_50_code
def yX11_law : MethodName := ⟨RX11, "law", "()I"⟩
abbrev cX11_fell : ByteArray := prog_1_method_51_code
def yX11_fell : MethodName := ⟨RX11, "fell", "()I"⟩
abbrev cX11_rests : ByteArray := prog_1_method_52_code
def yX11_rests : MethodName := ⟨RX11, "rests", "(II)I"⟩
abbrev cX11_gets : ByteArray := prog_1_method_53_code
def yX11_gets : MethodName := ⟨RX11, "gets", "(IIII)I"⟩
abbrev cX11_chance : ByteArray := prog_1_method_54_code
def yX11_chance : MethodName := ⟨RX11, "chance", "(IIII)I"⟩
abbrev cX11_mean : ByteArray := prog_1_method_55_code
def yX11_mean : MethodName := ⟨RX11, "mean", "(III)J"⟩
abbrev cX11_swap : ByteArray := prog_1_method_56_code
def yX11_swap : MethodName := ⟨RX11, "swap", "(III)I"⟩
abbrev cX11_clear : ByteArray := prog_1_method_57_code
def yX11_clear : MethodName := ⟨RX11, "clear", "(I)I"⟩
abbrev cX11_undo : ByteArray := prog_1_method_58_code
def yX11_undo : MethodName := ⟨RX11, "undo", "()I"⟩
abbrev cX11_anew : ByteArray := prog_1_method_59_code
def yX11_anew : MethodName := ⟨RX11, "anew", "()I"⟩
abbrev cX11_drawn : ByteArray := prog_1_method_60_code
def yX11_drawn : MethodName := ⟨RX11, "drawn", "(II)I"⟩
abbrev cX11_luck : ByteArray := prog_1_method_61_code
def yX11_luck : MethodName := ⟨RX11, "luck", "(III)I"⟩
abbrev cX11_rate : ByteArray := prog_1_method_62_code
def yX11_rate : MethodName := ⟨RX11, "rate", "(II)I"⟩
abbrev cX11_count : ByteArray := prog_1_method_63_code
def yX11_count : MethodName := ⟨RX11, "count", "(I)I"⟩
abbrev cX11_image : ByteArray := prog_1_method_64_code
def yX11_image : MethodName := ⟨RX11, "image", "(I)I"⟩
abbrev cX11_back : ByteArray := prog_1_method_65_code
def yX11_back : MethodName := ⟨RX11, "back", "(I)I"⟩
abbrev cX11_row : ByteArray := prog_1_method_66_code
def yX11_row : MethodName := ⟨RX11, "row", "(III)I"⟩
abbrev cX11_write : ByteArray := prog_1_method_67_code
def yX11_write : MethodName := ⟨RX11, "write", "(IIJ)I"⟩
abbrev cX11_paste : ByteArray := prog_1_method_68_code
def yX11_paste : MethodName := ⟨RX11, "paste", "(IIIII)I"⟩
abbrev cX11_lookAnew : ByteArray := prog_1_method_69_code
def yX11_lookAnew : MethodName := ⟨RX11, "lookAnew", "()V"⟩
abbrev cX11_ofPair : ByteArray := prog_1_method_70_code
def yX11_ofPair : MethodName := ⟨RX11, "ofPair", "(LHassockRoof$Pairs;II)I"⟩
abbrev cX11_isOneOfTwo : ByteArray := prog_1_method_71_code
def yX11_isOneOfTwo : MethodName := ⟨RX11, "isOneOfTwo", "(I)Z"⟩
abbrev cX11_isSlot : ByteArray := prog_1_method_72_code
def yX11_isSlot : MethodName := ⟨RX11, "isSlot", "(I)Z"⟩
abbrev cX11_isLaw : ByteArray := prog_1_method_73_code
def yX11_isLaw : MethodName := ⟨RX11, "isLaw", "(I)Z"⟩
abbrev cX11_isSeed : ByteArray := prog_1_method_74_code
def yX11_isSeed : MethodName := ⟨RX11, "isSeed", "(I)Z"⟩
abbrev cX11_isLookerInYear : ByteArray := prog_1_method_75_code
def yX11_isLookerInYear : MethodName := ⟨RX11, "isLookerInYear", "(II)Z"⟩
abbrev cX11_areTwoLookers : ByteArray := prog_1_method_76_code
def yX11_areTwoLookers : MethodName := ⟨RX11, "areTwoLookers", "(II)Z"⟩
abbrev cX11_isChanceAsked : ByteArray := prog_1_method_77_code
def yX11_isChanceAsked : MethodName := ⟨RX11, "isChanceAsked", "(III)Z"⟩
abbrev cX11_wouldTrade : ByteArray := prog_1_method_78_code
def yX11_wouldTrade : MethodName := ⟨RX11, "wouldTrade", "(III)Z"⟩
abbrev cX11_refuseGoal : ByteArray := prog_1_method_79_code
def yX11_refuseGoal : MethodName := ⟨RX11, "refuseGoal", "(I)I"⟩
abbrev cX11_refuseBook : ByteArray := prog_1_method_80_code
def yX11_refuseBook : MethodName := ⟨RX11, "refuseBook", "(II)I"⟩
abbrev cX11_joyByLaw : ByteArray := prog_1_method_81_code
def yX11_joyByLaw : MethodName := ⟨RX11, "joyByLaw", "(I)I"⟩
abbrev cX11_joyWithoutFlue : ByteArray := prog_1_method_82_code
def yX11_joyWithoutFlue : MethodName := ⟨RX11, "joyWithoutFlue", "(I)I"⟩
abbrev cX11_gain : ByteArray := prog_1_method_83_code
def yX11_gain : MethodName := ⟨RX11, "gain", "(IIII)I"⟩
abbrev cX11_marksInGame : ByteArray := prog_1_method_84_code
def yX11_marksInGame : MethodName := ⟨RX11, "marksInGame", "(II)I"⟩
abbrev cX11_slotsHeld : ByteArray := prog_1_method_85_code
def yX11_slotsHeld : MethodName := ⟨RX11, "slotsHeld", "()I"⟩
abbrev cX11_howManyRows : ByteArray := prog_1_method_86_code
def yX11_howManyRows : MethodName := ⟨RX11, "howManyRows", "(II)I"⟩
abbrev cX11_fillRow : ByteArray := prog_1_method_87_code
def yX11_fillRow : MethodName := ⟨RX11, "fillRow", "([IIII)V"⟩
abbrev cX11_nthFree : ByteArray := prog_1_method_88_code
def yX11_nthFree : MethodName := ⟨RX11, "nthFree", "(III)I"⟩
abbrev cX11_numberOfRow : ByteArray := prog_1_method_89_code
def yX11_numberOfRow : MethodName := ⟨RX11, "numberOfRow", "([III)I"⟩
abbrev cX11_inLowestTerms : ByteArray := prog_1_method_90_code
def yX11_inLowestTerms : MethodName := ⟨RX11, "inLowestTerms", "(JJI)J"⟩
def RX12 : String := "HassockRoofModel"
def TX12 : u_T := fun k => match k with
  | 0 => ("HassockRoofModel", "thrown", "I", false)
  | 1 => ("HassockRoofModel", "width", "[I", true)
  | 2 => ("HassockRoofModel", "many", "[I", true)
  | 3 => ("HassockRoofModel", "cells", "[J", true)
  | 4 => ("HassockRoofModel", "moved", "[J", true)
  | 5 => ("HassockRoofModel", "tape", "[B", true)
  | 6 => ("HassockRoofModel", "taped", "I", false)
  | 7 => ("HassockRoofModel", "spot", "I", false)
  | 8 => ("HassockRoofModel", "token", "I", false)
  | 9 => ("HassockRoofModel", "begun", "I", false)
  | 10 => ("HassockRoofModel", "value", "I", false)
  | 11 => ("HassockRoofModel", "word", "J", false)
  | 12 => ("HassockRoofModel", "bad", "I", false)
  | 13 => ("HassockRoofModel", "badPlace", "I", false)
  | 14 => ("HassockRoofModel", "fault", "I", false)
  | 15 => ("HassockRoofModel", "faultPlace", "I", false)
  | 16 => ("HassockRoofModel", "lines", "[I", true)
  | 17 => ("HassockRoofModel", "has", "[I", true)
  | 18 => ("HassockRoofModel", "placeXY", "[I", true)
  | 19 => ("HassockRoofModel", "markXY", "[I", true)
  | 20 => ("HassockRoofModel", "markWorth", "[I", true)
  | 21 => ("HassockRoofModel", "flueXY", "[I", true)
  | 22 => ("HassockRoofModel", "way", "[I", true)
  | 23 => ("HassockRoofModel", "man", "[I", true)
  | 24 => ("HassockRoofModel", "act", "[I", true)
  | 25 => ("HassockRoofModel", "isKept", "[Z", true)
  | 26 => ("HassockRoofModel", "felled", "I", false)
  | 27 => ("HassockRoofModel", "seesOf", "[I", true)
  | 28 => ("HassockRoofModel", "law", "I", false)
  | 29 => ("HassockRoofModel", "moving", "I", false)
  | 30 => ("HassockRoofModel", "start", "[I", true)
  | 31 => ("HassockRoofModel", "now", "[I", true)
  | 32 => ("HassockRoofModel", "atYear", "[I", true)
  | 33 => ("HassockRoofModel", "rosterMost", "I", false)
  | 34 => ("HassockRoofModel", "rosterMany", "I", false)
  | 35 => ("HassockRoofModel", "rosterFair", "I", false)
  | 36 => ("HassockRoofModel", "rosterRow", "[I", true)
  | 37 => ("HassockRoofModel", "rowNow", "[I", true)
  | 38 => ("HassockRoofModel", "since", "[I", true)
  | 39 => ("HassockRoofModel", "queue", "[I", true)
  | 40 => ("HassockRoofModel", "queued", "I", false)
  | 41 => ("HassockRoofModel", "firstBits", "I", false)
  | 42 => ("HassockRoofModel", "askBest", "I", false)
  | 43 => ("HassockRoofModel", "askLeaves", "I", false)
  | _ => ("HassockRoofModel", "oftenAt", "[I", true)
def tyX12 : Nat → FieldType := fun k => match k with
  | 0 => .int
  | 1 => .array .int
  | 2 => .array .int
  | 3 => .array .long
  | 4 => .array .long
  | 5 => .array .byte
  | 6 => .int
  | 7 => .int
  | 8 => .int
  | 9 => .int
  | 10 => .int
  | 11 => .long
  | 12 => .int
  | 13 => .int
  | 14 => .int
  | 15 => .int
  | 16 => .array .int
  | 17 => .array .int
  | 18 => .array .int
  | 19 => .array .int
  | 20 => .array .int
  | 21 => .array .int
  | 22 => .array .int
  | 23 => .array .int
  | 24 => .array .int
  | 25 => .array .boolean
  | 26 => .int
  | 27 => .array .int
  | 28 => .int
  | 29 => .int
  | 30 => .array .int
  | 31 => .array .int
  | 32 => .array .int
  | 33 => .int
  | 34 => .int
  | 35 => .int
  | 36 => .array .int
  | 37 => .array .int
  | 38 => .array .int
  | 39 => .array .int
  | 40 => .int
  | 41 => .int
  | 42 => .int
  | 43 => .int
  | _ => .array .int
abbrev wsX120 : List Cond := u_ws RX12 TX12 45
theorem nmX12 : ∀ a, a < 45 → ∀ b, b < 45 → a ≠ b → (TX12 a).2.1 ≠ (TX12 b).2.1 := by decide +kernel
theorem tyX12_ok : ∀ k, k < 45 → parseFieldDescriptor (TX12 k).2.2.1 = some (tyX12 k) := by decide +kernel
abbrev cX12_init : ByteArray := prog_14_method_1_code
def yX12_init : MethodName := ⟨RX12, "<init>", "()V"⟩
abbrev cX12_in : ByteArray := prog_14_method_3_code
def yX12_in : MethodName := ⟨RX12, "in", "(JJJ)Z"⟩
abbrev cX12_isSlot : ByteArray := prog_14_method_4_code
def yX12_isSlot : MethodName := ⟨RX12, "isSlot", "(I)Z"⟩
abbrev cX12_row : ByteArray := prog_14_method_5_code
def yX12_row : MethodName := ⟨RX12, "row", "(III)I"⟩
abbrev cX12_cut : ByteArray := prog_14_method_6_code
def yX12_cut : MethodName := ⟨RX12, "cut", "(JI)J"⟩
abbrev cX12_write : ByteArray := prog_14_method_7_code
def yX12_write : MethodName := ⟨RX12, "write", "(IIJ)I"⟩
abbrev cX12_paste : ByteArray := prog_14_method_8_code
def yX12_paste : MethodName := ⟨RX12, "paste", "(IIIII)I"⟩
abbrev cX12_feed : ByteArray := prog_14_method_9_code
def yX12_feed : MethodName := ⟨RX12, "feed", "(IIIII)I"⟩
abbrev cX12_four : ByteArray := prog_14_method_10_code
def yX12_four : MethodName := ⟨RX12, "four", "(I)V"⟩
abbrev cX12_end : ByteArray := prog_14_method_11_code
def yX12_end : MethodName := ⟨RX12, "end", "(I)I"⟩
abbrev cX12_isByte : ByteArray := prog_14_method_12_code
def yX12_isByte : MethodName := ⟨RX12, "isByte", "(III)Z"⟩
abbrev cX12_next : ByteArray := prog_14_method_13_code
def yX12_next : MethodName := ⟨RX12, "next", "()V"⟩
abbrev cX12_isGood : ByteArray := prog_14_method_14_code
def yX12_isGood : MethodName := ⟨RX12, "isGood", "()Z"⟩
abbrev cX12_fails : ByteArray := prog_14_method_15_code
def yX12_fails : MethodName := ⟨RX12, "fails", "(I)V"⟩
abbrev cX12_is : ByteArray := prog_14_method_16_code
def yX12_is : MethodName := ⟨RX12, "is", "(J)Z"⟩
abbrev cX12_takes : ByteArray := prog_14_method_17_code
def yX12_takes : MethodName := ⟨RX12, "takes", "(J)Z"⟩
abbrev cX12_asks : ByteArray := prog_14_method_18_code
def yX12_asks : MethodName := ⟨RX12, "asks", "(J)V"⟩
abbrev cX12_number : ByteArray := prog_14_method_19_code
def yX12_number : MethodName := ⟨RX12, "number", "(II)I"⟩
abbrev cX12_number_ : ByteArray := prog_14_method_20_code
def yX12_number_ : MethodName := ⟨RX12, "number", "(JII)I"⟩
abbrev cX12_ends : ByteArray := prog_14_method_21_code
def yX12_ends : MethodName := ⟨RX12, "ends", "()V"⟩
abbrev cX12_begins : ByteArray := prog_14_method_22_code
def yX12_begins : MethodName := ⟨RX12, "begins", "()V"⟩
abbrev cX12_isOver : ByteArray := prog_14_method_23_code
def yX12_isOver : MethodName := ⟨RX12, "isOver", "()V"⟩
abbrev cX12_fault : ByteArray := prog_14_method_24_code
def yX12_fault : MethodName := ⟨RX12, "fault", "(I)I"⟩
abbrev cX12_hasRead : ByteArray := prog_14_method_25_code
def yX12_hasRead : MethodName := ⟨RX12, "hasRead", "(I)I"⟩
abbrev cX12_tells : ByteArray := prog_14_method_26_code
def yX12_tells : MethodName := ⟨RX12, "tells", "(II)V"⟩
abbrev cX12_isTaken : ByteArray := prog_14_method_27_code
def yX12_isTaken : MethodName := ⟨RX12, "isTaken", "([IIIII)Z"⟩
abbrev cX12_pointHere : ByteArray := prog_14_method_28_code
def yX12_pointHere : MethodName := ⟨RX12, "pointHere", "([II)V"⟩
abbrev cX12_placeHere : ByteArray := prog_14_method_29_code
def yX12_placeHere : MethodName := ⟨RX12, "placeHere", "()I"⟩
abbrev cX12_wayLine : ByteArray := prog_14_method_30_code
def yX12_wayLine : MethodName := ⟨RX12, "wayLine", "()V"⟩
abbrev cX12_lookerLine : ByteArray := prog_14_method_31_code
def yX12_lookerLine : MethodName := ⟨RX12, "lookerLine", "()V"⟩
abbrev cX12_isRoom : ByteArray := prog_14_method_32_code
def yX12_isRoom : MethodName := ⟨RX12, "isRoom", "(ZII)Z"⟩
abbrev cX12_lineHere : ByteArray := prog_14_method_33_code
def yX12_lineHere : MethodName := ⟨RX12, "lineHere", "()V"⟩
abbrev cX12_clears : ByteArray := prog_14_method_34_code
def yX12_clears : MethodName := ⟨RX12, "clears", "()V"⟩
abbrev cX12_roof : ByteArray := prog_14_method_35_code
def yX12_roof : MethodName := ⟨RX12, "roof", "()I"⟩
abbrev cX12_copyRow : ByteArray := prog_14_method_36_code
def yX12_copyRow : MethodName := ⟨RX12, "copyRow", "([IIII)V"⟩
abbrev cX12_copyRoof : ByteArray := prog_14_method_37_code
def yX12_copyRoof : MethodName := ⟨RX12, "copyRoof", "(II)V"⟩
abbrev cX12_isRoof : ByteArray := prog_14_method_38_code
def yX12_isRoof : MethodName := ⟨RX12, "isRoof", "()Z"⟩
abbrev cX12_places : ByteArray := prog_14_method_39_code
def yX12_places : MethodName := ⟨RX12, "places", "()I"⟩
abbrev cX12_marks : ByteArray := prog_14_method_40_code
def yX12_marks : MethodName := ⟨RX12, "marks", "()I"⟩
abbrev cX12_men : ByteArray := prog_14_method_41_code
def yX12_men : MethodName := ⟨RX12, "men", "()I"⟩
abbrev cX12_years : ByteArray := prog_14_method_42_code
def yX12_years : MethodName := ⟨RX12, "years", "()I"⟩
abbrev cX12_isPlace : ByteArray := prog_14_method_43_code
def yX12_isPlace : MethodName := ⟨RX12, "isPlace", "(J)Z"⟩
abbrev cX12_isMark : ByteArray := prog_14_method_44_code
def yX12_isMark : MethodName := ⟨RX12, "isMark", "(J)Z"⟩
abbrev cX12_isFlue : ByteArray := prog_14_method_45_code
def yX12_isFlue : MethodName := ⟨RX12, "isFlue", "(I)Z"⟩
abbrev cX12_isMan : ByteArray := prog_14_method_46_code
def yX12_isMan : MethodName := ⟨RX12, "isMan", "(I)Z"⟩
abbrev cX12_isYear : ByteArray := prog_14_method_47_code
def yX12_isYear : MethodName := ⟨RX12, "isYear", "(J)Z"⟩
abbrev cX12_isAhead : ByteArray := prog_14_method_48_code
def yX12_isAhead : MethodName := ⟨RX12, "isAhead", "(I)Z"⟩
abbrev cX12_areTwo : ByteArray := prog_14_method_49_code
def yX12_areTwo : MethodName := ⟨RX12, "areTwo", "(II)Z"⟩
abbrev cX12_isHalf : ByteArray := prog_14_method_50_code
def yX12_isHalf : MethodName := ⟨RX12, "isHalf", "(I)Z"⟩
abbrev cX12_isBit : ByteArray := prog_14_method_51_code
def yX12_isBit : MethodName := ⟨RX12, "isBit", "(II)Z"⟩
abbrev cX12_sizeOf : ByteArray := prog_14_method_52_code
def yX12_sizeOf : MethodName := ⟨RX12, "sizeOf", "(I)I"⟩
abbrev cX12_lessOf : ByteArray := prog_14_method_53_code
def yX12_lessOf : MethodName := ⟨RX12, "lessOf", "(II)I"⟩
abbrev cX12_moreOf : ByteArray := prog_14_method_54_code
def yX12_moreOf : MethodName := ⟨RX12, "moreOf", "(II)I"⟩
abbrev cX12_isBetween : ByteArray := prog_14_method_55_code
def yX12_isBetween : MethodName := ⟨RX12, "isBetween", "(III)Z"⟩
abbrev cX12_hidesOf : ByteArray := prog_14_method_56_code
def yX12_hidesOf : MethodName := ⟨RX12, "hidesOf", "(II)I"⟩
abbrev cX12_laysSees : ByteArray := prog_14_method_57_code
def yX12_laysSees : MethodName := ⟨RX12, "laysSees", "()V"⟩
abbrev cX12_laysFlues : ByteArray := prog_14_method_58_code
def yX12_laysFlues : MethodName := ⟨RX12, "laysFlues", "()V"⟩
abbrev cX12_worthOf : ByteArray := prog_14_method_59_code
def yX12_worthOf : MethodName := ⟨RX12, "worthOf", "(I)I"⟩
abbrev cX12_placeWorth : ByteArray := prog_14_method_60_code
def yX12_placeWorth : MethodName := ⟨RX12, "placeWorth", "(I)I"⟩
abbrev cX12_lays : ByteArray := prog_14_method_61_code
def yX12_lays : MethodName := ⟨RX12, "lays", "()V"⟩
abbrev cX12_hopeOf : ByteArray := prog_14_method_62_code
def yX12_hopeOf : MethodName := ⟨RX12, "hopeOf", "(I)I"⟩
abbrev cX12_isGlad : ByteArray := prog_14_method_63_code
def yX12_isGlad : MethodName := ⟨RX12, "isGlad", "(II)Z"⟩
abbrev cX12_exchanges : ByteArray := prog_14_method_64_code
def yX12_exchanges : MethodName := ⟨RX12, "exchanges", "(I)V"⟩
abbrev cX12_oneBy : ByteArray := prog_14_method_65_code
def yX12_oneBy : MethodName := ⟨RX12, "oneBy", "(II)I"⟩
abbrev cX12_changes : ByteArray := prog_14_method_66_code
def yX12_changes : MethodName := ⟨RX12, "changes", "()V"⟩
abbrev cX12_nextPlace : ByteArray := prog_14_method_67_code
def yX12_nextPlace : MethodName := ⟨RX12, "nextPlace", "(II)I"⟩
abbrev cX12_moves : ByteArray := prog_14_method_68_code
def yX12_moves : MethodName := ⟨RX12, "moves", "()V"⟩
abbrev cX12_runs : ByteArray := prog_14_method_69_code
def yX12_runs : MethodName := ⟨RX12, "runs", "()V"⟩
abbrev cX12_laysNow : ByteArray := prog_14_method_70_code
def yX12_laysNow : MethodName := ⟨RX12, "laysNow", "()V"⟩
abbrev cX12_seesAt : ByteArray := prog_14_method_71_code
def yX12_seesAt : MethodName := ⟨RX12, "seesAt", "(II)I"⟩
abbrev cX12_joyOf : ByteArray := prog_14_method_72_code
def yX12_joyOf : MethodName := ⟨RX12, "joyOf", "(II)I"⟩
abbrev cX12_lifeOf : ByteArray := prog_14_method_73_code
def yX12_lifeOf : MethodName := ⟨RX12, "lifeOf", "(I)I"⟩
abbrev cX12_joyAll : ByteArray := prog_14_method_74_code
def yX12_joyAll : MethodName := ⟨RX12, "joyAll", "()I"⟩
abbrev cX12_gladAt : ByteArray := prog_14_method_75_code
def yX12_gladAt : MethodName := ⟨RX12, "gladAt", "(I)I"⟩
abbrev cX12_drillOf : ByteArray := prog_14_method_76_code
def yX12_drillOf : MethodName := ⟨RX12, "drillOf", "(I)I"⟩
abbrev cX12_place : ByteArray := prog_14_method_77_code
def yX12_place : MethodName := ⟨RX12, "place", "(II)I"⟩
abbrev cX12_mark : ByteArray := prog_14_method_78_code
def yX12_mark : MethodName := ⟨RX12, "mark", "(II)I"⟩
abbrev cX12_flue : ByteArray := prog_14_method_79_code
def yX12_flue : MethodName := ⟨RX12, "flue", "(II)I"⟩
abbrev cX12_looker : ByteArray := prog_14_method_80_code
def yX12_looker : MethodName := ⟨RX12, "looker", "(II)I"⟩
abbrev cX12_isWay : ByteArray := prog_14_method_81_code
def yX12_isWay : MethodName := ⟨RX12, "isWay", "(II)Z"⟩
abbrev cX12_ways : ByteArray := prog_14_method_82_code
def yX12_ways : MethodName := ⟨RX12, "ways", "(I)I"⟩
abbrev cX12_sees : ByteArray := prog_14_method_83_code
def yX12_sees : MethodName := ⟨RX12, "sees", "(I)I"⟩
abbrev cX12_fromOf : ByteArray := prog_14_method_84_code
def yX12_fromOf : MethodName := ⟨RX12, "fromOf", "(I)I"⟩
abbrev cX12_from : ByteArray := prog_14_method_85_code
def yX12_from : MethodName := ⟨RX12, "from", "(I)I"⟩
abbrev cX12_hides : ByteArray := prog_14_method_86_code
def yX12_hides : MethodName := ⟨RX12, "hides", "(II)I"⟩
abbrev cX12_worth : ByteArray := prog_14_method_87_code
def yX12_worth : MethodName := ⟨RX12, "worth", "(I)I"⟩
abbrev cX12_blind : ByteArray := prog_14_method_88_code
def yX12_blind : MethodName := ⟨RX12, "blind", "()I"⟩
abbrev cX12_lost : ByteArray := prog_14_method_89_code
def yX12_lost : MethodName := ⟨RX12, "lost", "()I"⟩
abbrev cX12_best : ByteArray := prog_14_method_90_code
def yX12_best : MethodName := ⟨RX12, "best", "()I"⟩
abbrev cX12_at : ByteArray := prog_14_method_91_code
def yX12_at : MethodName := ⟨RX12, "at", "(II)I"⟩
abbrev cX12_who : ByteArray := prog_14_method_92_code
def yX12_who : MethodName := ⟨RX12, "who", "(II)I"⟩
abbrev cX12_seen : ByteArray := prog_14_method_93_code
def yX12_seen : MethodName := ⟨RX12, "seen", "(II)I"⟩
abbrev cX12_joy : ByteArray := prog_14_method_94_code
def yX12_joy : MethodName := ⟨RX12, "joy", "(II)I"⟩
abbrev cX12_life : ByteArray := prog_14_method_95_code
def yX12_life : MethodName := ⟨RX12, "life", "(I)I"⟩
abbrev cX12_sad : ByteArray := prog_14_method_96_code
def yX12_sad : MethodName := ⟨RX12, "sad", "()I"⟩
abbrev cX12_drill : ByteArray := prog_14_method_97_code
def yX12_drill : MethodName := ⟨RX12, "drill", "(I)I"⟩
abbrev cX12_glad : ByteArray := prog_14_method_98_code
def yX12_glad : MethodName := ⟨RX12, "glad", "(I)I"⟩
abbrev cX12_often : ByteArray := prog_14_method_99_code
def yX12_often : MethodName := ⟨RX12, "often", "(I)I"⟩
abbrev cX12_isAsFirst : ByteArray := prog_14_method_100_code
def yX12_isAsFirst : MethodName := ⟨RX12, "isAsFirst", "(I)Z"⟩
abbrev cX12_round : ByteArray := prog_14_method_101_code
def yX12_round : MethodName := ⟨RX12, "round", "()I"⟩
abbrev cX12_walks : ByteArray := prog_14_method_102_code
def yX12_walks : MethodName := ⟨RX12, "walks", "(I)I"⟩
abbrev cX12_joyAt : ByteArray := prog_14_method_103_code
def yX12_joyAt : MethodName := ⟨RX12, "joyAt", "(I)I"⟩
abbrev cX12_feast : ByteArray := prog_14_method_104_code
def yX12_feast : MethodName := ⟨RX12, "feast", "()I"⟩
abbrev cX12_envies : ByteArray := prog_14_method_105_code
def yX12_envies : MethodName := ⟨RX12, "envies", "(II)I"⟩
abbrev cX12_trade : ByteArray := prog_14_method_106_code
def yX12_trade : MethodName := ⟨RX12, "trade", "(I)I"⟩
abbrev cX12_rowsFrom : ByteArray := prog_14_method_107_code
def yX12_rowsFrom : MethodName := ⟨RX12, "rowsFrom", "(II)V"⟩
abbrev cX12_laysRows : ByteArray := prog_14_method_108_code
def yX12_laysRows : MethodName := ⟨RX12, "laysRows", "()V"⟩
abbrev cX12_roster : ByteArray := prog_14_method_109_code
def yX12_roster : MethodName := ⟨RX12, "roster", "()I"⟩
abbrev cX12_put : ByteArray := prog_14_method_110_code
def yX12_put : MethodName := ⟨RX12, "put", "(I)I"⟩
abbrev cX12_rosters : ByteArray := prog_14_method_111_code
def yX12_rosters : MethodName := ⟨RX12, "rosters", "()I"⟩
abbrev cX12_fair : ByteArray := prog_14_method_112_code
def yX12_fair : MethodName := ⟨RX12, "fair", "()I"⟩
abbrev cX12_codeOf : ByteArray := prog_14_method_113_code
def yX12_codeOf : MethodName := ⟨RX12, "codeOf", "([I)I"⟩
abbrev cX12_decodes : ByteArray := prog_14_method_114_code
def yX12_decodes : MethodName := ⟨RX12, "decodes", "(I)V"⟩
abbrev cX12_isEmpty : ByteArray := prog_14_method_115_code
def yX12_isEmpty : MethodName := ⟨RX12, "isEmpty", "(I)Z"⟩
abbrev cX12_laysShifts : ByteArray := prog_14_method_116_code
def yX12_laysShifts : MethodName := ⟨RX12, "laysShifts", "(I)V"⟩
abbrev cX12_shiftsTo : ByteArray := prog_14_method_117_code
def yX12_shiftsTo : MethodName := ⟨RX12, "shiftsTo", "(III)V"⟩
abbrev cX12_whyNotRow : ByteArray := prog_14_method_118_code
def yX12_whyNotRow : MethodName := ⟨RX12, "whyNotRow", "(I)I"⟩
abbrev cX12_startCode : ByteArray := prog_14_method_119_code
def yX12_startCode : MethodName := ⟨RX12, "startCode", "()I"⟩
abbrev cX12_laysTo : ByteArray := prog_14_method_120_code
def yX12_laysTo : MethodName := ⟨RX12, "laysTo", "(I)I"⟩
abbrev cX12_shifts : ByteArray := prog_14_method_121_code
def yX12_shifts : MethodName := ⟨RX12, "shifts", "(I)I"⟩
abbrev cX12_first : ByteArray := prog_14_method_122_code
def yX12_first : MethodName := ⟨RX12, "first", "(I)I"⟩
abbrev cX12_reach : ByteArray := prog_14_method_123_code
def yX12_reach : MethodName := ⟨RX12, "reach", "()I"⟩
abbrev cX12_far : ByteArray := prog_14_method_124_code
def yX12_far : MethodName := ⟨RX12, "far", "()I"⟩
abbrev cX12_times : ByteArray := prog_14_method_125_code
def yX12_times : MethodName := ⟨RX12, "times", "(I)I"⟩
abbrev cX12_common : ByteArray := prog_14_method_126_code
def yX12_common : MethodName := ⟨RX12, "common", "(JJ)J"⟩
abbrev cX12_part : ByteArray := prog_14_method_127_code
def yX12_part : MethodName := ⟨RX12, "part", "(JJI)J"⟩
abbrev cX12_takesOf : ByteArray := prog_14_method_128_code
def yX12_takesOf : MethodName := ⟨RX12, "takesOf", "(II)I"⟩
abbrev cX12_lotsFrom : ByteArray := prog_14_method_129_code
def yX12_lotsFrom : MethodName := ⟨RX12, "lotsFrom", "(IIII)I"⟩
abbrev cX12_lot : ByteArray := prog_14_method_130_code
def yX12_lot : MethodName := ⟨RX12, "lot", "(III)I"⟩
abbrev cX12_allOf : ByteArray := prog_14_method_131_code
def yX12_allOf : MethodName := ⟨RX12, "allOf", "(I)I"⟩
abbrev cX12_all : ByteArray := prog_14_method_132_code
def yX12_all : MethodName := ⟨RX12, "all", "(I)I"⟩
abbrev cX12_share : ByteArray := prog_14_method_133_code
def yX12_share : MethodName := ⟨RX12, "share", "(II)I"⟩
abbrev cX12_watchOf : ByteArray := prog_14_method_134_code
def yX12_watchOf : MethodName := ⟨RX12, "watchOf", "()I"⟩
abbrev cX12_watch : ByteArray := prog_14_method_135_code
def yX12_watch : MethodName := ⟨RX12, "watch", "()I"⟩
abbrev cX12_watches : ByteArray := prog_14_method_136_code
def yX12_watches : MethodName := ⟨RX12, "watches", "()I"⟩
abbrev cX12_whyNotBook : ByteArray := prog_14_method_137_code
def yX12_whyNotBook : MethodName := ⟨RX12, "whyNotBook", "(II)I"⟩
abbrev cX12_isSo : ByteArray := prog_14_method_138_code
def yX12_isSo : MethodName := ⟨RX12, "isSo", "(II)Z"⟩
abbrev cX12_laysFirsts : ByteArray := prog_14_method_139_code
def yX12_laysFirsts : MethodName := ⟨RX12, "laysFirsts", "(II)V"⟩
abbrev cX12_firsts : ByteArray := prog_14_method_140_code
def yX12_firsts : MethodName := ⟨RX12, "firsts", "(II)I"⟩
abbrev cX12_ask : ByteArray := prog_14_method_141_code
def yX12_ask : MethodName := ⟨RX12, "ask", "(II)I"⟩
abbrev cX12_leaves : ByteArray := prog_14_method_142_code
def yX12_leaves : MethodName := ⟨RX12, "leaves", "(II)I"⟩
abbrev cX12_joyBy : ByteArray := prog_14_method_143_code
def yX12_joyBy : MethodName := ⟨RX12, "joyBy", "(I)I"⟩
abbrev cX12_laws : ByteArray := prog_14_method_144_code
def yX12_laws : MethodName := ⟨RX12, "laws", "(II)I"⟩
abbrev cX12_by : ByteArray := prog_14_method_145_code
def yX12_by : MethodName := ⟨RX12, "by", "(I)I"⟩
abbrev cX12_law : ByteArray := prog_14_method_146_code
def yX12_law : MethodName := ⟨RX12, "law", "()I"⟩
abbrev cX12_fell : ByteArray := prog_14_method_147_code
def yX12_fell : MethodName := ⟨RX12, "fell", "()I"⟩
abbrev cX12_turnedTo : ByteArray := prog_14_method_148_code
def yX12_turnedTo : MethodName := ⟨RX12, "turnedTo", "(II)I"⟩
abbrev cX12_getsBy : ByteArray := prog_14_method_149_code
def yX12_getsBy : MethodName := ⟨RX12, "getsBy", "(IIIII)I"⟩
abbrev cX12_rests : ByteArray := prog_14_method_150_code
def yX12_rests : MethodName := ⟨RX12, "rests", "(II)I"⟩
abbrev cX12_gets : ByteArray := prog_14_method_151_code
def yX12_gets : MethodName := ⟨RX12, "gets", "(IIII)I"⟩
abbrev cX12_power : ByteArray := prog_14_method_152_code
def yX12_power : MethodName := ⟨RX12, "power", "(JI)J"⟩
abbrev cX12_weightOf : ByteArray := prog_14_method_153_code
def yX12_weightOf : MethodName := ⟨RX12, "weightOf", "(III)J"⟩
abbrev cX12_isSoon : ByteArray := prog_14_method_154_code
def yX12_isSoon : MethodName := ⟨RX12, "isSoon", "(I)Z"⟩
abbrev cX12_chance : ByteArray := prog_14_method_155_code
def yX12_chance : MethodName := ⟨RX12, "chance", "(IIII)I"⟩
abbrev cX12_mean : ByteArray := prog_14_method_156_code
def yX12_mean : MethodName := ⟨RX12, "mean", "(III)J"⟩
abbrev cX12_draws : ByteArray := prog_14_method_157_code
def yX12_draws : MethodName := ⟨RX12, "draws", "(J)V"⟩
abbrev cX12_isSeed : ByteArray := prog_14_method_158_code
def yX12_isSeed : MethodName := ⟨RX12, "isSeed", "(I)Z"⟩
abbrev cX12_drawn : ByteArray := prog_14_method_159_code
def yX12_drawn : MethodName := ⟨RX12, "drawn", "(II)I"⟩
abbrev cX12_luck : ByteArray := prog_14_method_160_code
def yX12_luck : MethodName := ⟨RX12, "luck", "(III)I"⟩
abbrev cX12_does : ByteArray := prog_14_method_161_code
def yX12_does : MethodName := ⟨RX12, "does", "(IIII)V"⟩
abbrev cX12_swap : ByteArray := prog_14_method_162_code
def yX12_swap : MethodName := ⟨RX12, "swap", "(III)I"⟩
abbrev cX12_clear : ByteArray := prog_14_method_163_code
def yX12_clear : MethodName := ⟨RX12, "clear", "(I)I"⟩
abbrev cX12_undo : ByteArray := prog_14_method_164_code
def yX12_undo : MethodName := ⟨RX12, "undo", "()I"⟩
abbrev cX12_anew : ByteArray := prog_14_method_165_code
def yX12_anew : MethodName := ⟨RX12, "anew", "()I"⟩
abbrev cX12_rate : ByteArray := prog_14_method_166_code
def yX12_rate : MethodName := ⟨RX12, "rate", "(II)I"⟩
abbrev cX12_count : ByteArray := prog_14_method_167_code
def yX12_count : MethodName := ⟨RX12, "count", "(I)I"⟩
abbrev cX12_image : ByteArray := prog_14_method_168_code
def yX12_image : MethodName := ⟨RX12, "image", "(I)I"⟩
abbrev cX12_back : ByteArray := prog_14_method_169_code
def yX12_back : MethodName := ⟨RX12, "back", "(I)I"⟩
def RJ6 : String := "java/lang/Integer"
def TJ6 : u_T := fun k => match k with
  | _ => ("", "", "", false)
def tyJ6 : Nat → FieldType := fun k => match k with
  | _ => .int
abbrev wsJ60 : List Cond := u_ws RJ6 TJ6 0
theorem nmJ6 : ∀ a, a < 0 → ∀ b, b < 0 → a ≠ b → (TJ6 a).2.1 ≠ (TJ6 b).2.1 := by decide +kernel
theorem tyJ6_ok : ∀ k, k < 0 → parseFieldDescriptor (TJ6 k).2.2.1 = some (tyJ6 k) := by decide +kernel
abbrev cJ6_bitCount_0f7a4 : ByteArray := prog_15_method_49_code
def yJ6_bitCount_0f7a4 : MethodName := ⟨RJ6, "bitCount", "(I)I"⟩
def RJ9 : String := "java/lang/Math"
def TJ9 : u_T := fun k => match k with
  | _ => ("", "", "", false)
def tyJ9 : Nat → FieldType := fun k => match k with
  | _ => .int
abbrev wsJ90 : List Cond := u_ws RJ9 TJ9 0
theorem nmJ9 : ∀ a, a < 0 → ∀ b, b < 0 → a ≠ b → (TJ9 a).2.1 ≠ (TJ9 b).2.1 := by decide +kernel
theorem tyJ9_ok : ∀ k, k < 0 → parseFieldDescriptor (TJ9 k).2.2.1 = some (tyJ9 k) := by decide +kernel
abbrev cJ9_max_7cf53 : ByteArray := prog_16_method_65_code
def yJ9_max_7cf53 : MethodName := ⟨RJ9, "max", "(II)I"⟩
abbrev cJ9_min_7cf53 : ByteArray := prog_16_method_69_code
def yJ9_min_7cf53 : MethodName := ⟨RJ9, "min", "(II)I"⟩
def RJ0 : String := "java/lang/String"
def TJ0 : u_T := fun k => match k with
  | _ => ("", "", "", false)
def tyJ0 : Nat → FieldType := fun k => match k with
  | _ => .int
abbrev wsJ00 : List Cond := u_ws RJ0 TJ0 0
theorem nmJ0 : ∀ a, a < 0 → ∀ b, b < 0 → a ≠ b → (TJ0 a).2.1 ≠ (TJ0 b).2.1 := by decide +kernel
theorem tyJ0_ok : ∀ k, k < 0 → parseFieldDescriptor (TJ0 k).2.2.1 = some (tyJ0 k) := by decide +kernel
abbrev cJ0_length_8abf5 : ByteArray := prog_17_method_54_code
def yJ0_length_8abf5 : MethodName := ⟨RJ0, "length", "()I"⟩
abbrev cJ0_charAt_5068e : ByteArray := prog_17_method_56_code
def yJ0_charAt_5068e : MethodName := ⟨RJ0, "charAt", "(I)C"⟩
abbrev cJ0_coder_7d493 : ByteArray := prog_17_method_152_code
def yJ0_coder_7d493 : MethodName := ⟨RJ0, "coder", "()B"⟩
abbrev cJ0_isLatin1_aae02 : ByteArray := prog_17_method_154_code
def yJ0_isLatin1_aae02 : MethodName := ⟨RJ0, "isLatin1", "()Z"⟩
abbrev cJ0_checkIndex_df160 : ByteArray := prog_17_method_155_code
def yJ0_checkIndex_df160 : MethodName := ⟨RJ0, "checkIndex", "(II)V"⟩
def RJ1 : String := "java/lang/StringLatin1"
def TJ1 : u_T := fun k => match k with
  | _ => ("", "", "", false)
def tyJ1 : Nat → FieldType := fun k => match k with
  | _ => .int
abbrev wsJ10 : List Cond := u_ws RJ1 TJ1 0
theorem nmJ1 : ∀ a, a < 0 → ∀ b, b < 0 → a ≠ b → (TJ1 a).2.1 ≠ (TJ1 b).2.1 := by decide +kernel
theorem tyJ1_ok : ∀ k, k < 0 → parseFieldDescriptor (TJ1 k).2.2.1 = some (tyJ1 k) := by decide +kernel
abbrev cJ1_charAt_3b067 : ByteArray := prog_18_method_2_code
def yJ1_charAt_3b067 : MethodName := ⟨RJ1, "charAt", "([BI)C"⟩
def RJ2 : String := "java/lang/StringUTF16"
def TJ2 : u_T := fun k => match k with
  | _ => ("", "", "", false)
def tyJ2 : Nat → FieldType := fun k => match k with
  | _ => .int
abbrev wsJ20 : List Cond := u_ws RJ2 TJ2 0
theorem nmJ2 : ∀ a, a < 0 → ∀ b, b < 0 → a ≠ b → (TJ2 a).2.1 ≠ (TJ2 b).2.1 := by decide +kernel
theorem tyJ2_ok : ∀ k, k < 0 → parseFieldDescriptor (TJ2 k).2.2.1 = some (tyJ2 k) := by decide +kernel
abbrev cJ2_getChar_3b067 : ByteArray := prog_19_method_5_code
def yJ2_getChar_3b067 : MethodName := ⟨RJ2, "getChar", "([BI)C"⟩
abbrev cJ2_length_9d52b : ByteArray := prog_19_method_6_code
def yJ2_length_9d52b : MethodName := ⟨RJ2, "length", "([B)I"⟩
abbrev cJ2_charAt_3b067 : ByteArray := prog_19_method_83_code
def yJ2_charAt_3b067 : MethodName := ⟨RJ2, "charAt", "([BI)C"⟩
abbrev cJ2_checkIndex_2214a : ByteArray := prog_19_method_91_code
def yJ2_checkIndex_2214a : MethodName := ⟨RJ2, "checkIndex", "(I[B)V"⟩
def RJ10 : String := "java/lang/System"
def TJ10 : u_T := fun k => match k with
  | _ => ("", "", "", false)
def tyJ10 : Nat → FieldType := fun k => match k with
  | _ => .int
abbrev wsJ100 : List Cond := u_ws RJ10 TJ10 0
theorem nmJ10 : ∀ a, a < 0 → ∀ b, b < 0 → a ≠ b → (TJ10 a).2.1 ≠ (TJ10 b).2.1 := by decide +kernel
theorem tyJ10_ok : ∀ k, k < 0 → parseFieldDescriptor (TJ10 k).2.2.1 = some (tyJ10 k) := by decide +kernel
def RJ3 : String := "jdk/internal/util/Preconditions"
def TJ3 : u_T := fun k => match k with
  | _ => ("", "", "", false)
def tyJ3 : Nat → FieldType := fun k => match k with
  | _ => .int
abbrev wsJ30 : List Cond := u_ws RJ3 TJ3 0
theorem nmJ3 : ∀ a, a < 0 → ∀ b, b < 0 → a ≠ b → (TJ3 a).2.1 ≠ (TJ3 b).2.1 := by decide +kernel
theorem tyJ3_ok : ∀ k, k < 0 → parseFieldDescriptor (TJ3 k).2.2.1 = some (tyJ3 k) := by decide +kernel
abbrev cJ3_checkIndex_8e157 : ByteArray := prog_21_method_11_code
def yJ3_checkIndex_8e157 : MethodName := ⟨RJ3, "checkIndex", "(IILjava/util/function/BiFunction;)I"⟩
def RL : String := "HassockRoofLaw"
abbrev cL_law : ByteArray := code
def yL_law : MethodName := ⟨RL, "law", "([I)Z"⟩
abbrev vwCl : List vw_C := [(RX0, TX0, 4), (RX1, TX1, 4), (RX2, TX2, 3), (RX3, TX3, 3), (RX4, TX4, 3), (RX5, TX5, 10), (RX6, TX6, 11), (RX7, TX7, 6), (RX8, TX8, 7), (RX9, TX9, 3), (RX10, TX10, 4), (RX11, TX11, 15), (RX12, TX12, 45)]
end
section
/-! THE TABLES: by program out of the printed names (wip/whole/gen.py) -/
def sws : List (List Int32) := [[97, 116], [102, 108, 117, 101], [104, 111, 112, 101, 115], [108, 97, 119], [108, 111, 111, 107, 101, 114], [109, 97, 114, 107], [111, 100, 100, 115], [112, 108, 97, 99, 101], [114, 111, 111, 102], [119, 97, 121], [119, 111, 114, 116, 104], [121, 101, 97, 114, 115]]
def slen (i : Nat) : Nat := (sws.getD i []).length
def sch (i k : Nat) : Int32 := (sws.getD i []).getD k 0
/-- Acts.isFull -/
def tb1 : List (Nat × Instr × Nat × List Nat × (Int32 ⊕ Int64)) := [(0, .aload_n 0, 1, [], .inl 0),
  (1, .getfield 21, 3, [0, 3, 0], .inl 0),
  (4, .bipush 30, 2, [], .inl (30)),
  (6, .if_icmp .lt 7, 3, [13], .inl 0),
  (9, .iconst 1, 1, [], .inl (1)),
  (10, .goto 4, 3, [14], .inl 0),
  (13, .iconst 0, 1, [], .inl (0)),
  (14, .ireturn, 1, [1], .inl 0)]
/-- Acts.addExchange -/
def tb2 : List (Nat × Instr × Nat × List Nat × (Int32 ⊕ Int64)) := [(0, .aload_n 0, 1, [], .inl 0),
  (1, .invokevirtual 25, 3, [1, 1, 1, 0], .inl 0),
  (4, .ifCond .ne 43, 3, [47], .inl 0),
  (7, .aload_n 0, 1, [], .inl 0),
  (8, .getfield 9, 3, [0, 0, 15489, 1, 0], .inl 0),
  (11, .aload_n 0, 1, [], .inl 0),
  (12, .getfield 21, 3, [0, 3, 0], .inl 0),
  (15, .iload_n 1, 1, [], .inl 0),
  (16, .iastore, 1, [], .inl 0),
  (17, .aload_n 0, 1, [], .inl 0),
  (18, .getfield 15, 3, [0, 1, 15497, 1, 0], .inl 0),
  (21, .aload_n 0, 1, [], .inl 0),
  (22, .getfield 21, 3, [0, 3, 0], .inl 0),
  (25, .iload_n 2, 1, [], .inl 0),
  (26, .iastore, 1, [], .inl 0),
  (27, .aload_n 0, 1, [], .inl 0),
  (28, .getfield 18, 3, [0, 2, 15505, 1, 0], .inl 0),
  (31, .aload_n 0, 1, [], .inl 0),
  (32, .getfield 21, 3, [0, 3, 0], .inl 0),
  (35, .iload_n 3, 1, [], .inl 0),
  (36, .iastore, 1, [], .inl 0),
  (37, .aload_n 0, 1, [], .inl 0),
  (38, .dup, 1, [], .inl 0),
  (39, .getfield 21, 3, [0, 3, 0], .inl 0),
  (42, .iconst 1, 1, [], .inl (1)),
  (43, .iadd, 1, [], .inl 0),
  (44, .putfield 21, 3, [0, 3, 0], .inl 0),
  (47, .return_, 1, [], .inl 0)]
/-- Acts.addFelling -/
def tb3 : List (Nat × Instr × Nat × List Nat × (Int32 ⊕ Int64)) := [(0, .aload_n 0, 1, [], .inl 0),
  (1, .iload_n 1, 1, [], .inl 0),
  (2, .iconst (-1), 1, [], .inl (-1)),
  (3, .iconst (-1), 1, [], .inl (-1)),
  (4, .invokevirtual 29, 3, [2, 4, 0, 0], .inl 0),
  (7, .return_, 1, [], .inl 0)]
/-- Acts.isFallen -/
def tb4 : List (Nat × Instr × Nat × List Nat × (Int32 ⊕ Int64)) := [(0, .iconst 0, 1, [], .inl (0)),
  (1, .istore_n 2, 1, [], .inl 0),
  (2, .iload_n 2, 1, [], .inl 0),
  (3, .aload_n 0, 1, [], .inl 0),
  (4, .getfield 21, 3, [0, 3, 0], .inl 0),
  (7, .if_icmp .ge 31, 3, [38], .inl 0),
  (10, .aload_n 0, 1, [], .inl 0),
  (11, .getfield 18, 3, [0, 2, 15505, 1, 0], .inl 0),
  (14, .iload_n 2, 1, [], .inl 0),
  (15, .iaload, 1, [], .inl 0),
  (16, .iconst (-1), 1, [], .inl (-1)),
  (17, .if_icmp .ne 15, 3, [32], .inl 0),
  (20, .aload_n 0, 1, [], .inl 0),
  (21, .getfield 9, 3, [0, 0, 15489, 1, 0], .inl 0),
  (24, .iload_n 2, 1, [], .inl 0),
  (25, .iaload, 1, [], .inl 0),
  (26, .iload_n 1, 1, [], .inl 0),
  (27, .if_icmp .ne 5, 3, [32], .inl 0),
  (30, .iconst 1, 1, [], .inl (1)),
  (31, .ireturn, 1, [1], .inl 0),
  (32, .iinc 2 1, 3, [], .inl (1)),
  (35, .goto (-33), 3, [2], .inl 0),
  (38, .iconst 0, 1, [], .inl (0)),
  (39, .ireturn, 1, [1], .inl 0)]
/-- Acts.exchangeIn -/
def tb5 : List (Nat × Instr × Nat × List Nat × (Int32 ⊕ Int64)) := [(0, .iconst 0, 1, [], .inl (0)),
  (1, .istore_n 3, 1, [], .inl 0),
  (2, .iload_n 3, 1, [], .inl 0),
  (3, .aload_n 0, 1, [], .inl 0),
  (4, .getfield 21, 3, [0, 3, 0], .inl 0),
  (7, .if_icmp .ge 35, 3, [42], .inl 0),
  (10, .aload_n 0, 1, [], .inl 0),
  (11, .getfield 18, 3, [0, 2, 15505, 1, 0], .inl 0),
  (14, .iload_n 3, 1, [], .inl 0),
  (15, .iaload, 1, [], .inl 0),
  (16, .iload_n 1, 1, [], .inl 0),
  (17, .if_icmp .ne 19, 3, [36], .inl 0),
  (20, .aload_n 2, 1, [], .inl 0),
  (21, .aload_n 0, 1, [], .inl 0),
  (22, .getfield 9, 3, [0, 0, 15489, 1, 0], .inl 0),
  (25, .iload_n 3, 1, [], .inl 0),
  (26, .iaload, 1, [], .inl 0),
  (27, .aload_n 0, 1, [], .inl 0),
  (28, .getfield 15, 3, [0, 1, 15497, 1, 0], .inl 0),
  (31, .iload_n 3, 1, [], .inl 0),
  (32, .iaload, 1, [], .inl 0),
  (33, .invokestatic 33, 3, [6, 3, 0], .inl 0),
  (36, .iinc 3 1, 3, [], .inl (1)),
  (39, .goto (-37), 3, [2], .inl 0),
  (42, .return_, 1, [], .inl 0)]
/-- Acts.exchange -/
def tb6 : List (Nat × Instr × Nat × List Nat × (Int32 ⊕ Int64)) := [(0, .iload_n 1, 1, [], .inl 0),
  (1, .ifCond .lt 33, 3, [34], .inl 0),
  (4, .iload_n 1, 1, [], .inl 0),
  (5, .aload_n 0, 1, [], .inl 0),
  (6, .arraylength, 1, [], .inl 0),
  (7, .if_icmp .ge 27, 3, [34], .inl 0),
  (10, .iload_n 2, 1, [], .inl 0),
  (11, .ifCond .lt 23, 3, [34], .inl 0),
  (14, .iload_n 2, 1, [], .inl 0),
  (15, .aload_n 0, 1, [], .inl 0),
  (16, .arraylength, 1, [], .inl 0),
  (17, .if_icmp .ge 17, 3, [34], .inl 0),
  (20, .aload_n 0, 1, [], .inl 0),
  (21, .iload_n 1, 1, [], .inl 0),
  (22, .iaload, 1, [], .inl 0),
  (23, .istore_n 3, 1, [], .inl 0),
  (24, .aload_n 0, 1, [], .inl 0),
  (25, .iload_n 1, 1, [], .inl 0),
  (26, .aload_n 0, 1, [], .inl 0),
  (27, .iload_n 2, 1, [], .inl 0),
  (28, .iaload, 1, [], .inl 0),
  (29, .iastore, 1, [], .inl 0),
  (30, .aload_n 0, 1, [], .inl 0),
  (31, .iload_n 2, 1, [], .inl 0),
  (32, .iload_n 3, 1, [], .inl 0),
  (33, .iastore, 1, [], .inl 0),
  (34, .return_, 1, [], .inl 0)]
/-- Acts.copyFrom -/
def tb7 : List (Nat × Instr × Nat × List Nat × (Int32 ⊕ Int64)) := [(0, .aload_n 0, 1, [], .inl 0),
  (1, .iconst 0, 1, [], .inl (0)),
  (2, .putfield 21, 3, [0, 3, 0], .inl 0),
  (5, .iconst 0, 1, [], .inl (0)),
  (6, .istore_n 2, 1, [], .inl 0),
  (7, .iload_n 2, 1, [], .inl 0),
  (8, .aload_n 1, 1, [], .inl 0),
  (9, .getfield 21, 3, [0, 3, 0], .inl 0),
  (12, .if_icmp .ge 31, 3, [43], .inl 0),
  (15, .aload_n 0, 1, [], .inl 0),
  (16, .aload_n 1, 1, [], .inl 0),
  (17, .getfield 9, 3, [0, 0, 15489, 1, 0], .inl 0),
  (20, .iload_n 2, 1, [], .inl 0),
  (21, .iaload, 1, [], .inl 0),
  (22, .aload_n 1, 1, [], .inl 0),
  (23, .getfield 15, 3, [0, 1, 15497, 1, 0], .inl 0),
  (26, .iload_n 2, 1, [], .inl 0),
  (27, .iaload, 1, [], .inl 0),
  (28, .aload_n 1, 1, [], .inl 0),
  (29, .getfield 18, 3, [0, 2, 15505, 1, 0], .inl 0),
  (32, .iload_n 2, 1, [], .inl 0),
  (33, .iaload, 1, [], .inl 0),
  (34, .invokevirtual 29, 3, [2, 4, 0, 0], .inl 0),
  (37, .iinc 2 1, 3, [], .inl (1)),
  (40, .goto (-33), 3, [7], .inl 0),
  (43, .return_, 1, [], .inl 0)]
/-- Book.isRight -/
def tb8 : List (Nat × Instr × Nat × List Nat × (Int32 ⊕ Int64)) := [(0, .aload_n 1, 1, [], .inl 0),
  (1, .getfield 24, 3, [10, 3, 0], .inl 0),
  (4, .iconst 3, 1, [], .inl (3)),
  (5, .irem, 1, [], .inl 0),
  (6, .ifCond .eq 5, 3, [11], .inl 0),
  (9, .iconst 0, 1, [], .inl (0)),
  (10, .ireturn, 1, [1], .inl 0),
  (11, .iconst 0, 1, [], .inl (0)),
  (12, .istore_n 2, 1, [], .inl 0),
  (13, .iload_n 2, 1, [], .inl 0),
  (14, .aload_n 1, 1, [], .inl 0),
  (15, .getfield 24, 3, [10, 3, 0], .inl 0),
  (18, .if_icmp .ge 104, 3, [122], .inl 0),
  (21, .aload_n 1, 1, [], .inl 0),
  (22, .iload_n 2, 1, [], .inl 0),
  (23, .invokevirtual 30, 3, [112, 2, 2, 10], .inl 0),
  (26, .lstore_n 3, 1, [], .inl 0),
  (27, .aload_n 1, 1, [], .inl 0),
  (28, .iload_n 2, 1, [], .inl 0),
  (29, .iconst 1, 1, [], .inl (1)),
  (30, .iadd, 1, [], .inl 0),
  (31, .invokevirtual 30, 3, [112, 2, 2, 10], .inl 0),
  (34, .lstore 5, 2, [], .inl 0),
  (36, .aload_n 1, 1, [], .inl 0),
  (37, .iload_n 2, 1, [], .inl 0),
  (38, .iconst 2, 1, [], .inl (2)),
  (39, .iadd, 1, [], .inl 0),
  (40, .invokevirtual 30, 3, [112, 2, 2, 10], .inl 0),
  (43, .lstore 7, 2, [], .inl 0),
  (45, .lload_n 3, 1, [], .inl 0),
  (46, .lconst 0, 1, [], .inr (0)),
  (47, .lcmp, 1, [], .inl 0),
  (48, .ifCond .lt 58, 3, [106], .inl 0),
  (51, .lload_n 3, 1, [], .inl 0),
  (52, .aload_n 0, 1, [], .inl 0),
  (53, .getfield 16, 3, [1, 0, 48, 0, 0], .inl 0),
  (56, .getfield 34, 3, [6, 0, 0], .inl 0),
  (59, .i2l, 1, [], .inl 0),
  (60, .lcmp, 1, [], .inl 0),
  (61, .ifCond .gt 45, 3, [106], .inl 0),
  (64, .lload 5, 2, [], .inl 0),
  (66, .lconst 0, 1, [], .inr (0)),
  (67, .lcmp, 1, [], .inl 0),
  (68, .ifCond .lt 38, 3, [106], .inl 0),
  (71, .lload 5, 2, [], .inl 0),
  (73, .aload_n 0, 1, [], .inl 0),
  (74, .getfield 16, 3, [1, 0, 48, 0, 0], .inl 0),
  (77, .getfield 39, 3, [6, 5, 32, 2, 1], .inl 0),
  (80, .getfield 43, 3, [4, 2, 0], .inl 0),
  (83, .i2l, 1, [], .inl 0),
  (84, .lcmp, 1, [], .inl 0),
  (85, .ifCond .ge 21, 3, [106], .inl 0),
  (88, .lload 7, 2, [], .inl 0),
  (90, .lconst 0, 1, [], .inr (0)),
  (91, .lcmp, 1, [], .inl 0),
  (92, .ifCond .lt 14, 3, [106], .inl 0),
  (95, .lload 7, 2, [], .inl 0),
  (97, .lconst 1, 1, [], .inr (1)),
  (98, .lcmp, 1, [], .inl 0),
  (99, .ifCond .gt 7, 3, [106], .inl 0),
  (102, .iconst 1, 1, [], .inl (1)),
  (103, .goto 4, 3, [107], .inl 0),
  (106, .iconst 0, 1, [], .inl (0)),
  (107, .istore 9, 2, [], .inl 0),
  (109, .iload 9, 2, [], .inl 0),
  (111, .ifCond .ne 5, 3, [116], .inl 0),
  (114, .iconst 0, 1, [], .inl (0)),
  (115, .ireturn, 1, [1], .inl 0),
  (116, .iinc 2 3, 3, [], .inl (3)),
  (119, .goto (-106), 3, [13, 3, 5, 7, 9], .inl 0),
  (122, .iconst 1, 1, [], .inl (1)),
  (123, .ireturn, 1, [1], .inl 0)]
/-- Book.firstPlaces -/
def tb9 : List (Nat × Instr × Nat × List Nat × (Int32 ⊕ Int64)) := [(0, .iconst 0, 1, [], .inl (0)),
  (1, .istore_n 3, 1, [], .inl 0),
  (2, .iconst 0, 1, [], .inl (0)),
  (3, .istore 4, 2, [], .inl 0),
  (5, .iload 4, 2, [], .inl 0),
  (7, .aload_n 0, 1, [], .inl 0),
  (8, .getfield 16, 3, [1, 0, 48, 0, 0], .inl 0),
  (11, .getfield 46, 3, [6, 4, 32, 2, 0], .inl 0),
  (14, .getfield 43, 3, [4, 2, 0], .inl 0),
  (17, .if_icmp .ge 27, 3, [44], .inl 0),
  (20, .aload_n 0, 1, [], .inl 0),
  (21, .aload_n 1, 1, [], .inl 0),
  (22, .iload_n 2, 1, [], .inl 0),
  (23, .iload 4, 2, [], .inl 0),
  (25, .invokevirtual 49, 3, [15, 4, 1, 1], .inl 0),
  (28, .ifCond .eq 10, 3, [38], .inl 0),
  (31, .iload_n 3, 1, [], .inl 0),
  (32, .iconst 1, 1, [], .inl (1)),
  (33, .iload 4, 2, [], .inl 0),
  (35, .ishl, 1, [], .inl 0),
  (36, .ior, 1, [], .inl 0),
  (37, .istore_n 3, 1, [], .inl 0),
  (38, .iinc 4 1, 3, [], .inl (1)),
  (41, .goto (-36), 3, [5], .inl 0),
  (44, .iload_n 3, 1, [], .inl 0),
  (45, .ireturn, 1, [], .inl 0)]
/-- Book.lawsThatAgree -/
def tb10 : List (Nat × Instr × Nat × List Nat × (Int32 ⊕ Int64)) := [(0, .iconst 0, 1, [], .inl (0)),
  (1, .istore_n 3, 1, [], .inl 0),
  (2, .iconst 0, 1, [], .inl (0)),
  (3, .istore 4, 2, [], .inl 0),
  (5, .iload 4, 2, [], .inl 0),
  (7, .iconst 4, 1, [], .inl (4)),
  (8, .if_icmp .ge 42, 3, [50], .inl 0),
  (11, .aload_n 0, 1, [], .inl 0),
  (12, .getfield 20, 3, [1, 1, 24, 0, 1], .inl 0),
  (15, .invokevirtual 53, 3, [23, 1, 0, 3], .inl 0),
  (18, .aload_n 0, 1, [], .inl 0),
  (19, .getfield 20, 3, [1, 1, 24, 0, 1], .inl 0),
  (22, .iload 4, 2, [], .inl 0),
  (24, .iconst (-1), 1, [], .inl (-1)),
  (25, .invokevirtual 58, 3, [25, 3, 0, 3], .inl 0),
  (28, .aload_n 0, 1, [], .inl 0),
  (29, .aload_n 1, 1, [], .inl 0),
  (30, .iload_n 2, 1, [], .inl 0),
  (31, .invokevirtual 62, 3, [16, 3, 1, 1], .inl 0),
  (34, .ifCond .eq 10, 3, [44], .inl 0),
  (37, .iload_n 3, 1, [], .inl 0),
  (38, .iconst 1, 1, [], .inl (1)),
  (39, .iload 4, 2, [], .inl 0),
  (41, .ishl, 1, [], .inl 0),
  (42, .ior, 1, [], .inl 0),
  (43, .istore_n 3, 1, [], .inl 0),
  (44, .iinc 4 1, 3, [], .inl (1)),
  (47, .goto (-42), 3, [5], .inl 0),
  (50, .iload_n 3, 1, [], .inl 0),
  (51, .ireturn, 1, [], .inl 0)]
/-- Book.tallyYears -/
def tb11 : List (Nat × Instr × Nat × List Nat × (Int32 ⊕ Int64)) := [(0, .aload_n 0, 1, [], .inl 0),
  (1, .iconst 0, 1, [], .inl (0)),
  (2, .putfield 66, 3, [1, 3, 0], .inl 0),
  (5, .iconst 0, 1, [], .inl (0)),
  (6, .istore_n 3, 1, [], .inl 0),
  (7, .iload_n 3, 1, [], .inl 0),
  (8, .bipush 12, 2, [], .inl (12)),
  (10, .if_icmp .gt 35, 3, [45], .inl 0),
  (13, .iconst 0, 1, [], .inl (0)),
  (14, .istore 4, 2, [], .inl 0),
  (16, .iload 4, 2, [], .inl 0),
  (18, .bipush 6, 2, [], .inl (6)),
  (20, .if_icmp .ge 19, 3, [39], .inl 0),
  (23, .aload_n 0, 1, [], .inl 0),
  (24, .getfield 11, 3, [1, 2, 6941, 0, 0], .inl 0),
  (27, .iload_n 3, 1, [], .inl 0),
  (28, .aaload, 1, [], .inl 0),
  (29, .iload 4, 2, [], .inl 0),
  (31, .iconst 0, 1, [], .inl (0)),
  (32, .iastore, 1, [], .inl 0),
  (33, .iinc 4 1, 3, [], .inl (1)),
  (36, .goto (-20), 3, [16], .inl 0),
  (39, .iinc 3 1, 3, [], .inl (1)),
  (42, .goto (-35), 3, [7, 4], .inl 0),
  (45, .iconst 0, 1, [], .inl (0)),
  (46, .istore_n 3, 1, [], .inl 0),
  (47, .iload_n 3, 1, [], .inl 0),
  (48, .aload_n 0, 1, [], .inl 0),
  (49, .getfield 16, 3, [1, 0, 48, 0, 0], .inl 0),
  (52, .getfield 46, 3, [6, 4, 32, 2, 0], .inl 0),
  (55, .getfield 43, 3, [4, 2, 0], .inl 0),
  (58, .if_icmp .ge 34, 3, [92], .inl 0),
  (61, .aload_n 0, 1, [], .inl 0),
  (62, .aload_n 1, 1, [], .inl 0),
  (63, .iload_n 2, 1, [], .inl 0),
  (64, .iload_n 3, 1, [], .inl 0),
  (65, .invokevirtual 49, 3, [15, 4, 1, 1], .inl 0),
  (68, .ifCond .eq 18, 3, [86], .inl 0),
  (71, .aload_n 0, 1, [], .inl 0),
  (72, .dup, 1, [], .inl 0),
  (73, .getfield 66, 3, [1, 3, 0], .inl 0),
  (76, .iconst 1, 1, [], .inl (1)),
  (77, .iadd, 1, [], .inl 0),
  (78, .putfield 66, 3, [1, 3, 0], .inl 0),
  (81, .aload_n 0, 1, [], .inl 0),
  (82, .iload_n 2, 1, [], .inl 0),
  (83, .invokevirtual 69, 3, [12, 2, 0, 1], .inl 0),
  (86, .iinc 3 1, 3, [], .inl (1)),
  (89, .goto (-42), 3, [47], .inl 0),
  (92, .return_, 1, [], .inl 0)]
/-- Book.tallyCourse -/
def tb12 : List (Nat × Instr × Nat × List Nat × (Int32 ⊕ Int64)) := [(0, .iconst 0, 1, [], .inl (0)),
  (1, .istore_n 2, 1, [], .inl 0),
  (2, .iload_n 2, 1, [], .inl 0),
  (3, .aload_n 0, 1, [], .inl 0),
  (4, .getfield 16, 3, [1, 0, 48, 0, 0], .inl 0),
  (7, .getfield 34, 3, [6, 0, 0], .inl 0),
  (10, .if_icmp .gt 47, 3, [57], .inl 0),
  (13, .iload_n 2, 1, [], .inl 0),
  (14, .bipush 12, 2, [], .inl (12)),
  (16, .if_icmp .gt 41, 3, [57], .inl 0),
  (19, .aload_n 0, 1, [], .inl 0),
  (20, .getfield 20, 3, [1, 1, 24, 0, 1], .inl 0),
  (23, .iload_n 1, 1, [], .inl 0),
  (24, .iload_n 2, 1, [], .inl 0),
  (25, .invokevirtual 73, 3, [35, 3, 1, 3], .inl 0),
  (28, .istore_n 3, 1, [], .inl 0),
  (29, .iload_n 3, 1, [], .inl 0),
  (30, .ifCond .lt 21, 3, [51], .inl 0),
  (33, .iload_n 3, 1, [], .inl 0),
  (34, .bipush 6, 2, [], .inl (6)),
  (36, .if_icmp .ge 15, 3, [51], .inl 0),
  (39, .aload_n 0, 1, [], .inl 0),
  (40, .getfield 11, 3, [1, 2, 6941, 0, 0], .inl 0),
  (43, .iload_n 2, 1, [], .inl 0),
  (44, .aaload, 1, [], .inl 0),
  (45, .iload_n 3, 1, [], .inl 0),
  (46, .dup2, 1, [], .inl 0),
  (47, .iaload, 1, [], .inl 0),
  (48, .iconst 1, 1, [], .inl (1)),
  (49, .iadd, 1, [], .inl 0),
  (50, .iastore, 1, [], .inl 0),
  (51, .iinc 2 1, 3, [], .inl (1)),
  (54, .goto (-52), 3, [2, 3], .inl 0),
  (57, .return_, 1, [], .inl 0)]
/-- Book.yearToAsk -/
def tb13 : List (Nat × Instr × Nat × List Nat × (Int32 ⊕ Int64)) := [(0, .iconst (-1), 1, [], .inl (-1)),
  (1, .istore_n 1, 1, [], .inl 0),
  (2, .aload_n 0, 1, [], .inl 0),
  (3, .getfield 66, 3, [1, 3, 0], .inl 0),
  (6, .istore_n 2, 1, [], .inl 0),
  (7, .iconst 0, 1, [], .inl (0)),
  (8, .istore_n 3, 1, [], .inl 0),
  (9, .iload_n 3, 1, [], .inl 0),
  (10, .aload_n 0, 1, [], .inl 0),
  (11, .getfield 16, 3, [1, 0, 48, 0, 0], .inl 0),
  (14, .getfield 34, 3, [6, 0, 0], .inl 0),
  (17, .if_icmp .gt 26, 3, [43], .inl 0),
  (20, .aload_n 0, 1, [], .inl 0),
  (21, .iload_n 3, 1, [], .inl 0),
  (22, .invokevirtual 77, 3, [14, 2, 1, 1], .inl 0),
  (25, .iload_n 2, 1, [], .inl 0),
  (26, .if_icmp .ge 11, 3, [37], .inl 0),
  (29, .iload_n 3, 1, [], .inl 0),
  (30, .istore_n 1, 1, [], .inl 0),
  (31, .aload_n 0, 1, [], .inl 0),
  (32, .iload_n 3, 1, [], .inl 0),
  (33, .invokevirtual 77, 3, [14, 2, 1, 1], .inl 0),
  (36, .istore_n 2, 1, [], .inl 0),
  (37, .iinc 3 1, 3, [], .inl (1)),
  (40, .goto (-31), 3, [9], .inl 0),
  (43, .iload_n 1, 1, [], .inl 0),
  (44, .ireturn, 1, [], .inl 0)]
/-- Book.worstIn -/
def tb14 : List (Nat × Instr × Nat × List Nat × (Int32 ⊕ Int64)) := [(0, .iconst 0, 1, [], .inl (0)),
  (1, .istore_n 2, 1, [], .inl 0),
  (2, .iconst 0, 1, [], .inl (0)),
  (3, .istore_n 3, 1, [], .inl 0),
  (4, .iload_n 3, 1, [], .inl 0),
  (5, .bipush 6, 2, [], .inl (6)),
  (7, .if_icmp .ge 32, 3, [39], .inl 0),
  (10, .iload_n 1, 1, [], .inl 0),
  (11, .ifCond .lt 22, 3, [33], .inl 0),
  (14, .iload_n 1, 1, [], .inl 0),
  (15, .bipush 12, 2, [], .inl (12)),
  (17, .if_icmp .gt 16, 3, [33], .inl 0),
  (20, .iload_n 2, 1, [], .inl 0),
  (21, .aload_n 0, 1, [], .inl 0),
  (22, .getfield 11, 3, [1, 2, 6941, 0, 0], .inl 0),
  (25, .iload_n 1, 1, [], .inl 0),
  (26, .aaload, 1, [], .inl 0),
  (27, .iload_n 3, 1, [], .inl 0),
  (28, .iaload, 1, [], .inl 0),
  (29, .invokestatic 81, 3, [3], .inl 0),
  (32, .istore_n 2, 1, [], .inl 0),
  (33, .iinc 3 1, 3, [], .inl (1)),
  (36, .goto (-32), 3, [4], .inl 0),
  (39, .iload_n 2, 1, [], .inl 0),
  (40, .ireturn, 1, [], .inl 0)]
/-- Book.canHaveBeen -/
def tb15 : List (Nat × Instr × Nat × List Nat × (Int32 ⊕ Int64)) := [(0, .aload_n 0, 1, [], .inl 0),
  (1, .getfield 20, 3, [1, 1, 24, 0, 1], .inl 0),
  (4, .iload_n 2, 1, [], .inl 0),
  (5, .iload_n 3, 1, [], .inl 0),
  (6, .invokevirtual 86, 3, [24, 3, 0, 3], .inl 0),
  (9, .aload_n 0, 1, [], .inl 0),
  (10, .getfield 20, 3, [1, 1, 24, 0, 1], .inl 0),
  (13, .aload_n 0, 1, [], .inl 0),
  (14, .getfield 16, 3, [1, 0, 48, 0, 0], .inl 0),
  (17, .getfield 89, 3, [6, 1, 0], .inl 0),
  (20, .iconst (-1), 1, [], .inl (-1)),
  (21, .invokevirtual 58, 3, [25, 3, 0, 3], .inl 0),
  (24, .aload_n 0, 1, [], .inl 0),
  (25, .aload_n 1, 1, [], .inl 0),
  (26, .iload_n 2, 1, [], .inl 0),
  (27, .invokevirtual 62, 3, [16, 3, 1, 1], .inl 0),
  (30, .ireturn, 1, [1], .inl 0)]
/-- Book.agrees -/
def tb16 : List (Nat × Instr × Nat × List Nat × (Int32 ⊕ Int64)) := [(0, .iconst 0, 1, [], .inl (0)),
  (1, .istore_n 3, 1, [], .inl 0),
  (2, .iload_n 3, 1, [], .inl 0),
  (3, .aload_n 1, 1, [], .inl 0),
  (4, .getfield 24, 3, [10, 3, 0], .inl 0),
  (7, .if_icmp .ge 56, 3, [63], .inl 0),
  (10, .aload_n 0, 1, [], .inl 0),
  (11, .getfield 20, 3, [1, 1, 24, 0, 1], .inl 0),
  (14, .iload_n 2, 1, [], .inl 0),
  (15, .aload_n 1, 1, [], .inl 0),
  (16, .iload_n 3, 1, [], .inl 0),
  (17, .invokevirtual 30, 3, [112, 2, 2, 10], .inl 0),
  (20, .l2i, 1, [], .inl 0),
  (21, .invokevirtual 92, 3, [37, 3, 1, 3], .inl 0),
  (24, .istore 4, 2, [], .inl 0),
  (26, .aload_n 1, 1, [], .inl 0),
  (27, .iload_n 3, 1, [], .inl 0),
  (28, .iconst 1, 1, [], .inl (1)),
  (29, .iadd, 1, [], .inl 0),
  (30, .invokevirtual 30, 3, [112, 2, 2, 10], .inl 0),
  (33, .l2i, 1, [], .inl 0),
  (34, .istore 5, 2, [], .inl 0),
  (36, .iload 4, 2, [], .inl 0),
  (38, .iload 5, 2, [], .inl 0),
  (40, .ishr, 1, [], .inl 0),
  (41, .iconst 1, 1, [], .inl (1)),
  (42, .iand, 1, [], .inl 0),
  (43, .i2l, 1, [], .inl 0),
  (44, .aload_n 1, 1, [], .inl 0),
  (45, .iload_n 3, 1, [], .inl 0),
  (46, .iconst 2, 1, [], .inl (2)),
  (47, .iadd, 1, [], .inl 0),
  (48, .invokevirtual 30, 3, [112, 2, 2, 10], .inl 0),
  (51, .lcmp, 1, [], .inl 0),
  (52, .ifCond .eq 5, 3, [57], .inl 0),
  (55, .iconst 0, 1, [], .inl (0)),
  (56, .ireturn, 1, [1], .inl 0),
  (57, .iinc 3 3, 3, [], .inl (3)),
  (60, .goto (-58), 3, [2, 4, 5], .inl 0),
  (63, .iconst 1, 1, [], .inl (1)),
  (64, .ireturn, 1, [1], .inl 0)]
/-- Chances.tenTo -/
def tb17 : List (Nat × Instr × Nat × List Nat × (Int32 ⊕ Int64)) := [(0, .lconst 1, 1, [], .inr (1)),
  (1, .lstore_n 1, 1, [], .inl 0),
  (2, .iconst 0, 1, [], .inl (0)),
  (3, .istore_n 3, 1, [], .inl 0),
  (4, .iload_n 3, 1, [], .inl 0),
  (5, .iload_n 0, 1, [], .inl 0),
  (6, .if_icmp .ge 21, 3, [27], .inl 0),
  (9, .iload_n 3, 1, [], .inl 0),
  (10, .bipush 8, 2, [], .inl (8)),
  (12, .if_icmp .ge 15, 3, [27], .inl 0),
  (15, .lload_n 1, 1, [], .inl 0),
  (16, .ldc2_w 23, 3, [], .inr (10)),
  (19, .lmul, 1, [], .inl 0),
  (20, .lstore_n 1, 1, [], .inl 0),
  (21, .iinc 3 1, 3, [], .inl (1)),
  (24, .goto (-20), 3, [4], .inl 0),
  (27, .lload_n 1, 1, [], .inl 0),
  (28, .lreturn, 1, [], .inl 0)]
/-- Chances.weigh -/
def tb18 : List (Nat × Instr × Nat × List Nat × (Int32 ⊕ Int64)) := [(0, .iconst 0, 1, [], .inl (0)),
  (1, .istore_n 3, 1, [], .inl 0),
  (2, .iload_n 3, 1, [], .inl 0),
  (3, .bipush 6, 2, [], .inl (6)),
  (5, .if_icmp .ge 16, 3, [21], .inl 0),
  (8, .aload_n 0, 1, [], .inl 0),
  (9, .getfield 9, 3, [2, 2, 3346, 0, 0], .inl 0),
  (12, .iload_n 3, 1, [], .inl 0),
  (13, .lconst 0, 1, [], .inr (0)),
  (14, .lastore, 1, [], .inl 0),
  (15, .iinc 3 1, 3, [], .inl (1)),
  (18, .goto (-16), 3, [2], .inl 0),
  (21, .aload_n 0, 1, [], .inl 0),
  (22, .getfield 19, 3, [2, 1, 24, 0, 1], .inl 0),
  (25, .invokevirtual 25, 3, [23, 1, 0, 3], .inl 0),
  (28, .aload_n 0, 1, [], .inl 0),
  (29, .getfield 19, 3, [2, 1, 24, 0, 1], .inl 0),
  (32, .iconst 0, 1, [], .inl (0)),
  (33, .invokevirtual 30, 3, [26, 2, 0, 3], .inl 0),
  (36, .aload_n 0, 1, [], .inl 0),
  (37, .iload_n 1, 1, [], .inl 0),
  (38, .iconst 0, 1, [], .inl (0)),
  (39, .iload_n 2, 1, [], .inl 0),
  (40, .bipush 8, 2, [], .inl (8)),
  (42, .invokestatic 34, 3, [4], .inl 0),
  (45, .lconst 1, 1, [], .inr (1)),
  (46, .invokevirtual 40, 3, [19, 5, 0, 2], .inl 0),
  (49, .return_, 1, [], .inl 0)]
/-- Chances.branch -/
def tb19 : List (Nat × Instr × Nat × List Nat × (Int32 ⊕ Int64)) := [(0, .lload 4, 2, [], .inl 0),
  (2, .lconst 0, 1, [], .inr (0)),
  (3, .lcmp, 1, [], .inl 0),
  (4, .ifCond .ne 4, 3, [8], .inl 0),
  (7, .return_, 1, [], .inl 0),
  (8, .iload_n 2, 1, [], .inl 0),
  (9, .iload_n 3, 1, [], .inl 0),
  (10, .if_icmp .lt 19, 3, [29], .inl 0),
  (13, .aload_n 0, 1, [], .inl 0),
  (14, .aload_n 0, 1, [], .inl 0),
  (15, .getfield 19, 3, [2, 1, 24, 0, 1], .inl 0),
  (18, .iload_n 1, 1, [], .inl 0),
  (19, .iload_n 2, 1, [], .inl 0),
  (20, .invokevirtual 44, 3, [35, 3, 1, 3], .inl 0),
  (23, .lload 4, 2, [], .inl 0),
  (25, .invokevirtual 47, 3, [20, 3, 0, 2], .inl 0),
  (28, .return_, 1, [], .inl 0),
  (29, .aload_n 0, 1, [], .inl 0),
  (30, .getfield 19, 3, [2, 1, 24, 0, 1], .inl 0),
  (33, .iload_n 2, 1, [], .inl 0),
  (34, .invokevirtual 51, 3, [27, 2, 0, 3], .inl 0),
  (37, .aload_n 0, 1, [], .inl 0),
  (38, .getfield 19, 3, [2, 1, 24, 0, 1], .inl 0),
  (41, .iload_n 2, 1, [], .inl 0),
  (42, .iconst 1, 1, [], .inl (1)),
  (43, .iadd, 1, [], .inl 0),
  (44, .invokevirtual 30, 3, [26, 2, 0, 3], .inl 0),
  (47, .aload_n 0, 1, [], .inl 0),
  (48, .iload_n 1, 1, [], .inl 0),
  (49, .iload_n 2, 1, [], .inl 0),
  (50, .iconst 1, 1, [], .inl (1)),
  (51, .iadd, 1, [], .inl 0),
  (52, .iload_n 3, 1, [], .inl 0),
  (53, .lload 4, 2, [], .inl 0),
  (55, .bipush 10, 2, [], .inl (10)),
  (57, .aload_n 0, 1, [], .inl 0),
  (58, .getfield 15, 3, [2, 0, 48, 0, 0], .inl 0),
  (61, .getfield 54, 3, [6, 2, 0], .inl 0),
  (64, .isub, 1, [], .inl 0),
  (65, .i2l, 1, [], .inl 0),
  (66, .lmul, 1, [], .inl 0),
  (67, .invokevirtual 40, 3, [19, 5, 0, 2], .inl 0),
  (70, .aload_n 0, 1, [], .inl 0),
  (71, .getfield 19, 3, [2, 1, 24, 0, 1], .inl 0),
  (74, .iload_n 2, 1, [], .inl 0),
  (75, .aload_n 0, 1, [], .inl 0),
  (76, .getfield 15, 3, [2, 0, 48, 0, 0], .inl 0),
  (79, .getfield 60, 3, [6, 1, 0], .inl 0),
  (82, .invokevirtual 63, 3, [28, 3, 0, 3], .inl 0),
  (85, .aload_n 0, 1, [], .inl 0),
  (86, .getfield 19, 3, [2, 1, 24, 0, 1], .inl 0),
  (89, .iload_n 2, 1, [], .inl 0),
  (90, .iconst 1, 1, [], .inl (1)),
  (91, .iadd, 1, [], .inl 0),
  (92, .invokevirtual 30, 3, [26, 2, 0, 3], .inl 0),
  (95, .aload_n 0, 1, [], .inl 0),
  (96, .iload_n 1, 1, [], .inl 0),
  (97, .iload_n 2, 1, [], .inl 0),
  (98, .iconst 1, 1, [], .inl (1)),
  (99, .iadd, 1, [], .inl 0),
  (100, .iload_n 3, 1, [], .inl 0),
  (101, .lload 4, 2, [], .inl 0),
  (103, .aload_n 0, 1, [], .inl 0),
  (104, .getfield 15, 3, [2, 0, 48, 0, 0], .inl 0),
  (107, .getfield 54, 3, [6, 2, 0], .inl 0),
  (110, .i2l, 1, [], .inl 0),
  (111, .lmul, 1, [], .inl 0),
  (112, .invokevirtual 40, 3, [19, 5, 0, 2], .inl 0),
  (115, .return_, 1, [], .inl 0)]
/-- Chances.addWeight -/
def tb20 : List (Nat × Instr × Nat × List Nat × (Int32 ⊕ Int64)) := [(0, .iload_n 1, 1, [], .inl 0),
  (1, .ifCond .lt 19, 3, [20], .inl 0),
  (4, .iload_n 1, 1, [], .inl 0),
  (5, .bipush 6, 2, [], .inl (6)),
  (7, .if_icmp .ge 13, 3, [20], .inl 0),
  (10, .aload_n 0, 1, [], .inl 0),
  (11, .getfield 9, 3, [2, 2, 3346, 0, 0], .inl 0),
  (14, .iload_n 1, 1, [], .inl 0),
  (15, .dup2, 1, [], .inl 0),
  (16, .laload, 1, [], .inl 0),
  (17, .lload_n 2, 1, [], .inl 0),
  (18, .ladd, 1, [], .inl 0),
  (19, .lastore, 1, [], .inl 0),
  (20, .return_, 1, [], .inl 0)]
/-- Chances.weightOf -/
def tb21 : List (Nat × Instr × Nat × List Nat × (Int32 ⊕ Int64)) := [(0, .iload_n 1, 1, [], .inl 0),
  (1, .ifCond .lt 18, 3, [19], .inl 0),
  (4, .iload_n 1, 1, [], .inl 0),
  (5, .bipush 6, 2, [], .inl (6)),
  (7, .if_icmp .ge 12, 3, [19], .inl 0),
  (10, .aload_n 0, 1, [], .inl 0),
  (11, .getfield 9, 3, [2, 2, 3346, 0, 0], .inl 0),
  (14, .iload_n 1, 1, [], .inl 0),
  (15, .laload, 1, [], .inl 0),
  (16, .goto 4, 3, [20], .inl 0),
  (19, .lconst 0, 1, [], .inr (0)),
  (20, .lreturn, 1, [], .inl 0)]
/-- Chances.drawYears -/
def tb22 : List (Nat × Instr × Nat × List Nat × (Int32 ⊕ Int64)) := [(0, .iload_n 1, 1, [], .inl 0),
  (1, .i2l, 1, [], .inl 0),
  (2, .lstore_n 2, 1, [], .inl 0),
  (3, .iconst 0, 1, [], .inl (0)),
  (4, .istore 4, 2, [], .inl 0),
  (6, .iconst 0, 1, [], .inl (0)),
  (7, .istore 5, 2, [], .inl 0),
  (9, .iload 5, 2, [], .inl 0),
  (11, .aload_n 0, 1, [], .inl 0),
  (12, .getfield 15, 3, [2, 0, 48, 0, 0], .inl 0),
  (15, .getfield 67, 3, [6, 0, 0], .inl 0),
  (18, .if_icmp .ge 53, 3, [71], .inl 0),
  (21, .ldc2_w 70, 3, [], .inr (1103515245)),
  (24, .lload_n 2, 1, [], .inl 0),
  (25, .lmul, 1, [], .inl 0),
  (26, .ldc2_w 72, 3, [], .inr (12345)),
  (29, .ladd, 1, [], .inl 0),
  (30, .ldc2_w 74, 3, [], .inr (2147483647)),
  (33, .land, 1, [], .inl 0),
  (34, .lstore_n 2, 1, [], .inl 0),
  (35, .lload_n 2, 1, [], .inl 0),
  (36, .ldc2_w 76, 3, [], .inr (65536)),
  (39, .ldiv, 1, [], .inl 0),
  (40, .ldc2_w 23, 3, [], .inr (10)),
  (43, .lrem, 1, [], .inl 0),
  (44, .aload_n 0, 1, [], .inl 0),
  (45, .getfield 15, 3, [2, 0, 48, 0, 0], .inl 0),
  (48, .getfield 54, 3, [6, 2, 0], .inl 0),
  (51, .i2l, 1, [], .inl 0),
  (52, .lcmp, 1, [], .inl 0),
  (53, .ifCond .ge 12, 3, [65], .inl 0),
  (56, .iload 4, 2, [], .inl 0),
  (58, .iconst 1, 1, [], .inl (1)),
  (59, .iload 5, 2, [], .inl 0),
  (61, .ishl, 1, [], .inl 0),
  (62, .ior, 1, [], .inl 0),
  (63, .istore 4, 2, [], .inl 0),
  (65, .iinc 5 1, 3, [], .inl (1)),
  (68, .goto (-59), 3, [9], .inl 0),
  (71, .iload 4, 2, [], .inl 0),
  (73, .ireturn, 1, [], .inl 0)]
/-- Course.startAsTold -/
def tb23 : List (Nat × Instr × Nat × List Nat × (Int32 ⊕ Int64)) := [(0, .iconst 0, 1, [], .inl (0)),
  (1, .istore_n 1, 1, [], .inl 0),
  (2, .iload_n 1, 1, [], .inl 0),
  (3, .aload_n 0, 1, [], .inl 0),
  (4, .getfield 16, 3, [3, 0, 48, 0, 0], .inl 0),
  (7, .getfield 24, 3, [6, 9, 32, 2, 4], .inl 0),
  (10, .getfield 30, 3, [4, 2, 0], .inl 0),
  (13, .if_icmp .ge 28, 3, [41], .inl 0),
  (16, .aload_n 0, 1, [], .inl 0),
  (17, .getfield 11, 3, [3, 2, 6869, 1, 0], .inl 0),
  (20, .iconst 0, 1, [], .inl (0)),
  (21, .aaload, 1, [], .inl 0),
  (22, .iload_n 1, 1, [], .inl 0),
  (23, .aload_n 0, 1, [], .inl 0),
  (24, .getfield 16, 3, [3, 0, 48, 0, 0], .inl 0),
  (27, .getfield 24, 3, [6, 9, 32, 2, 4], .inl 0),
  (30, .iload_n 1, 1, [], .inl 0),
  (31, .invokevirtual 36, 3, [47, 2, 1, 4], .inl 0),
  (34, .iastore, 1, [], .inl 0),
  (35, .iinc 1 1, 3, [], .inl (1)),
  (38, .goto (-36), 3, [2], .inl 0),
  (41, .return_, 1, [], .inl 0)]
/-- Course.startWith -/
def tb24 : List (Nat × Instr × Nat × List Nat × (Int32 ⊕ Int64)) := [(0, .aload_n 0, 1, [], .inl 0),
  (1, .getfield 16, 3, [3, 0, 48, 0, 0], .inl 0),
  (4, .getfield 24, 3, [6, 9, 32, 2, 4], .inl 0),
  (7, .iload_n 1, 1, [], .inl 0),
  (8, .invokevirtual 36, 3, [47, 2, 1, 4], .inl 0),
  (11, .istore_n 3, 1, [], .inl 0),
  (12, .iconst 0, 1, [], .inl (0)),
  (13, .istore 4, 2, [], .inl 0),
  (15, .iload 4, 2, [], .inl 0),
  (17, .aload_n 0, 1, [], .inl 0),
  (18, .getfield 16, 3, [3, 0, 48, 0, 0], .inl 0),
  (21, .getfield 24, 3, [6, 9, 32, 2, 4], .inl 0),
  (24, .getfield 30, 3, [4, 2, 0], .inl 0),
  (27, .if_icmp .ge 54, 3, [81], .inl 0),
  (30, .aload_n 0, 1, [], .inl 0),
  (31, .getfield 16, 3, [3, 0, 48, 0, 0], .inl 0),
  (34, .getfield 24, 3, [6, 9, 32, 2, 4], .inl 0),
  (37, .iload 4, 2, [], .inl 0),
  (39, .invokevirtual 36, 3, [47, 2, 1, 4], .inl 0),
  (42, .istore 5, 2, [], .inl 0),
  (44, .aload_n 0, 1, [], .inl 0),
  (45, .getfield 11, 3, [3, 2, 6869, 1, 0], .inl 0),
  (48, .iconst 0, 1, [], .inl (0)),
  (49, .aaload, 1, [], .inl 0),
  (50, .iload 4, 2, [], .inl 0),
  (52, .iload 4, 2, [], .inl 0),
  (54, .iload_n 1, 1, [], .inl 0),
  (55, .if_icmp .ne 7, 3, [62], .inl 0),
  (58, .iload_n 2, 1, [], .inl 0),
  (59, .goto 15, 3, [74], .inl 0),
  (62, .iload 5, 2, [], .inl 0),
  (64, .iload_n 2, 1, [], .inl 0),
  (65, .if_icmp .ne 7, 3, [72], .inl 0),
  (68, .iload_n 3, 1, [], .inl 0),
  (69, .goto 5, 3, [74], .inl 0),
  (72, .iload 5, 2, [], .inl 0),
  (74, .iastore, 1, [], .inl 0),
  (75, .iinc 4 1, 3, [], .inl (1)),
  (78, .goto (-63), 3, [15, 5], .inl 0),
  (81, .return_, 1, [], .inl 0)]
/-- Course.run -/
def tb25 : List (Nat × Instr × Nat × List Nat × (Int32 ⊕ Int64)) := [(0, .iconst 0, 1, [], .inl (0)),
  (1, .istore_n 3, 1, [], .inl 0),
  (2, .iload_n 3, 1, [], .inl 0),
  (3, .aload_n 0, 1, [], .inl 0),
  (4, .getfield 16, 3, [3, 0, 48, 0, 0], .inl 0),
  (7, .getfield 40, 3, [6, 0, 0], .inl 0),
  (10, .if_icmp .ge 42, 3, [52], .inl 0),
  (13, .iload_n 3, 1, [], .inl 0),
  (14, .bipush 12, 2, [], .inl (12)),
  (16, .if_icmp .ge 36, 3, [52], .inl 0),
  (19, .aload_n 0, 1, [], .inl 0),
  (20, .iload_n 3, 1, [], .inl 0),
  (21, .invokevirtual 43, 3, [26, 2, 0, 3], .inl 0),
  (24, .iload_n 2, 1, [], .inl 0),
  (25, .iload_n 3, 1, [], .inl 0),
  (26, .ishr, 1, [], .inl 0),
  (27, .iconst 1, 1, [], .inl (1)),
  (28, .iand, 1, [], .inl 0),
  (29, .ifCond .eq 12, 3, [41], .inl 0),
  (32, .aload_n 0, 1, [], .inl 0),
  (33, .iload_n 3, 1, [], .inl 0),
  (34, .iload_n 1, 1, [], .inl 0),
  (35, .invokevirtual 47, 3, [28, 3, 0, 3], .inl 0),
  (38, .goto 8, 3, [46], .inl 0),
  (41, .aload_n 0, 1, [], .inl 0),
  (42, .iload_n 3, 1, [], .inl 0),
  (43, .invokevirtual 51, 3, [27, 2, 0, 3], .inl 0),
  (46, .iinc 3 1, 3, [], .inl (1)),
  (49, .goto (-47), 3, [2], .inl 0),
  (52, .return_, 1, [], .inl 0)]
/-- Course.exchangeIn -/
def tb26 : List (Nat × Instr × Nat × List Nat × (Int32 ⊕ Int64)) := [(0, .iload_n 1, 1, [], .inl 0),
  (1, .invokestatic 54, 3, [29, 1, 1], .inl 0),
  (4, .ifCond .eq 20, 3, [24], .inl 0),
  (7, .aload_n 0, 1, [], .inl 0),
  (8, .getfield 16, 3, [3, 0, 48, 0, 0], .inl 0),
  (11, .getfield 58, 3, [6, 10, 0, 1, 0], .inl 0),
  (14, .iload_n 1, 1, [], .inl 0),
  (15, .aload_n 0, 1, [], .inl 0),
  (16, .getfield 11, 3, [3, 2, 6869, 1, 0], .inl 0),
  (19, .iload_n 1, 1, [], .inl 0),
  (20, .aaload, 1, [], .inl 0),
  (21, .invokevirtual 62, 3, [5, 3, 0, 0], .inl 0),
  (24, .return_, 1, [], .inl 0)]
/-- Course.stayOn -/
def tb27 : List (Nat × Instr × Nat × List Nat × (Int32 ⊕ Int64)) := [(0, .iload_n 1, 1, [], .inl 0),
  (1, .invokestatic 54, 3, [29, 1, 1], .inl 0),
  (4, .ifCond .eq 33, 3, [37], .inl 0),
  (7, .iload_n 1, 1, [], .inl 0),
  (8, .iconst 1, 1, [], .inl (1)),
  (9, .iadd, 1, [], .inl 0),
  (10, .invokestatic 54, 3, [29, 1, 1], .inl 0),
  (13, .ifCond .eq 24, 3, [37], .inl 0),
  (16, .aload_n 0, 1, [], .inl 0),
  (17, .getfield 11, 3, [3, 2, 6869, 1, 0], .inl 0),
  (20, .iload_n 1, 1, [], .inl 0),
  (21, .aaload, 1, [], .inl 0),
  (22, .iconst 0, 1, [], .inl (0)),
  (23, .aload_n 0, 1, [], .inl 0),
  (24, .getfield 11, 3, [3, 2, 6869, 1, 0], .inl 0),
  (27, .iload_n 1, 1, [], .inl 0),
  (28, .iconst 1, 1, [], .inl (1)),
  (29, .iadd, 1, [], .inl 0),
  (30, .aaload, 1, [], .inl 0),
  (31, .iconst 0, 1, [], .inl (0)),
  (32, .bipush 6, 2, [], .inl (6)),
  (34, .invokestatic 67, 3, [0], .inl 0),
  (37, .return_, 1, [], .inl 0)]
/-- Course.moveOn -/
def tb28 : List (Nat × Instr × Nat × List Nat × (Int32 ⊕ Int64)) := [(0, .aload_n 0, 1, [], .inl 0),
  (1, .iload_n 1, 1, [], .inl 0),
  (2, .invokevirtual 51, 3, [27, 2, 0, 3], .inl 0),
  (5, .iload_n 1, 1, [], .inl 0),
  (6, .iconst 1, 1, [], .inl (1)),
  (7, .iadd, 1, [], .inl 0),
  (8, .invokestatic 54, 3, [29, 1, 1], .inl 0),
  (11, .ifCond .ne 4, 3, [15], .inl 0),
  (14, .return_, 1, [], .inl 0),
  (15, .aload_n 0, 1, [], .inl 0),
  (16, .getfield 11, 3, [3, 2, 6869, 1, 0], .inl 0),
  (19, .iload_n 1, 1, [], .inl 0),
  (20, .iconst 1, 1, [], .inl (1)),
  (21, .iadd, 1, [], .inl 0),
  (22, .aaload, 1, [], .inl 0),
  (23, .astore_n 3, 1, [], .inl 0),
  (24, .iload_n 2, 1, [], .inl 0),
  (25, .tableswitch 71 0 2 #[27, 55, 63], 27, [96, 52, 80, 88], .inl 0),
  (52, .aload_n 0, 1, [], .inl 0),
  (53, .aload_n 3, 1, [], .inl 0),
  (54, .aload_n 0, 1, [], .inl 0),
  (55, .getfield 16, 3, [3, 0, 48, 0, 0], .inl 0),
  (58, .getfield 24, 3, [6, 9, 32, 2, 4], .inl 0),
  (61, .invokevirtual 73, 3, [51, 1, 1, 4], .inl 0),
  (64, .aload_n 0, 1, [], .inl 0),
  (65, .getfield 16, 3, [3, 0, 48, 0, 0], .inl 0),
  (68, .getfield 77, 3, [6, 4, 32, 2, 0], .inl 0),
  (71, .invokevirtual 73, 3, [51, 1, 1, 4], .inl 0),
  (74, .invokevirtual 80, 3, [30, 4, 0, 3], .inl 0),
  (77, .goto 39, 3, [116], .inl 0),
  (80, .aload_n 0, 1, [], .inl 0),
  (81, .aload_n 3, 1, [], .inl 0),
  (82, .invokevirtual 84, 3, [31, 2, 0, 3], .inl 0),
  (85, .goto 31, 3, [116], .inl 0),
  (88, .aload_n 0, 1, [], .inl 0),
  (89, .aload_n 3, 1, [], .inl 0),
  (90, .invokevirtual 88, 3, [32, 2, 0, 3], .inl 0),
  (93, .goto 23, 3, [116], .inl 0),
  (96, .aload_n 0, 1, [], .inl 0),
  (97, .aload_n 3, 1, [], .inl 0),
  (98, .aload_n 0, 1, [], .inl 0),
  (99, .aload_n 3, 1, [], .inl 0),
  (100, .invokevirtual 91, 3, [33, 2, 1, 3], .inl 0),
  (103, .aload_n 0, 1, [], .inl 0),
  (104, .aload_n 3, 1, [], .inl 0),
  (105, .aload_n 0, 1, [], .inl 0),
  (106, .aload_n 3, 1, [], .inl 0),
  (107, .invokevirtual 91, 3, [33, 2, 1, 3], .inl 0),
  (110, .invokevirtual 95, 3, [34, 3, 1, 3], .inl 0),
  (113, .invokevirtual 80, 3, [30, 4, 0, 3], .inl 0),
  (116, .return_, 1, [], .inl 0)]
/-- Course.isRowOfSpots -/
def tb29 : List (Nat × Instr × Nat × List Nat × (Int32 ⊕ Int64)) := [(0, .iload_n 0, 1, [], .inl 0),
  (1, .ifCond .lt 13, 3, [14], .inl 0),
  (4, .iload_n 0, 1, [], .inl 0),
  (5, .bipush 12, 2, [], .inl (12)),
  (7, .if_icmp .gt 7, 3, [14], .inl 0),
  (10, .iconst 1, 1, [], .inl (1)),
  (11, .goto 4, 3, [15], .inl 0),
  (14, .iconst 0, 1, [], .inl (0)),
  (15, .ireturn, 1, [1], .inl 0)]
/-- Course.goOn -/
def tb30 : List (Nat × Instr × Nat × List Nat × (Int32 ⊕ Int64)) := [(0, .iconst 0, 1, [], .inl (0)),
  (1, .istore 4, 2, [], .inl 0),
  (3, .iload 4, 2, [], .inl 0),
  (5, .aload_n 0, 1, [], .inl 0),
  (6, .getfield 16, 3, [3, 0, 48, 0, 0], .inl 0),
  (9, .getfield 24, 3, [6, 9, 32, 2, 4], .inl 0),
  (12, .getfield 30, 3, [4, 2, 0], .inl 0),
  (15, .if_icmp .ge 34, 3, [49], .inl 0),
  (18, .iload_n 2, 1, [], .inl 0),
  (19, .iload 4, 2, [], .inl 0),
  (21, .ishr, 1, [], .inl 0),
  (22, .iconst 1, 1, [], .inl (1)),
  (23, .iand, 1, [], .inl 0),
  (24, .ifCond .eq 19, 3, [43], .inl 0),
  (27, .aload_n 1, 1, [], .inl 0),
  (28, .iload 4, 2, [], .inl 0),
  (30, .aload_n 0, 1, [], .inl 0),
  (31, .getfield 16, 3, [3, 0, 48, 0, 0], .inl 0),
  (34, .iload_n 3, 1, [], .inl 0),
  (35, .aload_n 1, 1, [], .inl 0),
  (36, .iload 4, 2, [], .inl 0),
  (38, .iaload, 1, [], .inl 0),
  (39, .invokevirtual 99, 3, [78, 3, 1, 6], .inl 0),
  (42, .iastore, 1, [], .inl 0),
  (43, .iinc 4 1, 3, [], .inl (1)),
  (46, .goto (-43), 3, [3], .inl 0),
  (49, .return_, 1, [], .inl 0)]
/-- Course.goBack -/
def tb31 : List (Nat × Instr × Nat × List Nat × (Int32 ⊕ Int64)) := [(0, .iconst 0, 1, [], .inl (0)),
  (1, .istore_n 2, 1, [], .inl 0),
  (2, .iload_n 2, 1, [], .inl 0),
  (3, .aload_n 0, 1, [], .inl 0),
  (4, .getfield 16, 3, [3, 0, 48, 0, 0], .inl 0),
  (7, .getfield 24, 3, [6, 9, 32, 2, 4], .inl 0),
  (10, .getfield 30, 3, [4, 2, 0], .inl 0),
  (13, .if_icmp .ge 38, 3, [51], .inl 0),
  (16, .aload_n 1, 1, [], .inl 0),
  (17, .iload_n 2, 1, [], .inl 0),
  (18, .aload_n 1, 1, [], .inl 0),
  (19, .iload_n 2, 1, [], .inl 0),
  (20, .iaload, 1, [], .inl 0),
  (21, .ifCond .le 11, 3, [32], .inl 0),
  (24, .aload_n 1, 1, [], .inl 0),
  (25, .iload_n 2, 1, [], .inl 0),
  (26, .iaload, 1, [], .inl 0),
  (27, .iconst 1, 1, [], .inl (1)),
  (28, .isub, 1, [], .inl 0),
  (29, .goto 15, 3, [44], .inl 0),
  (32, .aload_n 0, 1, [], .inl 0),
  (33, .getfield 16, 3, [3, 0, 48, 0, 0], .inl 0),
  (36, .getfield 77, 3, [6, 4, 32, 2, 0], .inl 0),
  (39, .getfield 30, 3, [4, 2, 0], .inl 0),
  (42, .iconst 1, 1, [], .inl (1)),
  (43, .isub, 1, [], .inl 0),
  (44, .iastore, 1, [], .inl 0),
  (45, .iinc 2 1, 3, [], .inl (1)),
  (48, .goto (-46), 3, [2], .inl 0),
  (51, .return_, 1, [], .inl 0)]
/-- Course.changeMostAndLeast -/
def tb32 : List (Nat × Instr × Nat × List Nat × (Int32 ⊕ Int64)) := [(0, .iconst (-1), 1, [], .inl (-1)),
  (1, .istore_n 2, 1, [], .inl 0),
  (2, .iconst 0, 1, [], .inl (0)),
  (3, .istore_n 3, 1, [], .inl 0),
  (4, .iload_n 3, 1, [], .inl 0),
  (5, .aload_n 0, 1, [], .inl 0),
  (6, .getfield 16, 3, [3, 0, 48, 0, 0], .inl 0),
  (9, .getfield 24, 3, [6, 9, 32, 2, 4], .inl 0),
  (12, .getfield 30, 3, [4, 2, 0], .inl 0),
  (15, .if_icmp .ge 39, 3, [54], .inl 0),
  (18, .iload_n 2, 1, [], .inl 0),
  (19, .iconst (-1), 1, [], .inl (-1)),
  (20, .if_icmp .eq 26, 3, [46], .inl 0),
  (23, .aload_n 0, 1, [], .inl 0),
  (24, .getfield 20, 3, [3, 1, 72, 3, 0], .inl 0),
  (27, .aload_n 1, 1, [], .inl 0),
  (28, .iload_n 3, 1, [], .inl 0),
  (29, .iaload, 1, [], .inl 0),
  (30, .invokevirtual 103, 3, [101, 2, 1, 9], .inl 0),
  (33, .aload_n 0, 1, [], .inl 0),
  (34, .getfield 20, 3, [3, 1, 72, 3, 0], .inl 0),
  (37, .aload_n 1, 1, [], .inl 0),
  (38, .iload_n 2, 1, [], .inl 0),
  (39, .iaload, 1, [], .inl 0),
  (40, .invokevirtual 103, 3, [101, 2, 1, 9], .inl 0),
  (43, .if_icmp .le 5, 3, [48], .inl 0),
  (46, .iload_n 3, 1, [], .inl 0),
  (47, .istore_n 2, 1, [], .inl 0),
  (48, .iinc 3 1, 3, [], .inl (1)),
  (51, .goto (-47), 3, [4], .inl 0),
  (54, .iconst (-1), 1, [], .inl (-1)),
  (55, .istore_n 3, 1, [], .inl 0),
  (56, .iconst 0, 1, [], .inl (0)),
  (57, .istore 4, 2, [], .inl 0),
  (59, .iload 4, 2, [], .inl 0),
  (61, .aload_n 0, 1, [], .inl 0),
  (62, .getfield 16, 3, [3, 0, 48, 0, 0], .inl 0),
  (65, .getfield 24, 3, [6, 9, 32, 2, 4], .inl 0),
  (68, .getfield 30, 3, [4, 2, 0], .inl 0),
  (71, .if_icmp .ge 47, 3, [118], .inl 0),
  (74, .iload 4, 2, [], .inl 0),
  (76, .iload_n 2, 1, [], .inl 0),
  (77, .if_icmp .eq 35, 3, [112], .inl 0),
  (80, .iload_n 3, 1, [], .inl 0),
  (81, .iconst (-1), 1, [], .inl (-1)),
  (82, .if_icmp .eq 27, 3, [109], .inl 0),
  (85, .aload_n 0, 1, [], .inl 0),
  (86, .getfield 20, 3, [3, 1, 72, 3, 0], .inl 0),
  (89, .aload_n 1, 1, [], .inl 0),
  (90, .iload 4, 2, [], .inl 0),
  (92, .iaload, 1, [], .inl 0),
  (93, .invokevirtual 103, 3, [101, 2, 1, 9], .inl 0),
  (96, .aload_n 0, 1, [], .inl 0),
  (97, .getfield 20, 3, [3, 1, 72, 3, 0], .inl 0),
  (100, .aload_n 1, 1, [], .inl 0),
  (101, .iload_n 3, 1, [], .inl 0),
  (102, .iaload, 1, [], .inl 0),
  (103, .invokevirtual 103, 3, [101, 2, 1, 9], .inl 0),
  (106, .if_icmp .ge 6, 3, [112], .inl 0),
  (109, .iload 4, 2, [], .inl 0),
  (111, .istore_n 3, 1, [], .inl 0),
  (112, .iinc 4 1, 3, [], .inl (1)),
  (115, .goto (-56), 3, [59], .inl 0),
  (118, .aload_n 1, 1, [], .inl 0),
  (119, .iload_n 2, 1, [], .inl 0),
  (120, .iload_n 3, 1, [], .inl 0),
  (121, .invokestatic 108, 3, [6, 3, 0], .inl 0),
  (124, .return_, 1, [], .inl 0)]
/-- Course.unhappy -/
def tb33 : List (Nat × Instr × Nat × List Nat × (Int32 ⊕ Int64)) := [(0, .iconst 0, 1, [], .inl (0)),
  (1, .istore_n 2, 1, [], .inl 0),
  (2, .iconst 0, 1, [], .inl (0)),
  (3, .istore_n 3, 1, [], .inl 0),
  (4, .iload_n 3, 1, [], .inl 0),
  (5, .aload_n 0, 1, [], .inl 0),
  (6, .getfield 16, 3, [3, 0, 48, 0, 0], .inl 0),
  (9, .getfield 24, 3, [6, 9, 32, 2, 4], .inl 0),
  (12, .getfield 30, 3, [4, 2, 0], .inl 0),
  (15, .if_icmp .ge 39, 3, [54], .inl 0),
  (18, .aload_n 0, 1, [], .inl 0),
  (19, .getfield 20, 3, [3, 1, 72, 3, 0], .inl 0),
  (22, .aload_n 1, 1, [], .inl 0),
  (23, .iload_n 3, 1, [], .inl 0),
  (24, .iaload, 1, [], .inl 0),
  (25, .aload_n 0, 1, [], .inl 0),
  (26, .getfield 16, 3, [3, 0, 48, 0, 0], .inl 0),
  (29, .getfield 24, 3, [6, 9, 32, 2, 4], .inl 0),
  (32, .iload_n 3, 1, [], .inl 0),
  (33, .invokevirtual 111, 3, [48, 2, 1, 4], .inl 0),
  (36, .invokevirtual 114, 3, [102, 3, 1, 9], .inl 0),
  (39, .ifCond .ne 9, 3, [48], .inl 0),
  (42, .iload_n 2, 1, [], .inl 0),
  (43, .iconst 1, 1, [], .inl (1)),
  (44, .iload_n 3, 1, [], .inl 0),
  (45, .ishl, 1, [], .inl 0),
  (46, .ior, 1, [], .inl 0),
  (47, .istore_n 2, 1, [], .inl 0),
  (48, .iinc 3 1, 3, [], .inl (1)),
  (51, .goto (-47), 3, [4], .inl 0),
  (54, .iload_n 2, 1, [], .inl 0),
  (55, .ireturn, 1, [], .inl 0)]
/-- Course.placesOf -/
def tb34 : List (Nat × Instr × Nat × List Nat × (Int32 ⊕ Int64)) := [(0, .iconst 0, 1, [], .inl (0)),
  (1, .istore_n 3, 1, [], .inl 0),
  (2, .iconst 0, 1, [], .inl (0)),
  (3, .istore 4, 2, [], .inl 0),
  (5, .iload 4, 2, [], .inl 0),
  (7, .aload_n 0, 1, [], .inl 0),
  (8, .getfield 16, 3, [3, 0, 48, 0, 0], .inl 0),
  (11, .getfield 24, 3, [6, 9, 32, 2, 4], .inl 0),
  (14, .getfield 30, 3, [4, 2, 0], .inl 0),
  (17, .if_icmp .ge 27, 3, [44], .inl 0),
  (20, .iload_n 2, 1, [], .inl 0),
  (21, .iload 4, 2, [], .inl 0),
  (23, .ishr, 1, [], .inl 0),
  (24, .iconst 1, 1, [], .inl (1)),
  (25, .iand, 1, [], .inl 0),
  (26, .ifCond .eq 12, 3, [38], .inl 0),
  (29, .iload_n 3, 1, [], .inl 0),
  (30, .iconst 1, 1, [], .inl (1)),
  (31, .aload_n 1, 1, [], .inl 0),
  (32, .iload 4, 2, [], .inl 0),
  (34, .iaload, 1, [], .inl 0),
  (35, .ishl, 1, [], .inl 0),
  (36, .ior, 1, [], .inl 0),
  (37, .istore_n 3, 1, [], .inl 0),
  (38, .iinc 4 1, 3, [], .inl (1)),
  (41, .goto (-36), 3, [5], .inl 0),
  (44, .iload_n 3, 1, [], .inl 0),
  (45, .ireturn, 1, [], .inl 0)]
/-- Course.spot -/
def tb35 : List (Nat × Instr × Nat × List Nat × (Int32 ⊕ Int64)) := [(0, .iload_n 2, 1, [], .inl 0),
  (1, .ifCond .lt 23, 3, [24], .inl 0),
  (4, .iload_n 2, 1, [], .inl 0),
  (5, .bipush 12, 2, [], .inl (12)),
  (7, .if_icmp .gt 17, 3, [24], .inl 0),
  (10, .iload_n 1, 1, [], .inl 0),
  (11, .ifCond .lt 13, 3, [24], .inl 0),
  (14, .iload_n 1, 1, [], .inl 0),
  (15, .bipush 6, 2, [], .inl (6)),
  (17, .if_icmp .ge 7, 3, [24], .inl 0),
  (20, .iconst 1, 1, [], .inl (1)),
  (21, .goto 4, 3, [25], .inl 0),
  (24, .iconst 0, 1, [], .inl (0)),
  (25, .istore_n 3, 1, [], .inl 0),
  (26, .iload_n 3, 1, [], .inl 0),
  (27, .ifCond .eq 14, 3, [41], .inl 0),
  (30, .aload_n 0, 1, [], .inl 0),
  (31, .getfield 11, 3, [3, 2, 6869, 1, 0], .inl 0),
  (34, .iload_n 2, 1, [], .inl 0),
  (35, .aaload, 1, [], .inl 0),
  (36, .iload_n 1, 1, [], .inl 0),
  (37, .iaload, 1, [], .inl 0),
  (38, .goto 4, 3, [42], .inl 0),
  (41, .iconst 0, 1, [], .inl (0)),
  (42, .ireturn, 1, [], .inl 0)]
/-- Course.isAlike -/
def tb36 : List (Nat × Instr × Nat × List Nat × (Int32 ⊕ Int64)) := [(0, .iconst 0, 1, [], .inl (0)),
  (1, .istore_n 3, 1, [], .inl 0),
  (2, .iload_n 3, 1, [], .inl 0),
  (3, .aload_n 0, 1, [], .inl 0),
  (4, .getfield 16, 3, [3, 0, 48, 0, 0], .inl 0),
  (7, .getfield 24, 3, [6, 9, 32, 2, 4], .inl 0),
  (10, .getfield 30, 3, [4, 2, 0], .inl 0),
  (13, .if_icmp .ge 26, 3, [39], .inl 0),
  (16, .aload_n 0, 1, [], .inl 0),
  (17, .iload_n 3, 1, [], .inl 0),
  (18, .iload_n 1, 1, [], .inl 0),
  (19, .invokevirtual 118, 3, [35, 3, 1, 3], .inl 0),
  (22, .aload_n 0, 1, [], .inl 0),
  (23, .iload_n 3, 1, [], .inl 0),
  (24, .iload_n 2, 1, [], .inl 0),
  (25, .invokevirtual 118, 3, [35, 3, 1, 3], .inl 0),
  (28, .if_icmp .eq 5, 3, [33], .inl 0),
  (31, .iconst 0, 1, [], .inl (0)),
  (32, .ireturn, 1, [1], .inl 0),
  (33, .iinc 3 1, 3, [], .inl (1)),
  (36, .goto (-34), 3, [2], .inl 0),
  (39, .iconst 1, 1, [], .inl (1)),
  (40, .ireturn, 1, [1], .inl 0)]
/-- Course.marksSeen -/
def tb37 : List (Nat × Instr × Nat × List Nat × (Int32 ⊕ Int64)) := [(0, .aload_n 0, 1, [], .inl 0),
  (1, .getfield 20, 3, [3, 1, 72, 3, 0], .inl 0),
  (4, .aload_n 0, 1, [], .inl 0),
  (5, .iload_n 1, 1, [], .inl 0),
  (6, .iload_n 2, 1, [], .inl 0),
  (7, .invokevirtual 118, 3, [35, 3, 1, 3], .inl 0),
  (10, .invokevirtual 121, 3, [100, 2, 1, 9], .inl 0),
  (13, .ireturn, 1, [], .inl 0)]
/-- Course.seesHope -/
def tb38 : List (Nat × Instr × Nat × List Nat × (Int32 ⊕ Int64)) := [(0, .aload_n 0, 1, [], .inl 0),
  (1, .getfield 20, 3, [3, 1, 72, 3, 0], .inl 0),
  (4, .aload_n 0, 1, [], .inl 0),
  (5, .iload_n 1, 1, [], .inl 0),
  (6, .iload_n 2, 1, [], .inl 0),
  (7, .invokevirtual 118, 3, [35, 3, 1, 3], .inl 0),
  (10, .aload_n 0, 1, [], .inl 0),
  (11, .getfield 16, 3, [3, 0, 48, 0, 0], .inl 0),
  (14, .getfield 24, 3, [6, 9, 32, 2, 4], .inl 0),
  (17, .iload_n 1, 1, [], .inl 0),
  (18, .invokevirtual 111, 3, [48, 2, 1, 4], .inl 0),
  (21, .invokevirtual 114, 3, [102, 3, 1, 9], .inl 0),
  (24, .ireturn, 1, [1], .inl 0)]
/-- Course.firstGladYear -/
def tb39 : List (Nat × Instr × Nat × List Nat × (Int32 ⊕ Int64)) := [(0, .iconst 0, 1, [], .inl (0)),
  (1, .istore_n 2, 1, [], .inl 0),
  (2, .iload_n 2, 1, [], .inl 0),
  (3, .aload_n 0, 1, [], .inl 0),
  (4, .getfield 16, 3, [3, 0, 48, 0, 0], .inl 0),
  (7, .getfield 40, 3, [6, 0, 0], .inl 0),
  (10, .if_icmp .gt 20, 3, [30], .inl 0),
  (13, .aload_n 0, 1, [], .inl 0),
  (14, .iload_n 1, 1, [], .inl 0),
  (15, .iload_n 2, 1, [], .inl 0),
  (16, .invokevirtual 124, 3, [38, 3, 1, 3], .inl 0),
  (19, .ifCond .eq 5, 3, [24], .inl 0),
  (22, .iload_n 2, 1, [], .inl 0),
  (23, .ireturn, 1, [], .inl 0),
  (24, .iinc 2 1, 3, [], .inl (1)),
  (27, .goto (-25), 3, [2], .inl 0),
  (30, .iconst (-1), 1, [], .inl (-1)),
  (31, .ireturn, 1, [], .inl 0)]
/-- Course.joyIn -/
def tb40 : List (Nat × Instr × Nat × List Nat × (Int32 ⊕ Int64)) := [(0, .iload_n 2, 1, [], .inl 0),
  (1, .ifCond .le 14, 3, [15], .inl 0),
  (4, .aload_n 0, 1, [], .inl 0),
  (5, .iload_n 1, 1, [], .inl 0),
  (6, .iload_n 2, 1, [], .inl 0),
  (7, .iconst 1, 1, [], .inl (1)),
  (8, .isub, 1, [], .inl 0),
  (9, .invokevirtual 127, 3, [37, 3, 1, 3], .inl 0),
  (12, .goto 4, 3, [16], .inl 0),
  (15, .iconst 0, 1, [], .inl (0)),
  (16, .istore_n 3, 1, [], .inl 0),
  (17, .aload_n 0, 1, [], .inl 0),
  (18, .getfield 16, 3, [3, 0, 48, 0, 0], .inl 0),
  (21, .aload_n 0, 1, [], .inl 0),
  (22, .iload_n 1, 1, [], .inl 0),
  (23, .iload_n 2, 1, [], .inl 0),
  (24, .invokevirtual 127, 3, [37, 3, 1, 3], .inl 0),
  (27, .iload_n 3, 1, [], .inl 0),
  (28, .iconst (-1), 1, [], .inl (-1)),
  (29, .ixor, 1, [], .inl 0),
  (30, .iand, 1, [], .inl 0),
  (31, .invokevirtual 130, 3, [76, 2, 1, 6], .inl 0),
  (34, .ireturn, 1, [], .inl 0)]
/-- Course.joyOfLife -/
def tb41 : List (Nat × Instr × Nat × List Nat × (Int32 ⊕ Int64)) := [(0, .iconst 0, 1, [], .inl (0)),
  (1, .istore_n 2, 1, [], .inl 0),
  (2, .iconst 0, 1, [], .inl (0)),
  (3, .istore_n 3, 1, [], .inl 0),
  (4, .iload_n 3, 1, [], .inl 0),
  (5, .aload_n 0, 1, [], .inl 0),
  (6, .getfield 16, 3, [3, 0, 48, 0, 0], .inl 0),
  (9, .getfield 40, 3, [6, 0, 0], .inl 0),
  (12, .if_icmp .gt 18, 3, [30], .inl 0),
  (15, .iload_n 2, 1, [], .inl 0),
  (16, .aload_n 0, 1, [], .inl 0),
  (17, .iload_n 1, 1, [], .inl 0),
  (18, .iload_n 3, 1, [], .inl 0),
  (19, .invokevirtual 133, 3, [40, 3, 1, 3], .inl 0),
  (22, .iadd, 1, [], .inl 0),
  (23, .istore_n 2, 1, [], .inl 0),
  (24, .iinc 3 1, 3, [], .inl (1)),
  (27, .goto (-23), 3, [4], .inl 0),
  (30, .iload_n 2, 1, [], .inl 0),
  (31, .ireturn, 1, [], .inl 0)]
/-- Course.joyOfAllIn -/
def tb42 : List (Nat × Instr × Nat × List Nat × (Int32 ⊕ Int64)) := [(0, .iconst 0, 1, [], .inl (0)),
  (1, .istore_n 2, 1, [], .inl 0),
  (2, .iconst 0, 1, [], .inl (0)),
  (3, .istore_n 3, 1, [], .inl 0),
  (4, .iload_n 3, 1, [], .inl 0),
  (5, .aload_n 0, 1, [], .inl 0),
  (6, .getfield 16, 3, [3, 0, 48, 0, 0], .inl 0),
  (9, .getfield 24, 3, [6, 9, 32, 2, 4], .inl 0),
  (12, .getfield 30, 3, [4, 2, 0], .inl 0),
  (15, .if_icmp .ge 18, 3, [33], .inl 0),
  (18, .iload_n 2, 1, [], .inl 0),
  (19, .aload_n 0, 1, [], .inl 0),
  (20, .iload_n 3, 1, [], .inl 0),
  (21, .iload_n 1, 1, [], .inl 0),
  (22, .invokevirtual 133, 3, [40, 3, 1, 3], .inl 0),
  (25, .iadd, 1, [], .inl 0),
  (26, .istore_n 2, 1, [], .inl 0),
  (27, .iinc 3 1, 3, [], .inl (1)),
  (30, .goto (-26), 3, [4], .inl 0),
  (33, .iload_n 2, 1, [], .inl 0),
  (34, .ireturn, 1, [], .inl 0)]
/-- Course.joyOfAll -/
def tb43 : List (Nat × Instr × Nat × List Nat × (Int32 ⊕ Int64)) := [(0, .iconst 0, 1, [], .inl (0)),
  (1, .istore_n 1, 1, [], .inl 0),
  (2, .iconst 0, 1, [], .inl (0)),
  (3, .istore_n 2, 1, [], .inl 0),
  (4, .iload_n 2, 1, [], .inl 0),
  (5, .aload_n 0, 1, [], .inl 0),
  (6, .getfield 16, 3, [3, 0, 48, 0, 0], .inl 0),
  (9, .getfield 24, 3, [6, 9, 32, 2, 4], .inl 0),
  (12, .getfield 30, 3, [4, 2, 0], .inl 0),
  (15, .if_icmp .ge 17, 3, [32], .inl 0),
  (18, .iload_n 1, 1, [], .inl 0),
  (19, .aload_n 0, 1, [], .inl 0),
  (20, .iload_n 2, 1, [], .inl 0),
  (21, .invokevirtual 136, 3, [41, 2, 1, 3], .inl 0),
  (24, .iadd, 1, [], .inl 0),
  (25, .istore_n 1, 1, [], .inl 0),
  (26, .iinc 2 1, 3, [], .inl (1)),
  (29, .goto (-25), 3, [4], .inl 0),
  (32, .iload_n 1, 1, [], .inl 0),
  (33, .ireturn, 1, [], .inl 0)]
/-- Pairs.has -/
def tb44 : List (Nat × Instr × Nat × List Nat × (Int32 ⊕ Int64)) := [(0, .iload_n 1, 1, [], .inl 0),
  (1, .ifCond .lt 15, 3, [16], .inl 0),
  (4, .iload_n 1, 1, [], .inl 0),
  (5, .aload_n 0, 1, [], .inl 0),
  (6, .getfield 7, 3, [4, 2, 0], .inl 0),
  (9, .if_icmp .ge 7, 3, [16], .inl 0),
  (12, .iconst 1, 1, [], .inl (1)),
  (13, .goto 4, 3, [17], .inl 0),
  (16, .iconst 0, 1, [], .inl (0)),
  (17, .ireturn, 1, [1], .inl 0)]
/-- Pairs.isFull -/
def tb45 : List (Nat × Instr × Nat × List Nat × (Int32 ⊕ Int64)) := [(0, .aload_n 0, 1, [], .inl 0),
  (1, .getfield 7, 3, [4, 2, 0], .inl 0),
  (4, .aload_n 0, 1, [], .inl 0),
  (5, .getfield 19, 3, [4, 0, 105, 1, 0], .inl 0),
  (8, .arraylength, 1, [], .inl 0),
  (9, .if_icmp .lt 7, 3, [16], .inl 0),
  (12, .iconst 1, 1, [], .inl (1)),
  (13, .goto 4, 3, [17], .inl 0),
  (16, .iconst 0, 1, [], .inl (0)),
  (17, .ireturn, 1, [1], .inl 0)]
/-- Pairs.add -/
def tb46 : List (Nat × Instr × Nat × List Nat × (Int32 ⊕ Int64)) := [(0, .aload_n 0, 1, [], .inl 0),
  (1, .invokevirtual 26, 3, [45, 1, 1, 4], .inl 0),
  (4, .ifCond .ne 33, 3, [37], .inl 0),
  (7, .aload_n 0, 1, [], .inl 0),
  (8, .getfield 19, 3, [4, 0, 105, 1, 0], .inl 0),
  (11, .aload_n 0, 1, [], .inl 0),
  (12, .getfield 7, 3, [4, 2, 0], .inl 0),
  (15, .iload_n 1, 1, [], .inl 0),
  (16, .iastore, 1, [], .inl 0),
  (17, .aload_n 0, 1, [], .inl 0),
  (18, .getfield 23, 3, [4, 1, 113, 1, 0], .inl 0),
  (21, .aload_n 0, 1, [], .inl 0),
  (22, .getfield 7, 3, [4, 2, 0], .inl 0),
  (25, .iload_n 2, 1, [], .inl 0),
  (26, .iastore, 1, [], .inl 0),
  (27, .aload_n 0, 1, [], .inl 0),
  (28, .dup, 1, [], .inl 0),
  (29, .getfield 7, 3, [4, 2, 0], .inl 0),
  (32, .iconst 1, 1, [], .inl (1)),
  (33, .iadd, 1, [], .inl 0),
  (34, .putfield 7, 3, [4, 2, 0], .inl 0),
  (37, .return_, 1, [], .inl 0)]
/-- Pairs.one -/
def tb47 : List (Nat × Instr × Nat × List Nat × (Int32 ⊕ Int64)) := [(0, .iload_n 1, 1, [], .inl 0),
  (1, .ifCond .lt 20, 3, [21], .inl 0),
  (4, .iload_n 1, 1, [], .inl 0),
  (5, .aload_n 0, 1, [], .inl 0),
  (6, .getfield 7, 3, [4, 2, 0], .inl 0),
  (9, .if_icmp .ge 12, 3, [21], .inl 0),
  (12, .aload_n 0, 1, [], .inl 0),
  (13, .getfield 19, 3, [4, 0, 105, 1, 0], .inl 0),
  (16, .iload_n 1, 1, [], .inl 0),
  (17, .iaload, 1, [], .inl 0),
  (18, .goto 4, 3, [22], .inl 0),
  (21, .iconst 0, 1, [], .inl (0)),
  (22, .ireturn, 1, [], .inl 0)]
/-- Pairs.other -/
def tb48 : List (Nat × Instr × Nat × List Nat × (Int32 ⊕ Int64)) := [(0, .iload_n 1, 1, [], .inl 0),
  (1, .ifCond .lt 20, 3, [21], .inl 0),
  (4, .iload_n 1, 1, [], .inl 0),
  (5, .aload_n 0, 1, [], .inl 0),
  (6, .getfield 7, 3, [4, 2, 0], .inl 0),
  (9, .if_icmp .ge 12, 3, [21], .inl 0),
  (12, .aload_n 0, 1, [], .inl 0),
  (13, .getfield 23, 3, [4, 1, 113, 1, 0], .inl 0),
  (16, .iload_n 1, 1, [], .inl 0),
  (17, .iaload, 1, [], .inl 0),
  (18, .goto 4, 3, [22], .inl 0),
  (21, .iconst 0, 1, [], .inl (0)),
  (22, .ireturn, 1, [], .inl 0)]
/-- Pairs.hasPair -/
def tb49 : List (Nat × Instr × Nat × List Nat × (Int32 ⊕ Int64)) := [(0, .iconst 0, 1, [], .inl (0)),
  (1, .istore_n 3, 1, [], .inl 0),
  (2, .iload_n 3, 1, [], .inl 0),
  (3, .aload_n 0, 1, [], .inl 0),
  (4, .getfield 7, 3, [4, 2, 0], .inl 0),
  (7, .if_icmp .ge 31, 3, [38], .inl 0),
  (10, .aload_n 0, 1, [], .inl 0),
  (11, .getfield 19, 3, [4, 0, 105, 1, 0], .inl 0),
  (14, .iload_n 3, 1, [], .inl 0),
  (15, .iaload, 1, [], .inl 0),
  (16, .iload_n 1, 1, [], .inl 0),
  (17, .if_icmp .ne 15, 3, [32], .inl 0),
  (20, .aload_n 0, 1, [], .inl 0),
  (21, .getfield 23, 3, [4, 1, 113, 1, 0], .inl 0),
  (24, .iload_n 3, 1, [], .inl 0),
  (25, .iaload, 1, [], .inl 0),
  (26, .iload_n 2, 1, [], .inl 0),
  (27, .if_icmp .ne 5, 3, [32], .inl 0),
  (30, .iconst 1, 1, [], .inl (1)),
  (31, .ireturn, 1, [1], .inl 0),
  (32, .iinc 3 1, 3, [], .inl (1)),
  (35, .goto (-33), 3, [2], .inl 0),
  (38, .iconst 0, 1, [], .inl (0)),
  (39, .ireturn, 1, [1], .inl 0)]
/-- Pairs.hasOne -/
def tb50 : List (Nat × Instr × Nat × List Nat × (Int32 ⊕ Int64)) := [(0, .iconst 0, 1, [], .inl (0)),
  (1, .istore_n 2, 1, [], .inl 0),
  (2, .iload_n 2, 1, [], .inl 0),
  (3, .aload_n 0, 1, [], .inl 0),
  (4, .getfield 7, 3, [4, 2, 0], .inl 0),
  (7, .if_icmp .ge 21, 3, [28], .inl 0),
  (10, .aload_n 0, 1, [], .inl 0),
  (11, .getfield 19, 3, [4, 0, 105, 1, 0], .inl 0),
  (14, .iload_n 2, 1, [], .inl 0),
  (15, .iaload, 1, [], .inl 0),
  (16, .iload_n 1, 1, [], .inl 0),
  (17, .if_icmp .ne 5, 3, [22], .inl 0),
  (20, .iconst 1, 1, [], .inl (1)),
  (21, .ireturn, 1, [1], .inl 0),
  (22, .iinc 2 1, 3, [], .inl (1)),
  (25, .goto (-23), 3, [2], .inl 0),
  (28, .iconst 0, 1, [], .inl (0)),
  (29, .ireturn, 1, [1], .inl 0)]
/-- Pairs.allBits -/
def tb51 : List (Nat × Instr × Nat × List Nat × (Int32 ⊕ Int64)) := [(0, .iconst 1, 1, [], .inl (1)),
  (1, .aload_n 0, 1, [], .inl 0),
  (2, .getfield 7, 3, [4, 2, 0], .inl 0),
  (5, .ishl, 1, [], .inl 0),
  (6, .iconst 1, 1, [], .inl (1)),
  (7, .isub, 1, [], .inl 0),
  (8, .ireturn, 1, [], .inl 0)]
/-- Pairs.copyFrom -/
def tb52 : List (Nat × Instr × Nat × List Nat × (Int32 ⊕ Int64)) := [(0, .aload_n 0, 1, [], .inl 0),
  (1, .iconst 0, 1, [], .inl (0)),
  (2, .putfield 7, 3, [4, 2, 0], .inl 0),
  (5, .iconst 0, 1, [], .inl (0)),
  (6, .istore_n 2, 1, [], .inl 0),
  (7, .iload_n 2, 1, [], .inl 0),
  (8, .aload_n 1, 1, [], .inl 0),
  (9, .getfield 7, 3, [4, 2, 0], .inl 0),
  (12, .if_icmp .ge 25, 3, [37], .inl 0),
  (15, .aload_n 0, 1, [], .inl 0),
  (16, .aload_n 1, 1, [], .inl 0),
  (17, .getfield 19, 3, [4, 0, 105, 1, 0], .inl 0),
  (20, .iload_n 2, 1, [], .inl 0),
  (21, .iaload, 1, [], .inl 0),
  (22, .aload_n 1, 1, [], .inl 0),
  (23, .getfield 23, 3, [4, 1, 113, 1, 0], .inl 0),
  (26, .iload_n 2, 1, [], .inl 0),
  (27, .iaload, 1, [], .inl 0),
  (28, .invokevirtual 30, 3, [46, 3, 0, 4], .inl 0),
  (31, .iinc 2 1, 3, [], .inl (1)),
  (34, .goto (-27), 3, [7], .inl 0),
  (37, .return_, 1, [], .inl 0)]
/-- Reader.append -/
def tb53 : List (Nat × Instr × Nat × List Nat × (Int32 ⊕ Int64)) := [(0, .bipush 24, 2, [], .inl (24)),
  (2, .istore_n 2, 1, [], .inl 0),
  (3, .iload_n 2, 1, [], .inl 0),
  (4, .ifCond .lt 42, 3, [46], .inl 0),
  (7, .aload_n 0, 1, [], .inl 0),
  (8, .getfield 15, 3, [5, 2, 0], .inl 0),
  (11, .sipush 700, 3, [], .inl (700)),
  (14, .if_icmp .ge 32, 3, [46], .inl 0),
  (17, .aload_n 0, 1, [], .inl 0),
  (18, .getfield 9, 3, [5, 1, 358555, 0, 0], .inl 0),
  (21, .aload_n 0, 1, [], .inl 0),
  (22, .getfield 15, 3, [5, 2, 0], .inl 0),
  (25, .iload_n 1, 1, [], .inl 0),
  (26, .iload_n 2, 1, [], .inl 0),
  (27, .ishr, 1, [], .inl 0),
  (28, .i2b, 1, [], .inl 0),
  (29, .bastore, 1, [], .inl 0),
  (30, .aload_n 0, 1, [], .inl 0),
  (31, .dup, 1, [], .inl 0),
  (32, .getfield 15, 3, [5, 2, 0], .inl 0),
  (35, .iconst 1, 1, [], .inl (1)),
  (36, .iadd, 1, [], .inl 0),
  (37, .putfield 15, 3, [5, 2, 0], .inl 0),
  (40, .iinc 2 (-8), 3, [], .inl (-8)),
  (43, .goto (-40), 3, [3], .inl 0),
  (46, .return_, 1, [], .inl 0)]
/-- Reader.readRoof -/
def tb54 : List (Nat × Instr × Nat × List Nat × (Int32 ⊕ Int64)) := [(0, .aload_n 0, 1, [], .inl 0),
  (1, .getfield 25, 3, [5, 0, 48, 0, 1], .inl 0),
  (4, .invokevirtual 29, 3, [79, 1, 0, 6], .inl 0),
  (7, .aload_n 0, 1, [], .inl 0),
  (8, .iconst 0, 1, [], .inl (0)),
  (9, .putfield 19, 3, [5, 8, 0], .inl 0),
  (12, .aload_n 0, 1, [], .inl 0),
  (13, .iconst (-1), 1, [], .inl (-1)),
  (14, .putfield 22, 3, [5, 9, 0], .inl 0),
  (17, .aload_n 0, 1, [], .inl 0),
  (18, .iconst 0, 1, [], .inl (0)),
  (19, .putfield 34, 3, [5, 5, 0], .inl 0),
  (22, .aload_n 0, 1, [], .inl 0),
  (23, .invokevirtual 37, 3, [68, 1, 0, 5], .inl 0),
  (26, .iconst 1, 1, [], .inl (1)),
  (27, .istore_n 1, 1, [], .inl 0),
  (28, .iconst 0, 1, [], .inl (0)),
  (29, .istore_n 2, 1, [], .inl 0),
  (30, .iload_n 2, 1, [], .inl 0),
  (31, .sipush 700, 3, [], .inl (700)),
  (34, .if_icmp .ge 53, 3, [87], .inl 0),
  (37, .iload_n 1, 1, [], .inl 0),
  (38, .ifCond .eq 49, 3, [87], .inl 0),
  (41, .aload_n 0, 1, [], .inl 0),
  (42, .getfield 40, 3, [5, 3, 0], .inl 0),
  (45, .ifCond .eq 42, 3, [87], .inl 0),
  (48, .aload_n 0, 1, [], .inl 0),
  (49, .invokevirtual 43, 3, [55, 1, 1, 5], .inl 0),
  (52, .ifCond .eq 14, 3, [66], .inl 0),
  (55, .aload_n 0, 1, [], .inl 0),
  (56, .invokevirtual 47, 3, [63, 1, 1, 5], .inl 0),
  (59, .ifCond .eq 7, 3, [66], .inl 0),
  (62, .iconst 1, 1, [], .inl (1)),
  (63, .goto 4, 3, [67], .inl 0),
  (66, .iconst 0, 1, [], .inl (0)),
  (67, .istore_n 1, 1, [], .inl 0),
  (68, .aload_n 0, 1, [], .inl 0),
  (69, .getfield 25, 3, [5, 0, 48, 0, 1], .inl 0),
  (72, .dup, 1, [], .inl 0),
  (73, .getfield 50, 3, [6, 3, 0], .inl 0),
  (76, .iconst 1, 1, [], .inl (1)),
  (77, .iadd, 1, [], .inl 0),
  (78, .putfield 50, 3, [6, 3, 0], .inl 0),
  (81, .iinc 2 1, 3, [], .inl (1)),
  (84, .goto (-54), 3, [30], .inl 0),
  (87, .iload_n 1, 1, [], .inl 0),
  (88, .ireturn, 1, [1], .inl 0)]
/-- Reader.readLine -/
def tb55 : List (Nat × Instr × Nat × List Nat × (Int32 ⊕ Int64)) := [(0, .aload_n 0, 1, [], .inl 0),
  (1, .getfield 25, 3, [5, 0, 48, 0, 1], .inl 0),
  (4, .getfield 50, 3, [6, 3, 0], .inl 0),
  (7, .ifCond .ne 8, 3, [15], .inl 0),
  (10, .aload_n 0, 1, [], .inl 0),
  (11, .invokevirtual 53, 3, [56, 1, 1, 5], .inl 0),
  (14, .ireturn, 1, [1], .inl 0),
  (15, .aload_n 0, 1, [], .inl 0),
  (16, .ldc 56, 2, [7], .inl 0),
  (18, .invokevirtual 58, 3, [66, 2, 1, 5], .inl 0),
  (21, .ifCond .eq 15, 3, [36], .inl 0),
  (24, .aload_n 0, 1, [], .inl 0),
  (25, .aload_n 0, 1, [], .inl 0),
  (26, .getfield 25, 3, [5, 0, 48, 0, 1], .inl 0),
  (29, .getfield 62, 3, [6, 4, 32, 2, 0], .inl 0),
  (32, .invokevirtual 66, 3, [57, 2, 1, 5], .inl 0),
  (35, .ireturn, 1, [1], .inl 0),
  (36, .aload_n 0, 1, [], .inl 0),
  (37, .ldc 70, 2, [5], .inl 0),
  (39, .invokevirtual 58, 3, [66, 2, 1, 5], .inl 0),
  (42, .ifCond .eq 30, 3, [72], .inl 0),
  (45, .aload_n 0, 1, [], .inl 0),
  (46, .aload_n 0, 1, [], .inl 0),
  (47, .getfield 25, 3, [5, 0, 48, 0, 1], .inl 0),
  (50, .getfield 72, 3, [6, 5, 32, 2, 1], .inl 0),
  (53, .invokevirtual 66, 3, [57, 2, 1, 5], .inl 0),
  (56, .ifCond .eq 14, 3, [70], .inl 0),
  (59, .aload_n 0, 1, [], .inl 0),
  (60, .invokevirtual 75, 3, [58, 1, 1, 5], .inl 0),
  (63, .ifCond .eq 7, 3, [70], .inl 0),
  (66, .iconst 1, 1, [], .inl (1)),
  (67, .goto 4, 3, [71], .inl 0),
  (70, .iconst 0, 1, [], .inl (0)),
  (71, .ireturn, 1, [1], .inl 0),
  (72, .aload_n 0, 1, [], .inl 0),
  (73, .ldc 78, 2, [1], .inl 0),
  (75, .invokevirtual 58, 3, [66, 2, 1, 5], .inl 0),
  (78, .ifCond .eq 15, 3, [93], .inl 0),
  (81, .aload_n 0, 1, [], .inl 0),
  (82, .aload_n 0, 1, [], .inl 0),
  (83, .getfield 25, 3, [5, 0, 48, 0, 1], .inl 0),
  (86, .getfield 80, 3, [6, 7, 32, 2, 2], .inl 0),
  (89, .invokevirtual 66, 3, [57, 2, 1, 5], .inl 0),
  (92, .ireturn, 1, [1], .inl 0),
  (93, .aload_n 0, 1, [], .inl 0),
  (94, .ldc 83, 2, [9], .inl 0),
  (96, .invokevirtual 58, 3, [66, 2, 1, 5], .inl 0),
  (99, .ifCond .eq 8, 3, [107], .inl 0),
  (102, .aload_n 0, 1, [], .inl 0),
  (103, .invokevirtual 85, 3, [59, 1, 1, 5], .inl 0),
  (106, .ireturn, 1, [1], .inl 0),
  (107, .aload_n 0, 1, [], .inl 0),
  (108, .ldc 88, 2, [4], .inl 0),
  (110, .invokevirtual 58, 3, [66, 2, 1, 5], .inl 0),
  (113, .ifCond .eq 10, 3, [123], .inl 0),
  (116, .aload_n 0, 1, [], .inl 0),
  (117, .invokevirtual 90, 3, [60, 1, 1, 5], .inl 0),
  (120, .goto 12, 3, [132], .inl 0),
  (123, .aload_n 0, 1, [], .inl 0),
  (124, .iconst 1, 1, [], .inl (1)),
  (125, .aload_n 0, 1, [], .inl 0),
  (126, .getfield 93, 3, [5, 4, 0], .inl 0),
  (129, .invokevirtual 96, 3, [65, 3, 1, 5], .inl 0),
  (132, .ireturn, 1, [1], .inl 0)]
/-- Reader.readRoofLine -/
def tb56 : List (Nat × Instr × Nat × List Nat × (Int32 ⊕ Int64)) := [(0, .aload_n 0, 1, [], .inl 0),
  (1, .ldc 100, 2, [8], .inl 0),
  (3, .invokevirtual 102, 3, [62, 2, 1, 5], .inl 0),
  (6, .ifCond .eq 22, 3, [28], .inl 0),
  (9, .aload_n 0, 1, [], .inl 0),
  (10, .ldc 105, 2, [11], .inl 0),
  (12, .invokevirtual 102, 3, [62, 2, 1, 5], .inl 0),
  (15, .ifCond .eq 13, 3, [28], .inl 0),
  (18, .aload_n 0, 1, [], .inl 0),
  (19, .iconst 1, 1, [], .inl (1)),
  (20, .bipush 12, 2, [], .inl (12)),
  (22, .invokevirtual 107, 3, [64, 3, 1, 5], .inl 0),
  (25, .ifCond .ne 5, 3, [30], .inl 0),
  (28, .iconst 0, 1, [], .inl (0)),
  (29, .ireturn, 1, [1], .inl 0),
  (30, .aload_n 0, 1, [], .inl 0),
  (31, .getfield 25, 3, [5, 0, 48, 0, 1], .inl 0),
  (34, .aload_n 0, 1, [], .inl 0),
  (35, .getfield 110, 3, [5, 6, 0], .inl 0),
  (38, .putfield 113, 3, [6, 0, 0], .inl 0),
  (41, .aload_n 0, 1, [], .inl 0),
  (42, .ldc 115, 2, [3], .inl 0),
  (44, .invokevirtual 102, 3, [62, 2, 1, 5], .inl 0),
  (47, .ifCond .eq 12, 3, [59], .inl 0),
  (50, .aload_n 0, 1, [], .inl 0),
  (51, .iconst 0, 1, [], .inl (0)),
  (52, .iconst 3, 1, [], .inl (3)),
  (53, .invokevirtual 107, 3, [64, 3, 1, 5], .inl 0),
  (56, .ifCond .ne 5, 3, [61], .inl 0),
  (59, .iconst 0, 1, [], .inl (0)),
  (60, .ireturn, 1, [1], .inl 0),
  (61, .aload_n 0, 1, [], .inl 0),
  (62, .getfield 25, 3, [5, 0, 48, 0, 1], .inl 0),
  (65, .aload_n 0, 1, [], .inl 0),
  (66, .getfield 110, 3, [5, 6, 0], .inl 0),
  (69, .putfield 117, 3, [6, 1, 0], .inl 0),
  (72, .aload_n 0, 1, [], .inl 0),
  (73, .ldc 119, 2, [6], .inl 0),
  (75, .invokevirtual 102, 3, [62, 2, 1, 5], .inl 0),
  (78, .ifCond .eq 13, 3, [91], .inl 0),
  (81, .aload_n 0, 1, [], .inl 0),
  (82, .iconst 0, 1, [], .inl (0)),
  (83, .bipush 10, 2, [], .inl (10)),
  (85, .invokevirtual 107, 3, [64, 3, 1, 5], .inl 0),
  (88, .ifCond .ne 5, 3, [93], .inl 0),
  (91, .iconst 0, 1, [], .inl (0)),
  (92, .ireturn, 1, [1], .inl 0),
  (93, .aload_n 0, 1, [], .inl 0),
  (94, .getfield 25, 3, [5, 0, 48, 0, 1], .inl 0),
  (97, .aload_n 0, 1, [], .inl 0),
  (98, .getfield 110, 3, [5, 6, 0], .inl 0),
  (101, .putfield 121, 3, [6, 2, 0], .inl 0),
  (104, .iconst 1, 1, [], .inl (1)),
  (105, .ireturn, 1, [1], .inl 0)]
/-- Reader.readPoint -/
def tb57 : List (Nat × Instr × Nat × List Nat × (Int32 ⊕ Int64)) := [(0, .aload_n 0, 1, [], .inl 0),
  (1, .aload_n 1, 1, [], .inl 0),
  (2, .invokevirtual 123, 3, [61, 2, 1, 5], .inl 0),
  (5, .ifCond .eq 13, 3, [18], .inl 0),
  (8, .aload_n 0, 1, [], .inl 0),
  (9, .iconst 0, 1, [], .inl (0)),
  (10, .bipush 30, 2, [], .inl (30)),
  (12, .invokevirtual 107, 3, [64, 3, 1, 5], .inl 0),
  (15, .ifCond .ne 5, 3, [20], .inl 0),
  (18, .iconst 0, 1, [], .inl (0)),
  (19, .ireturn, 1, [1], .inl 0),
  (20, .aload_n 0, 1, [], .inl 0),
  (21, .getfield 110, 3, [5, 6, 0], .inl 0),
  (24, .istore_n 2, 1, [], .inl 0),
  (25, .aload_n 0, 1, [], .inl 0),
  (26, .iconst 0, 1, [], .inl (0)),
  (27, .bipush 30, 2, [], .inl (30)),
  (29, .invokevirtual 107, 3, [64, 3, 1, 5], .inl 0),
  (32, .ifCond .ne 5, 3, [37], .inl 0),
  (35, .iconst 0, 1, [], .inl (0)),
  (36, .ireturn, 1, [1], .inl 0),
  (37, .aload_n 0, 1, [], .inl 0),
  (38, .getfield 25, 3, [5, 0, 48, 0, 1], .inl 0),
  (41, .iload_n 2, 1, [], .inl 0),
  (42, .aload_n 0, 1, [], .inl 0),
  (43, .getfield 110, 3, [5, 6, 0], .inl 0),
  (46, .invokevirtual 126, 3, [72, 3, 1, 6], .inl 0),
  (49, .ifCond .eq 13, 3, [62], .inl 0),
  (52, .aload_n 0, 1, [], .inl 0),
  (53, .iconst 2, 1, [], .inl (2)),
  (54, .aload_n 0, 1, [], .inl 0),
  (55, .getfield 129, 3, [5, 7, 0], .inl 0),
  (58, .invokevirtual 96, 3, [65, 3, 1, 5], .inl 0),
  (61, .ireturn, 1, [1], .inl 0),
  (62, .aload_n 1, 1, [], .inl 0),
  (63, .iload_n 2, 1, [], .inl 0),
  (64, .aload_n 0, 1, [], .inl 0),
  (65, .getfield 110, 3, [5, 6, 0], .inl 0),
  (68, .invokevirtual 132, 3, [46, 3, 0, 4], .inl 0),
  (71, .iconst 1, 1, [], .inl (1)),
  (72, .ireturn, 1, [1], .inl 0)]
/-- Reader.readWorth -/
def tb58 : List (Nat × Instr × Nat × List Nat × (Int32 ⊕ Int64)) := [(0, .aload_n 0, 1, [], .inl 0),
  (1, .ldc 138, 2, [10], .inl 0),
  (3, .invokevirtual 102, 3, [62, 2, 1, 5], .inl 0),
  (6, .ifCond .eq 13, 3, [19], .inl 0),
  (9, .aload_n 0, 1, [], .inl 0),
  (10, .iconst 0, 1, [], .inl (0)),
  (11, .bipush 99, 2, [], .inl (99)),
  (13, .invokevirtual 107, 3, [64, 3, 1, 5], .inl 0),
  (16, .ifCond .ne 5, 3, [21], .inl 0),
  (19, .iconst 0, 1, [], .inl (0)),
  (20, .ireturn, 1, [1], .inl 0),
  (21, .aload_n 0, 1, [], .inl 0),
  (22, .getfield 25, 3, [5, 0, 48, 0, 1], .inl 0),
  (25, .aload_n 0, 1, [], .inl 0),
  (26, .getfield 25, 3, [5, 0, 48, 0, 1], .inl 0),
  (29, .getfield 72, 3, [6, 5, 32, 2, 1], .inl 0),
  (32, .getfield 140, 3, [4, 2, 0], .inl 0),
  (35, .iconst 1, 1, [], .inl (1)),
  (36, .isub, 1, [], .inl 0),
  (37, .aload_n 0, 1, [], .inl 0),
  (38, .getfield 110, 3, [5, 6, 0], .inl 0),
  (41, .invokevirtual 143, 3, [75, 3, 0, 6], .inl 0),
  (44, .iconst 1, 1, [], .inl (1)),
  (45, .ireturn, 1, [1], .inl 0)]
/-- Reader.readWay -/
def tb59 : List (Nat × Instr × Nat × List Nat × (Int32 ⊕ Int64)) := [(0, .aload_n 0, 1, [], .inl 0),
  (1, .aload_n 0, 1, [], .inl 0),
  (2, .getfield 25, 3, [5, 0, 48, 0, 1], .inl 0),
  (5, .getfield 146, 3, [6, 8, 32, 2, 3], .inl 0),
  (8, .invokevirtual 123, 3, [61, 2, 1, 5], .inl 0),
  (11, .ifCond .eq 23, 3, [34], .inl 0),
  (14, .aload_n 0, 1, [], .inl 0),
  (15, .iconst 0, 1, [], .inl (0)),
  (16, .aload_n 0, 1, [], .inl 0),
  (17, .getfield 25, 3, [5, 0, 48, 0, 1], .inl 0),
  (20, .getfield 62, 3, [6, 4, 32, 2, 0], .inl 0),
  (23, .getfield 140, 3, [4, 2, 0], .inl 0),
  (26, .iconst 1, 1, [], .inl (1)),
  (27, .isub, 1, [], .inl 0),
  (28, .invokevirtual 107, 3, [64, 3, 1, 5], .inl 0),
  (31, .ifCond .ne 5, 3, [36], .inl 0),
  (34, .iconst 0, 1, [], .inl (0)),
  (35, .ireturn, 1, [1], .inl 0),
  (36, .aload_n 0, 1, [], .inl 0),
  (37, .getfield 110, 3, [5, 6, 0], .inl 0),
  (40, .istore_n 1, 1, [], .inl 0),
  (41, .aload_n 0, 1, [], .inl 0),
  (42, .iconst 0, 1, [], .inl (0)),
  (43, .aload_n 0, 1, [], .inl 0),
  (44, .getfield 25, 3, [5, 0, 48, 0, 1], .inl 0),
  (47, .getfield 62, 3, [6, 4, 32, 2, 0], .inl 0),
  (50, .getfield 140, 3, [4, 2, 0], .inl 0),
  (53, .iconst 1, 1, [], .inl (1)),
  (54, .isub, 1, [], .inl 0),
  (55, .invokevirtual 107, 3, [64, 3, 1, 5], .inl 0),
  (58, .ifCond .ne 5, 3, [63], .inl 0),
  (61, .iconst 0, 1, [], .inl (0)),
  (62, .ireturn, 1, [1], .inl 0),
  (63, .aload_n 0, 1, [], .inl 0),
  (64, .getfield 110, 3, [5, 6, 0], .inl 0),
  (67, .iload_n 1, 1, [], .inl 0),
  (68, .if_icmp .ne 13, 3, [81], .inl 0),
  (71, .aload_n 0, 1, [], .inl 0),
  (72, .iconst 2, 1, [], .inl (2)),
  (73, .aload_n 0, 1, [], .inl 0),
  (74, .getfield 129, 3, [5, 7, 0], .inl 0),
  (77, .invokevirtual 96, 3, [65, 3, 1, 5], .inl 0),
  (80, .ireturn, 1, [1], .inl 0),
  (81, .aload_n 0, 1, [], .inl 0),
  (82, .getfield 25, 3, [5, 0, 48, 0, 1], .inl 0),
  (85, .getfield 146, 3, [6, 8, 32, 2, 3], .inl 0),
  (88, .iload_n 1, 1, [], .inl 0),
  (89, .aload_n 0, 1, [], .inl 0),
  (90, .getfield 110, 3, [5, 6, 0], .inl 0),
  (93, .invokevirtual 132, 3, [46, 3, 0, 4], .inl 0),
  (96, .iconst 1, 1, [], .inl (1)),
  (97, .ireturn, 1, [1], .inl 0)]
/-- Reader.readLooker -/
def tb60 : List (Nat × Instr × Nat × List Nat × (Int32 ⊕ Int64)) := [(0, .aload_n 0, 1, [], .inl 0),
  (1, .aload_n 0, 1, [], .inl 0),
  (2, .getfield 25, 3, [5, 0, 48, 0, 1], .inl 0),
  (5, .getfield 149, 3, [6, 9, 32, 2, 4], .inl 0),
  (8, .invokevirtual 123, 3, [61, 2, 1, 5], .inl 0),
  (11, .ifCond .eq 32, 3, [43], .inl 0),
  (14, .aload_n 0, 1, [], .inl 0),
  (15, .ldc 152, 2, [0], .inl 0),
  (17, .invokevirtual 102, 3, [62, 2, 1, 5], .inl 0),
  (20, .ifCond .eq 23, 3, [43], .inl 0),
  (23, .aload_n 0, 1, [], .inl 0),
  (24, .iconst 0, 1, [], .inl (0)),
  (25, .aload_n 0, 1, [], .inl 0),
  (26, .getfield 25, 3, [5, 0, 48, 0, 1], .inl 0),
  (29, .getfield 62, 3, [6, 4, 32, 2, 0], .inl 0),
  (32, .getfield 140, 3, [4, 2, 0], .inl 0),
  (35, .iconst 1, 1, [], .inl (1)),
  (36, .isub, 1, [], .inl 0),
  (37, .invokevirtual 107, 3, [64, 3, 1, 5], .inl 0),
  (40, .ifCond .ne 5, 3, [45], .inl 0),
  (43, .iconst 0, 1, [], .inl (0)),
  (44, .ireturn, 1, [1], .inl 0),
  (45, .aload_n 0, 1, [], .inl 0),
  (46, .getfield 110, 3, [5, 6, 0], .inl 0),
  (49, .istore_n 1, 1, [], .inl 0),
  (50, .aload_n 0, 1, [], .inl 0),
  (51, .getfield 25, 3, [5, 0, 48, 0, 1], .inl 0),
  (54, .getfield 149, 3, [6, 9, 32, 2, 4], .inl 0),
  (57, .iload_n 1, 1, [], .inl 0),
  (58, .invokevirtual 154, 3, [50, 2, 1, 4], .inl 0),
  (61, .ifCond .eq 13, 3, [74], .inl 0),
  (64, .aload_n 0, 1, [], .inl 0),
  (65, .iconst 2, 1, [], .inl (2)),
  (66, .aload_n 0, 1, [], .inl 0),
  (67, .getfield 129, 3, [5, 7, 0], .inl 0),
  (70, .invokevirtual 96, 3, [65, 3, 1, 5], .inl 0),
  (73, .ireturn, 1, [1], .inl 0),
  (74, .aload_n 0, 1, [], .inl 0),
  (75, .ldc 158, 2, [2], .inl 0),
  (77, .invokevirtual 102, 3, [62, 2, 1, 5], .inl 0),
  (80, .ifCond .eq 23, 3, [103], .inl 0),
  (83, .aload_n 0, 1, [], .inl 0),
  (84, .iconst 0, 1, [], .inl (0)),
  (85, .aload_n 0, 1, [], .inl 0),
  (86, .getfield 25, 3, [5, 0, 48, 0, 1], .inl 0),
  (89, .getfield 72, 3, [6, 5, 32, 2, 1], .inl 0),
  (92, .getfield 140, 3, [4, 2, 0], .inl 0),
  (95, .iconst 1, 1, [], .inl (1)),
  (96, .isub, 1, [], .inl 0),
  (97, .invokevirtual 107, 3, [64, 3, 1, 5], .inl 0),
  (100, .ifCond .ne 5, 3, [105], .inl 0),
  (103, .iconst 0, 1, [], .inl (0)),
  (104, .ireturn, 1, [1], .inl 0),
  (105, .aload_n 0, 1, [], .inl 0),
  (106, .getfield 25, 3, [5, 0, 48, 0, 1], .inl 0),
  (109, .getfield 149, 3, [6, 9, 32, 2, 4], .inl 0),
  (112, .iload_n 1, 1, [], .inl 0),
  (113, .aload_n 0, 1, [], .inl 0),
  (114, .getfield 110, 3, [5, 6, 0], .inl 0),
  (117, .invokevirtual 132, 3, [46, 3, 0, 4], .inl 0),
  (120, .iconst 1, 1, [], .inl (1)),
  (121, .ireturn, 1, [1], .inl 0)]
/-- Reader.takeHead -/
def tb61 : List (Nat × Instr × Nat × List Nat × (Int32 ⊕ Int64)) := [(0, .aload_n 1, 1, [], .inl 0),
  (1, .invokevirtual 160, 3, [45, 1, 1, 4], .inl 0),
  (4, .ifCond .eq 13, 3, [17], .inl 0),
  (7, .aload_n 0, 1, [], .inl 0),
  (8, .iconst 3, 1, [], .inl (3)),
  (9, .aload_n 0, 1, [], .inl 0),
  (10, .getfield 93, 3, [5, 4, 0], .inl 0),
  (13, .invokevirtual 96, 3, [65, 3, 1, 5], .inl 0),
  (16, .ireturn, 1, [1], .inl 0),
  (17, .aload_n 0, 1, [], .inl 0),
  (18, .invokevirtual 37, 3, [68, 1, 0, 5], .inl 0),
  (21, .iconst 1, 1, [], .inl (1)),
  (22, .ireturn, 1, [1], .inl 0)]
/-- Reader.takeWord -/
def tb62 : List (Nat × Instr × Nat × List Nat × (Int32 ⊕ Int64)) := [(0, .aload_n 0, 1, [], .inl 0),
  (1, .aload_n 1, 1, [], .inl 0),
  (2, .invokevirtual 58, 3, [66, 2, 1, 5], .inl 0),
  (5, .ifCond .ne 13, 3, [18], .inl 0),
  (8, .aload_n 0, 1, [], .inl 0),
  (9, .iconst 1, 1, [], .inl (1)),
  (10, .aload_n 0, 1, [], .inl 0),
  (11, .getfield 93, 3, [5, 4, 0], .inl 0),
  (14, .invokevirtual 96, 3, [65, 3, 1, 5], .inl 0),
  (17, .ireturn, 1, [1], .inl 0),
  (18, .aload_n 0, 1, [], .inl 0),
  (19, .invokevirtual 37, 3, [68, 1, 0, 5], .inl 0),
  (22, .iconst 1, 1, [], .inl (1)),
  (23, .ireturn, 1, [1], .inl 0)]
/-- Reader.takeSign -/
def tb63 : List (Nat × Instr × Nat × List Nat × (Int32 ⊕ Int64)) := [(0, .aload_n 0, 1, [], .inl 0),
  (1, .getfield 40, 3, [5, 3, 0], .inl 0),
  (4, .iconst 3, 1, [], .inl (3)),
  (5, .if_icmp .eq 13, 3, [18], .inl 0),
  (8, .aload_n 0, 1, [], .inl 0),
  (9, .iconst 1, 1, [], .inl (1)),
  (10, .aload_n 0, 1, [], .inl 0),
  (11, .getfield 93, 3, [5, 4, 0], .inl 0),
  (14, .invokevirtual 96, 3, [65, 3, 1, 5], .inl 0),
  (17, .ireturn, 1, [1], .inl 0),
  (18, .aload_n 0, 1, [], .inl 0),
  (19, .invokevirtual 37, 3, [68, 1, 0, 5], .inl 0),
  (22, .iconst 1, 1, [], .inl (1)),
  (23, .ireturn, 1, [1], .inl 0)]
/-- Reader.takeNumber -/
def tb64 : List (Nat × Instr × Nat × List Nat × (Int32 ⊕ Int64)) := [(0, .aload_n 0, 1, [], .inl 0),
  (1, .getfield 40, 3, [5, 3, 0], .inl 0),
  (4, .iconst 2, 1, [], .inl (2)),
  (5, .if_icmp .eq 13, 3, [18], .inl 0),
  (8, .aload_n 0, 1, [], .inl 0),
  (9, .iconst 1, 1, [], .inl (1)),
  (10, .aload_n 0, 1, [], .inl 0),
  (11, .getfield 93, 3, [5, 4, 0], .inl 0),
  (14, .invokevirtual 96, 3, [65, 3, 1, 5], .inl 0),
  (17, .ireturn, 1, [1], .inl 0),
  (18, .aload_n 0, 1, [], .inl 0),
  (19, .aload_n 0, 1, [], .inl 0),
  (20, .invokevirtual 163, 3, [67, 1, 1, 5], .inl 0),
  (23, .putfield 110, 3, [5, 6, 0], .inl 0),
  (26, .aload_n 0, 1, [], .inl 0),
  (27, .aload_n 0, 1, [], .inl 0),
  (28, .getfield 93, 3, [5, 4, 0], .inl 0),
  (31, .putfield 129, 3, [5, 7, 0], .inl 0),
  (34, .aload_n 0, 1, [], .inl 0),
  (35, .getfield 110, 3, [5, 6, 0], .inl 0),
  (38, .iload_n 1, 1, [], .inl 0),
  (39, .if_icmp .lt 11, 3, [50], .inl 0),
  (42, .aload_n 0, 1, [], .inl 0),
  (43, .getfield 110, 3, [5, 6, 0], .inl 0),
  (46, .iload_n 2, 1, [], .inl 0),
  (47, .if_icmp .le 13, 3, [60], .inl 0),
  (50, .aload_n 0, 1, [], .inl 0),
  (51, .iconst 2, 1, [], .inl (2)),
  (52, .aload_n 0, 1, [], .inl 0),
  (53, .getfield 93, 3, [5, 4, 0], .inl 0),
  (56, .invokevirtual 96, 3, [65, 3, 1, 5], .inl 0),
  (59, .ireturn, 1, [1], .inl 0),
  (60, .aload_n 0, 1, [], .inl 0),
  (61, .invokevirtual 37, 3, [68, 1, 0, 5], .inl 0),
  (64, .iconst 1, 1, [], .inl (1)),
  (65, .ireturn, 1, [1], .inl 0)]
/-- Reader.refuse -/
def tb65 : List (Nat × Instr × Nat × List Nat × (Int32 ⊕ Int64)) := [(0, .aload_n 0, 1, [], .inl 0),
  (1, .iload_n 1, 1, [], .inl 0),
  (2, .putfield 19, 3, [5, 8, 0], .inl 0),
  (5, .aload_n 0, 1, [], .inl 0),
  (6, .iload_n 2, 1, [], .inl 0),
  (7, .putfield 22, 3, [5, 9, 0], .inl 0),
  (10, .iconst 0, 1, [], .inl (0)),
  (11, .ireturn, 1, [1], .inl 0)]
/-- Reader.isWord -/
def tb66 : List (Nat × Instr × Nat × List Nat × (Int32 ⊕ Int64)) := [(0, .aload_n 0, 1, [], .inl 0),
  (1, .getfield 40, 3, [5, 3, 0], .inl 0),
  (4, .iconst 1, 1, [], .inl (1)),
  (5, .if_icmp .ne 29, 3, [34], .inl 0),
  (8, .aload_n 0, 1, [], .inl 0),
  (9, .getfield 34, 3, [5, 5, 0], .inl 0),
  (12, .aload_n 0, 1, [], .inl 0),
  (13, .getfield 93, 3, [5, 4, 0], .inl 0),
  (16, .isub, 1, [], .inl 0),
  (17, .aload_n 1, 1, [], .inl 0),
  (18, .invokevirtual 167, 3, [1], .inl 0),
  (21, .if_icmp .ne 13, 3, [34], .inl 0),
  (24, .aload_n 0, 1, [], .inl 0),
  (25, .getfield 34, 3, [5, 5, 0], .inl 0),
  (28, .sipush 700, 3, [], .inl (700)),
  (31, .if_icmp .le 5, 3, [36], .inl 0),
  (34, .iconst 0, 1, [], .inl (0)),
  (35, .ireturn, 1, [1], .inl 0),
  (36, .aload_n 0, 1, [], .inl 0),
  (37, .getfield 93, 3, [5, 4, 0], .inl 0),
  (40, .istore_n 2, 1, [], .inl 0),
  (41, .iload_n 2, 1, [], .inl 0),
  (42, .aload_n 0, 1, [], .inl 0),
  (43, .getfield 34, 3, [5, 5, 0], .inl 0),
  (46, .if_icmp .ge 30, 3, [76], .inl 0),
  (49, .aload_n 0, 1, [], .inl 0),
  (50, .getfield 9, 3, [5, 1, 358555, 0, 0], .inl 0),
  (53, .iload_n 2, 1, [], .inl 0),
  (54, .baload, 1, [], .inl 0),
  (55, .aload_n 1, 1, [], .inl 0),
  (56, .iload_n 2, 1, [], .inl 0),
  (57, .aload_n 0, 1, [], .inl 0),
  (58, .getfield 93, 3, [5, 4, 0], .inl 0),
  (61, .isub, 1, [], .inl 0),
  (62, .invokevirtual 171, 3, [2], .inl 0),
  (65, .if_icmp .eq 5, 3, [70], .inl 0),
  (68, .iconst 0, 1, [], .inl (0)),
  (69, .ireturn, 1, [1], .inl 0),
  (70, .iinc 2 1, 3, [], .inl (1)),
  (73, .goto (-32), 3, [41], .inl 0),
  (76, .iconst 1, 1, [], .inl (1)),
  (77, .ireturn, 1, [1], .inl 0)]
/-- Reader.numberOfToken -/
def tb67 : List (Nat × Instr × Nat × List Nat × (Int32 ⊕ Int64)) := [(0, .iconst 0, 1, [], .inl (0)),
  (1, .istore_n 1, 1, [], .inl 0),
  (2, .aload_n 0, 1, [], .inl 0),
  (3, .getfield 93, 3, [5, 4, 0], .inl 0),
  (6, .istore_n 2, 1, [], .inl 0),
  (7, .iload_n 2, 1, [], .inl 0),
  (8, .aload_n 0, 1, [], .inl 0),
  (9, .getfield 34, 3, [5, 5, 0], .inl 0),
  (12, .if_icmp .ge 36, 3, [48], .inl 0),
  (15, .iload_n 2, 1, [], .inl 0),
  (16, .sipush 700, 3, [], .inl (700)),
  (19, .if_icmp .ge 29, 3, [48], .inl 0),
  (22, .iload_n 1, 1, [], .inl 0),
  (23, .bipush 10, 2, [], .inl (10)),
  (25, .imul, 1, [], .inl 0),
  (26, .aload_n 0, 1, [], .inl 0),
  (27, .getfield 9, 3, [5, 1, 358555, 0, 0], .inl 0),
  (30, .iload_n 2, 1, [], .inl 0),
  (31, .baload, 1, [], .inl 0),
  (32, .iadd, 1, [], .inl 0),
  (33, .bipush 48, 2, [], .inl (48)),
  (35, .isub, 1, [], .inl 0),
  (36, .ldc 175, 2, [], .inl (1000000)),
  (38, .invokestatic 176, 3, [4], .inl 0),
  (41, .istore_n 1, 1, [], .inl 0),
  (42, .iinc 2 1, 3, [], .inl (1)),
  (45, .goto (-38), 3, [7], .inl 0),
  (48, .iload_n 1, 1, [], .inl 0),
  (49, .ireturn, 1, [], .inl 0)]
/-- Reader.nextToken -/
def tb68 : List (Nat × Instr × Nat × List Nat × (Int32 ⊕ Int64)) := [(0, .aload_n 0, 1, [], .inl 0),
  (1, .aload_n 0, 1, [], .inl 0),
  (2, .getfield 34, 3, [5, 5, 0], .inl 0),
  (5, .putfield 93, 3, [5, 4, 0], .inl 0),
  (8, .aload_n 0, 1, [], .inl 0),
  (9, .getfield 34, 3, [5, 5, 0], .inl 0),
  (12, .istore_n 1, 1, [], .inl 0),
  (13, .iload_n 1, 1, [], .inl 0),
  (14, .aload_n 0, 1, [], .inl 0),
  (15, .getfield 15, 3, [5, 2, 0], .inl 0),
  (18, .if_icmp .ge 25, 3, [43], .inl 0),
  (21, .aload_n 0, 1, [], .inl 0),
  (22, .iload_n 1, 1, [], .inl 0),
  (23, .invokevirtual 182, 3, [69, 2, 1, 5], .inl 0),
  (26, .iconst 5, 1, [], .inl (5)),
  (27, .if_icmp .ne 16, 3, [43], .inl 0),
  (30, .aload_n 0, 1, [], .inl 0),
  (31, .iload_n 1, 1, [], .inl 0),
  (32, .iconst 1, 1, [], .inl (1)),
  (33, .iadd, 1, [], .inl 0),
  (34, .putfield 93, 3, [5, 4, 0], .inl 0),
  (37, .iinc 1 1, 3, [], .inl (1)),
  (40, .goto (-27), 3, [13], .inl 0),
  (43, .aload_n 0, 1, [], .inl 0),
  (44, .aload_n 0, 1, [], .inl 0),
  (45, .aload_n 0, 1, [], .inl 0),
  (46, .getfield 93, 3, [5, 4, 0], .inl 0),
  (49, .invokevirtual 182, 3, [69, 2, 1, 5], .inl 0),
  (52, .putfield 40, 3, [5, 3, 0], .inl 0),
  (55, .aload_n 0, 1, [], .inl 0),
  (56, .aload_n 0, 1, [], .inl 0),
  (57, .getfield 93, 3, [5, 4, 0], .inl 0),
  (60, .iconst 1, 1, [], .inl (1)),
  (61, .iadd, 1, [], .inl 0),
  (62, .aload_n 0, 1, [], .inl 0),
  (63, .getfield 15, 3, [5, 2, 0], .inl 0),
  (66, .invokestatic 176, 3, [4], .inl 0),
  (69, .putfield 34, 3, [5, 5, 0], .inl 0),
  (72, .aload_n 0, 1, [], .inl 0),
  (73, .getfield 40, 3, [5, 3, 0], .inl 0),
  (76, .iconst 1, 1, [], .inl (1)),
  (77, .if_icmp .eq 11, 3, [88], .inl 0),
  (80, .aload_n 0, 1, [], .inl 0),
  (81, .getfield 40, 3, [5, 3, 0], .inl 0),
  (84, .iconst 2, 1, [], .inl (2)),
  (85, .if_icmp .ne 41, 3, [126], .inl 0),
  (88, .aload_n 0, 1, [], .inl 0),
  (89, .getfield 34, 3, [5, 5, 0], .inl 0),
  (92, .istore_n 1, 1, [], .inl 0),
  (93, .iload_n 1, 1, [], .inl 0),
  (94, .aload_n 0, 1, [], .inl 0),
  (95, .getfield 15, 3, [5, 2, 0], .inl 0),
  (98, .if_icmp .ge 28, 3, [126], .inl 0),
  (101, .aload_n 0, 1, [], .inl 0),
  (102, .iload_n 1, 1, [], .inl 0),
  (103, .invokevirtual 182, 3, [69, 2, 1, 5], .inl 0),
  (106, .aload_n 0, 1, [], .inl 0),
  (107, .getfield 40, 3, [5, 3, 0], .inl 0),
  (110, .if_icmp .ne 16, 3, [126], .inl 0),
  (113, .aload_n 0, 1, [], .inl 0),
  (114, .iload_n 1, 1, [], .inl 0),
  (115, .iconst 1, 1, [], .inl (1)),
  (116, .iadd, 1, [], .inl 0),
  (117, .putfield 34, 3, [5, 5, 0], .inl 0),
  (120, .iinc 1 1, 3, [], .inl (1)),
  (123, .goto (-30), 3, [93], .inl 0),
  (126, .return_, 1, [], .inl 0)]
/-- Reader.kindAt -/
def tb69 : List (Nat × Instr × Nat × List Nat × (Int32 ⊕ Int64)) := [(0, .iload_n 1, 1, [], .inl 0),
  (1, .ifCond .lt 18, 3, [19], .inl 0),
  (4, .iload_n 1, 1, [], .inl 0),
  (5, .aload_n 0, 1, [], .inl 0),
  (6, .getfield 15, 3, [5, 2, 0], .inl 0),
  (9, .if_icmp .ge 10, 3, [19], .inl 0),
  (12, .iload_n 1, 1, [], .inl 0),
  (13, .sipush 700, 3, [], .inl (700)),
  (16, .if_icmp .lt 5, 3, [21], .inl 0),
  (19, .iconst 0, 1, [], .inl (0)),
  (20, .ireturn, 1, [], .inl 0),
  (21, .aload_n 0, 1, [], .inl 0),
  (22, .getfield 9, 3, [5, 1, 358555, 0, 0], .inl 0),
  (25, .iload_n 1, 1, [], .inl 0),
  (26, .baload, 1, [], .inl 0),
  (27, .istore_n 2, 1, [], .inl 0),
  (28, .iload_n 2, 1, [], .inl 0),
  (29, .bipush 32, 2, [], .inl (32)),
  (31, .if_icmp .eq 9, 3, [40], .inl 0),
  (34, .iload_n 2, 1, [], .inl 0),
  (35, .bipush 10, 2, [], .inl (10)),
  (37, .if_icmp .ne 5, 3, [42], .inl 0),
  (40, .iconst 5, 1, [], .inl (5)),
  (41, .ireturn, 1, [], .inl 0),
  (42, .iload_n 2, 1, [], .inl 0),
  (43, .bipush 97, 2, [], .inl (97)),
  (45, .if_icmp .lt 11, 3, [56], .inl 0),
  (48, .iload_n 2, 1, [], .inl 0),
  (49, .bipush 122, 2, [], .inl (122)),
  (51, .if_icmp .gt 5, 3, [56], .inl 0),
  (54, .iconst 1, 1, [], .inl (1)),
  (55, .ireturn, 1, [], .inl 0),
  (56, .iload_n 2, 1, [], .inl 0),
  (57, .bipush 48, 2, [], .inl (48)),
  (59, .if_icmp .lt 11, 3, [70], .inl 0),
  (62, .iload_n 2, 1, [], .inl 0),
  (63, .bipush 57, 2, [], .inl (57)),
  (65, .if_icmp .gt 5, 3, [70], .inl 0),
  (68, .iconst 2, 1, [], .inl (2)),
  (69, .ireturn, 1, [], .inl 0),
  (70, .iload_n 2, 1, [], .inl 0),
  (71, .bipush 59, 2, [], .inl (59)),
  (73, .if_icmp .ne 7, 3, [80], .inl 0),
  (76, .iconst 3, 1, [], .inl (3)),
  (77, .goto 4, 3, [81], .inl 0),
  (80, .iconst 4, 1, [], .inl (4)),
  (81, .ireturn, 1, [], .inl 0)]
/-- Roof.isTold -/
def tb70 : List (Nat × Instr × Nat × List Nat × (Int32 ⊕ Int64)) := [(0, .aload_n 0, 1, [], .inl 0),
  (1, .getfield 43, 3, [6, 3, 0], .inl 0),
  (4, .ifCond .le 7, 3, [11], .inl 0),
  (7, .iconst 1, 1, [], .inl (1)),
  (8, .goto 4, 3, [12], .inl 0),
  (11, .iconst 0, 1, [], .inl (0)),
  (12, .ireturn, 1, [1], .inl 0)]
/-- Roof.hasYear -/
def tb71 : List (Nat × Instr × Nat × List Nat × (Int32 ⊕ Int64)) := [(0, .aload_n 0, 1, [], .inl 0),
  (1, .invokevirtual 47, 3, [70, 1, 1, 6], .inl 0),
  (4, .ifCond .eq 19, 3, [23], .inl 0),
  (7, .iload_n 1, 1, [], .inl 0),
  (8, .ifCond .lt 15, 3, [23], .inl 0),
  (11, .iload_n 1, 1, [], .inl 0),
  (12, .aload_n 0, 1, [], .inl 0),
  (13, .getfield 51, 3, [6, 0, 0], .inl 0),
  (16, .if_icmp .gt 7, 3, [23], .inl 0),
  (19, .iconst 1, 1, [], .inl (1)),
  (20, .goto 4, 3, [24], .inl 0),
  (23, .iconst 0, 1, [], .inl (0)),
  (24, .ireturn, 1, [1], .inl 0)]
/-- Roof.isTaken -/
def tb72 : List (Nat × Instr × Nat × List Nat × (Int32 ⊕ Int64)) := [(0, .aload_n 0, 1, [], .inl 0),
  (1, .getfield 14, 3, [6, 4, 32, 2, 0], .inl 0),
  (4, .iload_n 1, 1, [], .inl 0),
  (5, .iload_n 2, 1, [], .inl 0),
  (6, .invokevirtual 54, 3, [49, 3, 1, 4], .inl 0),
  (9, .ifCond .ne 27, 3, [36], .inl 0),
  (12, .aload_n 0, 1, [], .inl 0),
  (13, .getfield 20, 3, [6, 5, 32, 2, 1], .inl 0),
  (16, .iload_n 1, 1, [], .inl 0),
  (17, .iload_n 2, 1, [], .inl 0),
  (18, .invokevirtual 54, 3, [49, 3, 1, 4], .inl 0),
  (21, .ifCond .ne 15, 3, [36], .inl 0),
  (24, .aload_n 0, 1, [], .inl 0),
  (25, .getfield 27, 3, [6, 7, 32, 2, 2], .inl 0),
  (28, .iload_n 1, 1, [], .inl 0),
  (29, .iload_n 2, 1, [], .inl 0),
  (30, .invokevirtual 54, 3, [49, 3, 1, 4], .inl 0),
  (33, .ifCond .eq 7, 3, [40], .inl 0),
  (36, .iconst 1, 1, [], .inl (1)),
  (37, .goto 4, 3, [41], .inl 0),
  (40, .iconst 0, 1, [], .inl (0)),
  (41, .ireturn, 1, [1], .inl 0)]
/-- Roof.isFallen -/
def tb73 : List (Nat × Instr × Nat × List Nat × (Int32 ⊕ Int64)) := [(0, .aload_n 0, 1, [], .inl 0),
  (1, .getfield 39, 3, [6, 10, 0, 1, 0], .inl 0),
  (4, .iload_n 1, 1, [], .inl 0),
  (5, .invokevirtual 58, 3, [4, 2, 1, 0], .inl 0),
  (8, .ireturn, 1, [1], .inl 0)]
/-- Roof.worthOfMark -/
def tb74 : List (Nat × Instr × Nat × List Nat × (Int32 ⊕ Int64)) := [(0, .aload_n 0, 1, [], .inl 0),
  (1, .getfield 20, 3, [6, 5, 32, 2, 1], .inl 0),
  (4, .iload_n 1, 1, [], .inl 0),
  (5, .invokevirtual 62, 3, [44, 2, 1, 4], .inl 0),
  (8, .ifCond .eq 12, 3, [20], .inl 0),
  (11, .aload_n 0, 1, [], .inl 0),
  (12, .getfield 23, 3, [6, 6, 3705, 1, 0], .inl 0),
  (15, .iload_n 1, 1, [], .inl 0),
  (16, .iaload, 1, [], .inl 0),
  (17, .goto 4, 3, [21], .inl 0),
  (20, .iconst 0, 1, [], .inl (0)),
  (21, .ireturn, 1, [], .inl 0)]
/-- Roof.setWorth -/
def tb75 : List (Nat × Instr × Nat × List Nat × (Int32 ⊕ Int64)) := [(0, .aload_n 0, 1, [], .inl 0),
  (1, .getfield 20, 3, [6, 5, 32, 2, 1], .inl 0),
  (4, .iload_n 1, 1, [], .inl 0),
  (5, .invokevirtual 62, 3, [44, 2, 1, 4], .inl 0),
  (8, .ifCond .eq 10, 3, [18], .inl 0),
  (11, .aload_n 0, 1, [], .inl 0),
  (12, .getfield 23, 3, [6, 6, 3705, 1, 0], .inl 0),
  (15, .iload_n 1, 1, [], .inl 0),
  (16, .iload_n 2, 1, [], .inl 0),
  (17, .iastore, 1, [], .inl 0),
  (18, .return_, 1, [], .inl 0)]
/-- Roof.worthOfSet -/
def tb76 : List (Nat × Instr × Nat × List Nat × (Int32 ⊕ Int64)) := [(0, .iconst 0, 1, [], .inl (0)),
  (1, .istore_n 2, 1, [], .inl 0),
  (2, .iconst 0, 1, [], .inl (0)),
  (3, .istore_n 3, 1, [], .inl 0),
  (4, .iload_n 3, 1, [], .inl 0),
  (5, .aload_n 0, 1, [], .inl 0),
  (6, .getfield 20, 3, [6, 5, 32, 2, 1], .inl 0),
  (9, .getfield 65, 3, [4, 2, 0], .inl 0),
  (12, .if_icmp .ge 26, 3, [38], .inl 0),
  (15, .iload_n 1, 1, [], .inl 0),
  (16, .iload_n 3, 1, [], .inl 0),
  (17, .ishr, 1, [], .inl 0),
  (18, .iconst 1, 1, [], .inl (1)),
  (19, .iand, 1, [], .inl 0),
  (20, .ifCond .eq 12, 3, [32], .inl 0),
  (23, .iload_n 2, 1, [], .inl 0),
  (24, .aload_n 0, 1, [], .inl 0),
  (25, .getfield 23, 3, [6, 6, 3705, 1, 0], .inl 0),
  (28, .iload_n 3, 1, [], .inl 0),
  (29, .iaload, 1, [], .inl 0),
  (30, .iadd, 1, [], .inl 0),
  (31, .istore_n 2, 1, [], .inl 0),
  (32, .iinc 3 1, 3, [], .inl (1)),
  (35, .goto (-31), 3, [4], .inl 0),
  (38, .iload_n 2, 1, [], .inl 0),
  (39, .ireturn, 1, [], .inl 0)]
/-- Roof.neighbours -/
def tb77 : List (Nat × Instr × Nat × List Nat × (Int32 ⊕ Int64)) := [(0, .iconst 0, 1, [], .inl (0)),
  (1, .istore_n 2, 1, [], .inl 0),
  (2, .iconst 0, 1, [], .inl (0)),
  (3, .istore_n 3, 1, [], .inl 0),
  (4, .iload_n 3, 1, [], .inl 0),
  (5, .aload_n 0, 1, [], .inl 0),
  (6, .getfield 30, 3, [6, 8, 32, 2, 3], .inl 0),
  (9, .getfield 65, 3, [4, 2, 0], .inl 0),
  (12, .if_icmp .ge 59, 3, [71], .inl 0),
  (15, .aload_n 0, 1, [], .inl 0),
  (16, .getfield 30, 3, [6, 8, 32, 2, 3], .inl 0),
  (19, .iload_n 3, 1, [], .inl 0),
  (20, .invokevirtual 68, 3, [47, 2, 1, 4], .inl 0),
  (23, .iload_n 1, 1, [], .inl 0),
  (24, .if_icmp .ne 16, 3, [40], .inl 0),
  (27, .iload_n 2, 1, [], .inl 0),
  (28, .iconst 1, 1, [], .inl (1)),
  (29, .aload_n 0, 1, [], .inl 0),
  (30, .getfield 30, 3, [6, 8, 32, 2, 3], .inl 0),
  (33, .iload_n 3, 1, [], .inl 0),
  (34, .invokevirtual 72, 3, [48, 2, 1, 4], .inl 0),
  (37, .ishl, 1, [], .inl 0),
  (38, .ior, 1, [], .inl 0),
  (39, .istore_n 2, 1, [], .inl 0),
  (40, .aload_n 0, 1, [], .inl 0),
  (41, .getfield 30, 3, [6, 8, 32, 2, 3], .inl 0),
  (44, .iload_n 3, 1, [], .inl 0),
  (45, .invokevirtual 72, 3, [48, 2, 1, 4], .inl 0),
  (48, .iload_n 1, 1, [], .inl 0),
  (49, .if_icmp .ne 16, 3, [65], .inl 0),
  (52, .iload_n 2, 1, [], .inl 0),
  (53, .iconst 1, 1, [], .inl (1)),
  (54, .aload_n 0, 1, [], .inl 0),
  (55, .getfield 30, 3, [6, 8, 32, 2, 3], .inl 0),
  (58, .iload_n 3, 1, [], .inl 0),
  (59, .invokevirtual 68, 3, [47, 2, 1, 4], .inl 0),
  (62, .ishl, 1, [], .inl 0),
  (63, .ior, 1, [], .inl 0),
  (64, .istore_n 2, 1, [], .inl 0),
  (65, .iinc 3 1, 3, [], .inl (1)),
  (68, .goto (-64), 3, [4], .inl 0),
  (71, .iload_n 2, 1, [], .inl 0),
  (72, .ireturn, 1, [], .inl 0)]
/-- Roof.nextIn -/
def tb78 : List (Nat × Instr × Nat × List Nat × (Int32 ⊕ Int64)) := [(0, .iload_n 2, 1, [], .inl 0),
  (1, .istore_n 3, 1, [], .inl 0),
  (2, .iconst 0, 1, [], .inl (0)),
  (3, .istore 4, 2, [], .inl 0),
  (5, .iload 4, 2, [], .inl 0),
  (7, .aload_n 0, 1, [], .inl 0),
  (8, .getfield 14, 3, [6, 4, 32, 2, 0], .inl 0),
  (11, .getfield 65, 3, [4, 2, 0], .inl 0),
  (14, .if_icmp .ge 40, 3, [54], .inl 0),
  (17, .iload_n 3, 1, [], .inl 0),
  (18, .iconst 1, 1, [], .inl (1)),
  (19, .iadd, 1, [], .inl 0),
  (20, .aload_n 0, 1, [], .inl 0),
  (21, .getfield 14, 3, [6, 4, 32, 2, 0], .inl 0),
  (24, .getfield 65, 3, [4, 2, 0], .inl 0),
  (27, .if_icmp .ge 9, 3, [36], .inl 0),
  (30, .iload_n 3, 1, [], .inl 0),
  (31, .iconst 1, 1, [], .inl (1)),
  (32, .iadd, 1, [], .inl 0),
  (33, .goto 4, 3, [37], .inl 0),
  (36, .iconst 0, 1, [], .inl (0)),
  (37, .istore_n 3, 1, [], .inl 0),
  (38, .iload_n 1, 1, [], .inl 0),
  (39, .iload_n 3, 1, [], .inl 0),
  (40, .ishr, 1, [], .inl 0),
  (41, .iconst 1, 1, [], .inl (1)),
  (42, .iand, 1, [], .inl 0),
  (43, .ifCond .eq 5, 3, [48], .inl 0),
  (46, .iload_n 3, 1, [], .inl 0),
  (47, .ireturn, 1, [], .inl 0),
  (48, .iinc 4 1, 3, [], .inl (1)),
  (51, .goto (-46), 3, [5], .inl 0),
  (54, .iload_n 2, 1, [], .inl 0),
  (55, .ireturn, 1, [], .inl 0)]
/-- Roof.makeEmpty -/
def tb79 : List (Nat × Instr × Nat × List Nat × (Int32 ⊕ Int64)) := [(0, .aload_n 0, 1, [], .inl 0),
  (1, .iconst 0, 1, [], .inl (0)),
  (2, .putfield 51, 3, [6, 0, 0], .inl 0),
  (5, .aload_n 0, 1, [], .inl 0),
  (6, .iconst 0, 1, [], .inl (0)),
  (7, .putfield 75, 3, [6, 1, 0], .inl 0),
  (10, .aload_n 0, 1, [], .inl 0),
  (11, .iconst 0, 1, [], .inl (0)),
  (12, .putfield 78, 3, [6, 2, 0], .inl 0),
  (15, .aload_n 0, 1, [], .inl 0),
  (16, .iconst 0, 1, [], .inl (0)),
  (17, .putfield 43, 3, [6, 3, 0], .inl 0),
  (20, .aload_n 0, 1, [], .inl 0),
  (21, .getfield 14, 3, [6, 4, 32, 2, 0], .inl 0),
  (24, .iconst 0, 1, [], .inl (0)),
  (25, .putfield 65, 3, [4, 2, 0], .inl 0),
  (28, .aload_n 0, 1, [], .inl 0),
  (29, .getfield 20, 3, [6, 5, 32, 2, 1], .inl 0),
  (32, .iconst 0, 1, [], .inl (0)),
  (33, .putfield 65, 3, [4, 2, 0], .inl 0),
  (36, .aload_n 0, 1, [], .inl 0),
  (37, .getfield 27, 3, [6, 7, 32, 2, 2], .inl 0),
  (40, .iconst 0, 1, [], .inl (0)),
  (41, .putfield 65, 3, [4, 2, 0], .inl 0),
  (44, .aload_n 0, 1, [], .inl 0),
  (45, .getfield 30, 3, [6, 8, 32, 2, 3], .inl 0),
  (48, .iconst 0, 1, [], .inl (0)),
  (49, .putfield 65, 3, [4, 2, 0], .inl 0),
  (52, .aload_n 0, 1, [], .inl 0),
  (53, .getfield 33, 3, [6, 9, 32, 2, 4], .inl 0),
  (56, .iconst 0, 1, [], .inl (0)),
  (57, .putfield 65, 3, [4, 2, 0], .inl 0),
  (60, .aload_n 0, 1, [], .inl 0),
  (61, .getfield 39, 3, [6, 10, 0, 1, 0], .inl 0),
  (64, .iconst 0, 1, [], .inl (0)),
  (65, .putfield 81, 3, [0, 3, 0], .inl 0),
  (68, .return_, 1, [], .inl 0)]
/-- Roof.copyFrom -/
def tb80 : List (Nat × Instr × Nat × List Nat × (Int32 ⊕ Int64)) := [(0, .aload_n 0, 1, [], .inl 0),
  (1, .aload_n 1, 1, [], .inl 0),
  (2, .getfield 51, 3, [6, 0, 0], .inl 0),
  (5, .putfield 51, 3, [6, 0, 0], .inl 0),
  (8, .aload_n 0, 1, [], .inl 0),
  (9, .aload_n 1, 1, [], .inl 0),
  (10, .getfield 75, 3, [6, 1, 0], .inl 0),
  (13, .putfield 75, 3, [6, 1, 0], .inl 0),
  (16, .aload_n 0, 1, [], .inl 0),
  (17, .aload_n 1, 1, [], .inl 0),
  (18, .getfield 78, 3, [6, 2, 0], .inl 0),
  (21, .putfield 78, 3, [6, 2, 0], .inl 0),
  (24, .aload_n 0, 1, [], .inl 0),
  (25, .aload_n 1, 1, [], .inl 0),
  (26, .getfield 43, 3, [6, 3, 0], .inl 0),
  (29, .putfield 43, 3, [6, 3, 0], .inl 0),
  (32, .aload_n 0, 1, [], .inl 0),
  (33, .getfield 14, 3, [6, 4, 32, 2, 0], .inl 0),
  (36, .aload_n 1, 1, [], .inl 0),
  (37, .getfield 14, 3, [6, 4, 32, 2, 0], .inl 0),
  (40, .invokevirtual 82, 3, [52, 2, 0, 4], .inl 0),
  (43, .aload_n 0, 1, [], .inl 0),
  (44, .getfield 20, 3, [6, 5, 32, 2, 1], .inl 0),
  (47, .aload_n 1, 1, [], .inl 0),
  (48, .getfield 20, 3, [6, 5, 32, 2, 1], .inl 0),
  (51, .invokevirtual 82, 3, [52, 2, 0, 4], .inl 0),
  (54, .aload_n 1, 1, [], .inl 0),
  (55, .getfield 23, 3, [6, 6, 3705, 1, 0], .inl 0),
  (58, .iconst 0, 1, [], .inl (0)),
  (59, .aload_n 0, 1, [], .inl 0),
  (60, .getfield 23, 3, [6, 6, 3705, 1, 0], .inl 0),
  (63, .iconst 0, 1, [], .inl (0)),
  (64, .bipush 7, 2, [], .inl (7)),
  (66, .invokestatic 86, 3, [0], .inl 0),
  (69, .aload_n 0, 1, [], .inl 0),
  (70, .getfield 27, 3, [6, 7, 32, 2, 2], .inl 0),
  (73, .aload_n 1, 1, [], .inl 0),
  (74, .getfield 27, 3, [6, 7, 32, 2, 2], .inl 0),
  (77, .invokevirtual 82, 3, [52, 2, 0, 4], .inl 0),
  (80, .aload_n 0, 1, [], .inl 0),
  (81, .getfield 30, 3, [6, 8, 32, 2, 3], .inl 0),
  (84, .aload_n 1, 1, [], .inl 0),
  (85, .getfield 30, 3, [6, 8, 32, 2, 3], .inl 0),
  (88, .invokevirtual 82, 3, [52, 2, 0, 4], .inl 0),
  (91, .aload_n 0, 1, [], .inl 0),
  (92, .getfield 33, 3, [6, 9, 32, 2, 4], .inl 0),
  (95, .aload_n 1, 1, [], .inl 0),
  (96, .getfield 33, 3, [6, 9, 32, 2, 4], .inl 0),
  (99, .invokevirtual 82, 3, [52, 2, 0, 4], .inl 0),
  (102, .aload_n 0, 1, [], .inl 0),
  (103, .getfield 39, 3, [6, 10, 0, 1, 0], .inl 0),
  (106, .aload_n 1, 1, [], .inl 0),
  (107, .getfield 39, 3, [6, 10, 0, 1, 0], .inl 0),
  (110, .invokevirtual 92, 3, [7, 2, 0, 0], .inl 0),
  (113, .return_, 1, [], .inl 0)]
/-- Rosters.tryAll -/
def tb81 : List (Nat × Instr × Nat × List Nat × (Int32 ⊕ Int64)) := [(0, .aload_n 0, 1, [], .inl 0),
  (1, .getfield 18, 3, [7, 0, 48, 0, 0], .inl 0),
  (4, .getfield 26, 3, [6, 9, 32, 2, 4], .inl 0),
  (7, .getfield 32, 3, [4, 2, 0], .inl 0),
  (10, .istore_n 1, 1, [], .inl 0),
  (11, .aload_n 0, 1, [], .inl 0),
  (12, .getfield 18, 3, [7, 0, 48, 0, 0], .inl 0),
  (15, .getfield 38, 3, [6, 4, 32, 2, 0], .inl 0),
  (18, .getfield 32, 3, [4, 2, 0], .inl 0),
  (21, .iload_n 1, 1, [], .inl 0),
  (22, .invokestatic 41, 3, [199, 2, 1], .inl 0),
  (25, .istore_n 2, 1, [], .inl 0),
  (26, .aload_n 0, 1, [], .inl 0),
  (27, .iconst (-1), 1, [], .inl (-1)),
  (28, .putfield 45, 3, [7, 4, 0], .inl 0),
  (31, .aload_n 0, 1, [], .inl 0),
  (32, .iconst 0, 1, [], .inl (0)),
  (33, .putfield 48, 3, [7, 5, 0], .inl 0),
  (36, .iconst 0, 1, [], .inl (0)),
  (37, .istore_n 3, 1, [], .inl 0),
  (38, .iload_n 3, 1, [], .inl 0),
  (39, .iload_n 2, 1, [], .inl 0),
  (40, .if_icmp .ge 88, 3, [128], .inl 0),
  (43, .aload_n 0, 1, [], .inl 0),
  (44, .getfield 9, 3, [7, 2, 3297, 0, 0], .inl 0),
  (47, .aload_n 0, 1, [], .inl 0),
  (48, .getfield 18, 3, [7, 0, 48, 0, 0], .inl 0),
  (51, .getfield 38, 3, [6, 4, 32, 2, 0], .inl 0),
  (54, .getfield 32, 3, [4, 2, 0], .inl 0),
  (57, .iload_n 1, 1, [], .inl 0),
  (58, .iload_n 3, 1, [], .inl 0),
  (59, .invokestatic 51, 3, [200, 4, 0], .inl 0),
  (62, .aload_n 0, 1, [], .inl 0),
  (63, .invokevirtual 55, 3, [82, 1, 1, 7], .inl 0),
  (66, .istore 4, 2, [], .inl 0),
  (68, .iload 4, 2, [], .inl 0),
  (70, .aload_n 0, 1, [], .inl 0),
  (71, .getfield 45, 3, [7, 4, 0], .inl 0),
  (74, .if_icmp .le 29, 3, [103], .inl 0),
  (77, .aload_n 0, 1, [], .inl 0),
  (78, .iload 4, 2, [], .inl 0),
  (80, .putfield 45, 3, [7, 4, 0], .inl 0),
  (83, .aload_n 0, 1, [], .inl 0),
  (84, .iconst 0, 1, [], .inl (0)),
  (85, .putfield 48, 3, [7, 5, 0], .inl 0),
  (88, .aload_n 0, 1, [], .inl 0),
  (89, .getfield 9, 3, [7, 2, 3297, 0, 0], .inl 0),
  (92, .iconst 0, 1, [], .inl (0)),
  (93, .aload_n 0, 1, [], .inl 0),
  (94, .getfield 15, 3, [7, 3, 3305, 0, 0], .inl 0),
  (97, .iconst 0, 1, [], .inl (0)),
  (98, .bipush 6, 2, [], .inl (6)),
  (100, .invokestatic 59, 3, [0], .inl 0),
  (103, .iload 4, 2, [], .inl 0),
  (105, .aload_n 0, 1, [], .inl 0),
  (106, .getfield 45, 3, [7, 4, 0], .inl 0),
  (109, .if_icmp .ne 13, 3, [122], .inl 0),
  (112, .aload_n 0, 1, [], .inl 0),
  (113, .dup, 1, [], .inl 0),
  (114, .getfield 48, 3, [7, 5, 0], .inl 0),
  (117, .iconst 1, 1, [], .inl (1)),
  (118, .iadd, 1, [], .inl 0),
  (119, .putfield 48, 3, [7, 5, 0], .inl 0),
  (122, .iinc 3 1, 3, [], .inl (1)),
  (125, .goto (-87), 3, [38, 4], .inl 0),
  (128, .return_, 1, [], .inl 0)]
/-- Rosters.gladByRow -/
def tb82 : List (Nat × Instr × Nat × List Nat × (Int32 ⊕ Int64)) := [(0, .iconst 0, 1, [], .inl (0)),
  (1, .istore_n 1, 1, [], .inl 0),
  (2, .iconst 0, 1, [], .inl (0)),
  (3, .istore_n 2, 1, [], .inl 0),
  (4, .iload_n 2, 1, [], .inl 0),
  (5, .aload_n 0, 1, [], .inl 0),
  (6, .getfield 18, 3, [7, 0, 48, 0, 0], .inl 0),
  (9, .getfield 26, 3, [6, 9, 32, 2, 4], .inl 0),
  (12, .getfield 32, 3, [4, 2, 0], .inl 0),
  (15, .if_icmp .ge 39, 3, [54], .inl 0),
  (18, .aload_n 0, 1, [], .inl 0),
  (19, .getfield 22, 3, [7, 1, 72, 0, 0], .inl 0),
  (22, .aload_n 0, 1, [], .inl 0),
  (23, .getfield 9, 3, [7, 2, 3297, 0, 0], .inl 0),
  (26, .iload_n 2, 1, [], .inl 0),
  (27, .iaload, 1, [], .inl 0),
  (28, .aload_n 0, 1, [], .inl 0),
  (29, .getfield 18, 3, [7, 0, 48, 0, 0], .inl 0),
  (32, .getfield 26, 3, [6, 9, 32, 2, 4], .inl 0),
  (35, .iload_n 2, 1, [], .inl 0),
  (36, .invokevirtual 65, 3, [48, 2, 1, 4], .inl 0),
  (39, .invokevirtual 69, 3, [102, 3, 1, 9], .inl 0),
  (42, .ifCond .eq 6, 3, [48], .inl 0),
  (45, .iinc 1 1, 3, [], .inl (1)),
  (48, .iinc 2 1, 3, [], .inl (1)),
  (51, .goto (-47), 3, [4], .inl 0),
  (54, .iload_n 1, 1, [], .inl 0),
  (55, .ireturn, 1, [], .inl 0)]
/-- Rosters.placeInFirst -/
def tb83 : List (Nat × Instr × Nat × List Nat × (Int32 ⊕ Int64)) := [(0, .aload_n 0, 1, [], .inl 0),
  (1, .getfield 18, 3, [7, 0, 48, 0, 0], .inl 0),
  (4, .getfield 26, 3, [6, 9, 32, 2, 4], .inl 0),
  (7, .iload_n 1, 1, [], .inl 0),
  (8, .invokevirtual 75, 3, [44, 2, 1, 4], .inl 0),
  (11, .ifCond .eq 12, 3, [23], .inl 0),
  (14, .aload_n 0, 1, [], .inl 0),
  (15, .getfield 15, 3, [7, 3, 3305, 0, 0], .inl 0),
  (18, .iload_n 1, 1, [], .inl 0),
  (19, .iaload, 1, [], .inl 0),
  (20, .goto 4, 3, [24], .inl 0),
  (23, .iconst 0, 1, [], .inl (0)),
  (24, .ireturn, 1, [], .inl 0)]
/-- Rosters.ordersThatGive -/
def tb84 : List (Nat × Instr × Nat × List Nat × (Int32 ⊕ Int64)) := [(0, .aload_n 0, 1, [], .inl 0),
  (1, .getfield 18, 3, [7, 0, 48, 0, 0], .inl 0),
  (4, .getfield 26, 3, [6, 9, 32, 2, 4], .inl 0),
  (7, .getfield 32, 3, [4, 2, 0], .inl 0),
  (10, .istore_n 3, 1, [], .inl 0),
  (11, .iload_n 3, 1, [], .inl 0),
  (12, .iload_n 3, 1, [], .inl 0),
  (13, .invokestatic 41, 3, [199, 2, 1], .inl 0),
  (16, .istore 4, 2, [], .inl 0),
  (18, .iconst 0, 1, [], .inl (0)),
  (19, .istore 5, 2, [], .inl 0),
  (21, .iconst 0, 1, [], .inl (0)),
  (22, .istore 6, 2, [], .inl 0),
  (24, .iload 6, 2, [], .inl 0),
  (26, .iload 4, 2, [], .inl 0),
  (28, .if_icmp .ge 32, 3, [60], .inl 0),
  (31, .aload_n 0, 1, [], .inl 0),
  (32, .getfield 9, 3, [7, 2, 3297, 0, 0], .inl 0),
  (35, .iload_n 3, 1, [], .inl 0),
  (36, .iload_n 3, 1, [], .inl 0),
  (37, .iload 6, 2, [], .inl 0),
  (39, .invokestatic 51, 3, [200, 4, 0], .inl 0),
  (42, .aload_n 0, 1, [], .inl 0),
  (43, .iload_n 1, 1, [], .inl 0),
  (44, .invokevirtual 79, 3, [85, 2, 1, 7], .inl 0),
  (47, .iload_n 2, 1, [], .inl 0),
  (48, .if_icmp .ne 6, 3, [54], .inl 0),
  (51, .iinc 5 1, 3, [], .inl (1)),
  (54, .iinc 6 1, 3, [], .inl (1)),
  (57, .goto (-33), 3, [24], .inl 0),
  (60, .iload 5, 2, [], .inl 0),
  (62, .ireturn, 1, [], .inl 0)]
/-- Rosters.takenByOrder -/
def tb85 : List (Nat × Instr × Nat × List Nat × (Int32 ⊕ Int64)) := [(0, .aload_n 0, 1, [], .inl 0),
  (1, .getfield 18, 3, [7, 0, 48, 0, 0], .inl 0),
  (4, .getfield 38, 3, [6, 4, 32, 2, 0], .inl 0),
  (7, .invokevirtual 82, 3, [51, 1, 1, 4], .inl 0),
  (10, .istore_n 2, 1, [], .inl 0),
  (11, .iconst 0, 1, [], .inl (0)),
  (12, .istore_n 3, 1, [], .inl 0),
  (13, .iload_n 3, 1, [], .inl 0),
  (14, .aload_n 0, 1, [], .inl 0),
  (15, .getfield 18, 3, [7, 0, 48, 0, 0], .inl 0),
  (18, .getfield 26, 3, [6, 9, 32, 2, 4], .inl 0),
  (21, .getfield 32, 3, [4, 2, 0], .inl 0),
  (24, .if_icmp .ge 84, 3, [108], .inl 0),
  (27, .aload_n 0, 1, [], .inl 0),
  (28, .getfield 22, 3, [7, 1, 72, 0, 0], .inl 0),
  (31, .iload_n 2, 1, [], .inl 0),
  (32, .aload_n 0, 1, [], .inl 0),
  (33, .getfield 18, 3, [7, 0, 48, 0, 0], .inl 0),
  (36, .getfield 26, 3, [6, 9, 32, 2, 4], .inl 0),
  (39, .aload_n 0, 1, [], .inl 0),
  (40, .getfield 9, 3, [7, 2, 3297, 0, 0], .inl 0),
  (43, .iload_n 3, 1, [], .inl 0),
  (44, .iaload, 1, [], .inl 0),
  (45, .invokevirtual 65, 3, [48, 2, 1, 4], .inl 0),
  (48, .invokevirtual 85, 3, [106, 3, 1, 9], .inl 0),
  (51, .istore 4, 2, [], .inl 0),
  (53, .iload 4, 2, [], .inl 0),
  (55, .iconst (-1), 1, [], .inl (-1)),
  (56, .if_icmp .eq 8, 3, [64], .inl 0),
  (59, .iload 4, 2, [], .inl 0),
  (61, .goto 11, 3, [72], .inl 0),
  (64, .aload_n 0, 1, [], .inl 0),
  (65, .getfield 22, 3, [7, 1, 72, 0, 0], .inl 0),
  (68, .iload_n 2, 1, [], .inl 0),
  (69, .invokevirtual 88, 3, [105, 2, 1, 9], .inl 0),
  (72, .istore 5, 2, [], .inl 0),
  (74, .aload_n 0, 1, [], .inl 0),
  (75, .getfield 9, 3, [7, 2, 3297, 0, 0], .inl 0),
  (78, .iload_n 3, 1, [], .inl 0),
  (79, .iaload, 1, [], .inl 0),
  (80, .iload_n 1, 1, [], .inl 0),
  (81, .if_icmp .eq 9, 3, [90], .inl 0),
  (84, .iload 5, 2, [], .inl 0),
  (86, .iconst (-1), 1, [], .inl (-1)),
  (87, .if_icmp .ne 6, 3, [93], .inl 0),
  (90, .iload 5, 2, [], .inl 0),
  (92, .ireturn, 1, [], .inl 0),
  (93, .iload_n 2, 1, [], .inl 0),
  (94, .iconst 1, 1, [], .inl (1)),
  (95, .iload 5, 2, [], .inl 0),
  (97, .ishl, 1, [], .inl 0),
  (98, .iconst (-1), 1, [], .inl (-1)),
  (99, .ixor, 1, [], .inl 0),
  (100, .iand, 1, [], .inl 0),
  (101, .istore_n 2, 1, [], .inl 0),
  (102, .iinc 3 1, 3, [], .inl (1)),
  (105, .goto (-92), 3, [13, 4, 5], .inl 0),
  (108, .iconst (-1), 1, [], .inl (-1)),
  (109, .ireturn, 1, [], .inl 0)]
/-- Shifting.isGoal -/
def tb86 : List (Nat × Instr × Nat × List Nat × (Int32 ⊕ Int64)) := [(0, .aload_n 1, 1, [], .inl 0),
  (1, .getfield 28, 3, [10, 3, 0], .inl 0),
  (4, .aload_n 0, 1, [], .inl 0),
  (5, .getfield 24, 3, [8, 0, 48, 0, 0], .inl 0),
  (8, .getfield 34, 3, [6, 9, 32, 2, 4], .inl 0),
  (11, .getfield 40, 3, [4, 2, 0], .inl 0),
  (14, .if_icmp .eq 5, 3, [19], .inl 0),
  (17, .iconst 0, 1, [], .inl (0)),
  (18, .ireturn, 1, [1], .inl 0),
  (19, .iconst 0, 1, [], .inl (0)),
  (20, .istore_n 2, 1, [], .inl 0),
  (21, .iconst 0, 1, [], .inl (0)),
  (22, .istore_n 3, 1, [], .inl 0),
  (23, .iload_n 3, 1, [], .inl 0),
  (24, .aload_n 1, 1, [], .inl 0),
  (25, .getfield 28, 3, [10, 3, 0], .inl 0),
  (28, .if_icmp .ge 60, 3, [88], .inl 0),
  (31, .aload_n 1, 1, [], .inl 0),
  (32, .iload_n 3, 1, [], .inl 0),
  (33, .invokevirtual 43, 3, [112, 2, 2, 10], .inl 0),
  (36, .lstore 4, 2, [], .inl 0),
  (38, .lload 4, 2, [], .inl 0),
  (40, .lconst 0, 1, [], .inr (0)),
  (41, .lcmp, 1, [], .inl 0),
  (42, .ifCond .lt 30, 3, [72], .inl 0),
  (45, .lload 4, 2, [], .inl 0),
  (47, .aload_n 0, 1, [], .inl 0),
  (48, .getfield 24, 3, [8, 0, 48, 0, 0], .inl 0),
  (51, .getfield 47, 3, [6, 4, 32, 2, 0], .inl 0),
  (54, .getfield 40, 3, [4, 2, 0], .inl 0),
  (57, .i2l, 1, [], .inl 0),
  (58, .lcmp, 1, [], .inl 0),
  (59, .ifCond .ge 13, 3, [72], .inl 0),
  (62, .iload_n 2, 1, [], .inl 0),
  (63, .lload 4, 2, [], .inl 0),
  (65, .l2i, 1, [], .inl 0),
  (66, .ishr, 1, [], .inl 0),
  (67, .iconst 1, 1, [], .inl (1)),
  (68, .iand, 1, [], .inl 0),
  (69, .ifCond .eq 5, 3, [74], .inl 0),
  (72, .iconst 0, 1, [], .inl (0)),
  (73, .ireturn, 1, [1], .inl 0),
  (74, .iload_n 2, 1, [], .inl 0),
  (75, .iconst 1, 1, [], .inl (1)),
  (76, .lload 4, 2, [], .inl 0),
  (78, .l2i, 1, [], .inl 0),
  (79, .ishl, 1, [], .inl 0),
  (80, .ior, 1, [], .inl 0),
  (81, .istore_n 2, 1, [], .inl 0),
  (82, .iinc 3 1, 3, [], .inl (1)),
  (85, .goto (-62), 3, [23, 4], .inl 0),
  (88, .iconst 1, 1, [], .inl (1)),
  (89, .ireturn, 1, [1], .inl 0)]
/-- Shifting.fewest -/
def tb87 : List (Nat × Instr × Nat × List Nat × (Int32 ⊕ Int64)) := [(0, .iconst 0, 1, [], .inl (0)),
  (1, .istore_n 2, 1, [], .inl 0),
  (2, .iload_n 2, 1, [], .inl 0),
  (3, .aload_n 0, 1, [], .inl 0),
  (4, .getfield 24, 3, [8, 0, 48, 0, 0], .inl 0),
  (7, .getfield 34, 3, [6, 9, 32, 2, 4], .inl 0),
  (10, .getfield 40, 3, [4, 2, 0], .inl 0),
  (13, .if_icmp .ge 21, 3, [34], .inl 0),
  (16, .aload_n 0, 1, [], .inl 0),
  (17, .getfield 18, 3, [8, 3, 3329, 0, 0], .inl 0),
  (20, .iload_n 2, 1, [], .inl 0),
  (21, .aload_n 1, 1, [], .inl 0),
  (22, .iload_n 2, 1, [], .inl 0),
  (23, .invokevirtual 43, 3, [112, 2, 2, 10], .inl 0),
  (26, .l2i, 1, [], .inl 0),
  (27, .iastore, 1, [], .inl 0),
  (28, .iinc 2 1, 3, [], .inl (1)),
  (31, .goto (-29), 3, [2], .inl 0),
  (34, .aload_n 0, 1, [], .inl 0),
  (35, .invokevirtual 50, 3, [91, 1, 0, 8], .inl 0),
  (38, .aload_n 0, 1, [], .inl 0),
  (39, .invokevirtual 53, 3, [90, 1, 0, 8], .inl 0),
  (42, .aload_n 0, 1, [], .inl 0),
  (43, .invokevirtual 56, 3, [96, 1, 1, 8], .inl 0),
  (46, .ireturn, 1, [], .inl 0)]
/-- Shifting.firstLooker -/
def tb88 : List (Nat × Instr × Nat × List Nat × (Int32 ⊕ Int64)) := [(0, .aload_n 0, 1, [], .inl 0),
  (1, .aload_n 1, 1, [], .inl 0),
  (2, .invokevirtual 60, 3, [87, 2, 1, 8], .inl 0),
  (5, .istore_n 2, 1, [], .inl 0),
  (6, .iload_n 2, 1, [], .inl 0),
  (7, .ifCond .gt 5, 3, [12], .inl 0),
  (10, .iconst (-1), 1, [], .inl (-1)),
  (11, .ireturn, 1, [], .inl 0),
  (12, .iconst 0, 1, [], .inl (0)),
  (13, .istore_n 3, 1, [], .inl 0),
  (14, .iload_n 3, 1, [], .inl 0),
  (15, .aload_n 0, 1, [], .inl 0),
  (16, .getfield 24, 3, [8, 0, 48, 0, 0], .inl 0),
  (19, .getfield 34, 3, [6, 9, 32, 2, 4], .inl 0),
  (22, .getfield 40, 3, [4, 2, 0], .inl 0),
  (25, .if_icmp .ge 97, 3, [122], .inl 0),
  (28, .aload_n 0, 1, [], .inl 0),
  (29, .getfield 18, 3, [8, 3, 3329, 0, 0], .inl 0),
  (32, .iload_n 3, 1, [], .inl 0),
  (33, .iaload, 1, [], .inl 0),
  (34, .istore 4, 2, [], .inl 0),
  (36, .aload_n 0, 1, [], .inl 0),
  (37, .getfield 24, 3, [8, 0, 48, 0, 0], .inl 0),
  (40, .iload 4, 2, [], .inl 0),
  (42, .invokevirtual 64, 3, [77, 2, 1, 6], .inl 0),
  (45, .aload_n 0, 1, [], .inl 0),
  (46, .invokevirtual 68, 3, [95, 1, 1, 8], .inl 0),
  (49, .iconst (-1), 1, [], .inl (-1)),
  (50, .ixor, 1, [], .inl 0),
  (51, .iand, 1, [], .inl 0),
  (52, .istore 5, 2, [], .inl 0),
  (54, .iconst 0, 1, [], .inl (0)),
  (55, .istore 6, 2, [], .inl 0),
  (57, .iload 6, 2, [], .inl 0),
  (59, .aload_n 0, 1, [], .inl 0),
  (60, .getfield 24, 3, [8, 0, 48, 0, 0], .inl 0),
  (63, .getfield 47, 3, [6, 4, 32, 2, 0], .inl 0),
  (66, .getfield 40, 3, [4, 2, 0], .inl 0),
  (69, .if_icmp .ge 39, 3, [108], .inl 0),
  (72, .aload_n 0, 1, [], .inl 0),
  (73, .getfield 18, 3, [8, 3, 3329, 0, 0], .inl 0),
  (76, .iload_n 3, 1, [], .inl 0),
  (77, .iload 6, 2, [], .inl 0),
  (79, .iastore, 1, [], .inl 0),
  (80, .iload 5, 2, [], .inl 0),
  (82, .iload 6, 2, [], .inl 0),
  (84, .ishr, 1, [], .inl 0),
  (85, .iconst 1, 1, [], .inl (1)),
  (86, .iand, 1, [], .inl 0),
  (87, .ifCond .eq 15, 3, [102], .inl 0),
  (90, .aload_n 0, 1, [], .inl 0),
  (91, .invokevirtual 56, 3, [96, 1, 1, 8], .inl 0),
  (94, .iload_n 2, 1, [], .inl 0),
  (95, .iconst 1, 1, [], .inl (1)),
  (96, .isub, 1, [], .inl 0),
  (97, .if_icmp .ne 5, 3, [102], .inl 0),
  (100, .iload_n 3, 1, [], .inl 0),
  (101, .ireturn, 1, [], .inl 0),
  (102, .iinc 6 1, 3, [], .inl (1)),
  (105, .goto (-48), 3, [57], .inl 0),
  (108, .aload_n 0, 1, [], .inl 0),
  (109, .getfield 18, 3, [8, 3, 3329, 0, 0], .inl 0),
  (112, .iload_n 3, 1, [], .inl 0),
  (113, .iload 4, 2, [], .inl 0),
  (115, .iastore, 1, [], .inl 0),
  (116, .iinc 3 1, 3, [], .inl (1)),
  (119, .goto (-105), 3, [14, 4, 5, 6], .inl 0),
  (122, .iconst (-1), 1, [], .inl (-1)),
  (123, .ireturn, 1, [], .inl 0)]
/-- Shifting.spreadFromTold -/
def tb89 : List (Nat × Instr × Nat × List Nat × (Int32 ⊕ Int64)) := [(0, .aload_n 0, 1, [], .inl 0),
  (1, .invokevirtual 53, 3, [90, 1, 0, 8], .inl 0),
  (4, .aload_n 0, 1, [], .inl 0),
  (5, .invokevirtual 50, 3, [91, 1, 0, 8], .inl 0),
  (8, .return_, 1, [], .inl 0)]
/-- Shifting.fillAsTold -/
def tb90 : List (Nat × Instr × Nat × List Nat × (Int32 ⊕ Int64)) := [(0, .iconst 0, 1, [], .inl (0)),
  (1, .istore_n 1, 1, [], .inl 0),
  (2, .iload_n 1, 1, [], .inl 0),
  (3, .aload_n 0, 1, [], .inl 0),
  (4, .getfield 24, 3, [8, 0, 48, 0, 0], .inl 0),
  (7, .getfield 34, 3, [6, 9, 32, 2, 4], .inl 0),
  (10, .getfield 40, 3, [4, 2, 0], .inl 0),
  (13, .if_icmp .ge 26, 3, [39], .inl 0),
  (16, .aload_n 0, 1, [], .inl 0),
  (17, .getfield 18, 3, [8, 3, 3329, 0, 0], .inl 0),
  (20, .iload_n 1, 1, [], .inl 0),
  (21, .aload_n 0, 1, [], .inl 0),
  (22, .getfield 24, 3, [8, 0, 48, 0, 0], .inl 0),
  (25, .getfield 34, 3, [6, 9, 32, 2, 4], .inl 0),
  (28, .iload_n 1, 1, [], .inl 0),
  (29, .invokevirtual 71, 3, [47, 2, 1, 4], .inl 0),
  (32, .iastore, 1, [], .inl 0),
  (33, .iinc 1 1, 3, [], .inl (1)),
  (36, .goto (-34), 3, [2], .inl 0),
  (39, .return_, 1, [], .inl 0)]
/-- Shifting.spread -/
def tb91 : List (Nat × Instr × Nat × List Nat × (Int32 ⊕ Int64)) := [(0, .iconst 0, 1, [], .inl (0)),
  (1, .istore_n 1, 1, [], .inl 0),
  (2, .iload_n 1, 1, [], .inl 0),
  (3, .sipush 720, 3, [], .inl (720)),
  (6, .if_icmp .ge 16, 3, [22], .inl 0),
  (9, .aload_n 0, 1, [], .inl 0),
  (10, .getfield 11, 3, [8, 1, 368881, 0, 0], .inl 0),
  (13, .iload_n 1, 1, [], .inl 0),
  (14, .iconst (-1), 1, [], .inl (-1)),
  (15, .iastore, 1, [], .inl 0),
  (16, .iinc 1 1, 3, [], .inl (1)),
  (19, .goto (-17), 3, [2], .inl 0),
  (22, .iconst 0, 1, [], .inl (0)),
  (23, .istore_n 1, 1, [], .inl 0),
  (24, .iload_n 1, 1, [], .inl 0),
  (25, .bipush 6, 2, [], .inl (6)),
  (27, .if_icmp .ge 23, 3, [50], .inl 0),
  (30, .aload_n 0, 1, [], .inl 0),
  (31, .getfield 21, 3, [8, 4, 3337, 0, 0], .inl 0),
  (34, .iload_n 1, 1, [], .inl 0),
  (35, .aload_n 0, 1, [], .inl 0),
  (36, .getfield 24, 3, [8, 0, 48, 0, 0], .inl 0),
  (39, .iload_n 1, 1, [], .inl 0),
  (40, .invokevirtual 64, 3, [77, 2, 1, 6], .inl 0),
  (43, .iastore, 1, [], .inl 0),
  (44, .iinc 1 1, 3, [], .inl (1)),
  (47, .goto (-23), 3, [24], .inl 0),
  (50, .aload_n 0, 1, [], .inl 0),
  (51, .iconst 0, 1, [], .inl (0)),
  (52, .putfield 74, 3, [8, 5, 0], .inl 0),
  (55, .aload_n 0, 1, [], .inl 0),
  (56, .iconst 0, 1, [], .inl (0)),
  (57, .putfield 77, 3, [8, 6, 0], .inl 0),
  (60, .aload_n 0, 1, [], .inl 0),
  (61, .iconst 0, 1, [], .inl (0)),
  (62, .invokevirtual 80, 3, [94, 2, 0, 8], .inl 0),
  (65, .iconst 0, 1, [], .inl (0)),
  (66, .istore_n 1, 1, [], .inl 0),
  (67, .iload_n 1, 1, [], .inl 0),
  (68, .aload_n 0, 1, [], .inl 0),
  (69, .getfield 74, 3, [8, 5, 0], .inl 0),
  (72, .if_icmp .ge 53, 3, [125], .inl 0),
  (75, .iload_n 1, 1, [], .inl 0),
  (76, .sipush 720, 3, [], .inl (720)),
  (79, .if_icmp .ge 46, 3, [125], .inl 0),
  (82, .aload_n 0, 1, [], .inl 0),
  (83, .getfield 18, 3, [8, 3, 3329, 0, 0], .inl 0),
  (86, .aload_n 0, 1, [], .inl 0),
  (87, .getfield 24, 3, [8, 0, 48, 0, 0], .inl 0),
  (90, .getfield 47, 3, [6, 4, 32, 2, 0], .inl 0),
  (93, .getfield 40, 3, [4, 2, 0], .inl 0),
  (96, .aload_n 0, 1, [], .inl 0),
  (97, .getfield 24, 3, [8, 0, 48, 0, 0], .inl 0),
  (100, .getfield 34, 3, [6, 9, 32, 2, 4], .inl 0),
  (103, .getfield 40, 3, [4, 2, 0], .inl 0),
  (106, .aload_n 0, 1, [], .inl 0),
  (107, .getfield 15, 3, [8, 2, 368889, 0, 0], .inl 0),
  (110, .iload_n 1, 1, [], .inl 0),
  (111, .iaload, 1, [], .inl 0),
  (112, .invokestatic 84, 3, [200, 4, 0], .inl 0),
  (115, .aload_n 0, 1, [], .inl 0),
  (116, .invokevirtual 88, 3, [92, 1, 0, 8], .inl 0),
  (119, .iinc 1 1, 3, [], .inl (1)),
  (122, .goto (-55), 3, [67], .inl 0),
  (125, .return_, 1, [], .inl 0)]
/-- Shifting.visitNeighbours -/
def tb92 : List (Nat × Instr × Nat × List Nat × (Int32 ⊕ Int64)) := [(0, .aload_n 0, 1, [], .inl 0),
  (1, .invokevirtual 56, 3, [96, 1, 1, 8], .inl 0),
  (4, .iconst 1, 1, [], .inl (1)),
  (5, .iadd, 1, [], .inl 0),
  (6, .istore_n 1, 1, [], .inl 0),
  (7, .aload_n 0, 1, [], .inl 0),
  (8, .invokevirtual 68, 3, [95, 1, 1, 8], .inl 0),
  (11, .istore_n 2, 1, [], .inl 0),
  (12, .iconst 0, 1, [], .inl (0)),
  (13, .istore_n 3, 1, [], .inl 0),
  (14, .iload_n 3, 1, [], .inl 0),
  (15, .aload_n 0, 1, [], .inl 0),
  (16, .getfield 24, 3, [8, 0, 48, 0, 0], .inl 0),
  (19, .getfield 34, 3, [6, 9, 32, 2, 4], .inl 0),
  (22, .getfield 40, 3, [4, 2, 0], .inl 0),
  (25, .if_icmp .ge 84, 3, [109], .inl 0),
  (28, .aload_n 0, 1, [], .inl 0),
  (29, .getfield 18, 3, [8, 3, 3329, 0, 0], .inl 0),
  (32, .iload_n 3, 1, [], .inl 0),
  (33, .iaload, 1, [], .inl 0),
  (34, .istore 4, 2, [], .inl 0),
  (36, .aload_n 0, 1, [], .inl 0),
  (37, .iload 4, 2, [], .inl 0),
  (39, .invokevirtual 91, 3, [93, 2, 1, 8], .inl 0),
  (42, .iload_n 2, 1, [], .inl 0),
  (43, .iconst (-1), 1, [], .inl (-1)),
  (44, .ixor, 1, [], .inl 0),
  (45, .iand, 1, [], .inl 0),
  (46, .istore 5, 2, [], .inl 0),
  (48, .iconst 0, 1, [], .inl (0)),
  (49, .istore 6, 2, [], .inl 0),
  (51, .iload 6, 2, [], .inl 0),
  (53, .aload_n 0, 1, [], .inl 0),
  (54, .getfield 24, 3, [8, 0, 48, 0, 0], .inl 0),
  (57, .getfield 47, 3, [6, 4, 32, 2, 0], .inl 0),
  (60, .getfield 40, 3, [4, 2, 0], .inl 0),
  (63, .if_icmp .ge 32, 3, [95], .inl 0),
  (66, .iload 5, 2, [], .inl 0),
  (68, .iload 6, 2, [], .inl 0),
  (70, .ishr, 1, [], .inl 0),
  (71, .iconst 1, 1, [], .inl (1)),
  (72, .iand, 1, [], .inl 0),
  (73, .ifCond .eq 16, 3, [89], .inl 0),
  (76, .aload_n 0, 1, [], .inl 0),
  (77, .getfield 18, 3, [8, 3, 3329, 0, 0], .inl 0),
  (80, .iload_n 3, 1, [], .inl 0),
  (81, .iload 6, 2, [], .inl 0),
  (83, .iastore, 1, [], .inl 0),
  (84, .aload_n 0, 1, [], .inl 0),
  (85, .iload_n 1, 1, [], .inl 0),
  (86, .invokevirtual 80, 3, [94, 2, 0, 8], .inl 0),
  (89, .iinc 6 1, 3, [], .inl (1)),
  (92, .goto (-41), 3, [51], .inl 0),
  (95, .aload_n 0, 1, [], .inl 0),
  (96, .getfield 18, 3, [8, 3, 3329, 0, 0], .inl 0),
  (99, .iload_n 3, 1, [], .inl 0),
  (100, .iload 4, 2, [], .inl 0),
  (102, .iastore, 1, [], .inl 0),
  (103, .iinc 3 1, 3, [], .inl (1)),
  (106, .goto (-92), 3, [14, 4, 5, 6], .inl 0),
  (109, .return_, 1, [], .inl 0)]
/-- Shifting.nearTo -/
def tb93 : List (Nat × Instr × Nat × List Nat × (Int32 ⊕ Int64)) := [(0, .iload_n 1, 1, [], .inl 0),
  (1, .ifCond .lt 18, 3, [19], .inl 0),
  (4, .iload_n 1, 1, [], .inl 0),
  (5, .bipush 6, 2, [], .inl (6)),
  (7, .if_icmp .ge 12, 3, [19], .inl 0),
  (10, .aload_n 0, 1, [], .inl 0),
  (11, .getfield 21, 3, [8, 4, 3337, 0, 0], .inl 0),
  (14, .iload_n 1, 1, [], .inl 0),
  (15, .iaload, 1, [], .inl 0),
  (16, .goto 4, 3, [20], .inl 0),
  (19, .iconst 0, 1, [], .inl (0)),
  (20, .ireturn, 1, [], .inl 0)]
/-- Shifting.visit -/
def tb94 : List (Nat × Instr × Nat × List Nat × (Int32 ⊕ Int64)) := [(0, .aload_n 0, 1, [], .inl 0),
  (1, .getfield 18, 3, [8, 3, 3329, 0, 0], .inl 0),
  (4, .aload_n 0, 1, [], .inl 0),
  (5, .getfield 24, 3, [8, 0, 48, 0, 0], .inl 0),
  (8, .getfield 47, 3, [6, 4, 32, 2, 0], .inl 0),
  (11, .getfield 40, 3, [4, 2, 0], .inl 0),
  (14, .aload_n 0, 1, [], .inl 0),
  (15, .getfield 24, 3, [8, 0, 48, 0, 0], .inl 0),
  (18, .getfield 34, 3, [6, 9, 32, 2, 4], .inl 0),
  (21, .getfield 40, 3, [4, 2, 0], .inl 0),
  (24, .invokestatic 94, 3, [202, 3, 1], .inl 0),
  (27, .istore_n 2, 1, [], .inl 0),
  (28, .iload_n 2, 1, [], .inl 0),
  (29, .ifCond .lt 30, 3, [59], .inl 0),
  (32, .iload_n 2, 1, [], .inl 0),
  (33, .sipush 720, 3, [], .inl (720)),
  (36, .if_icmp .ge 23, 3, [59], .inl 0),
  (39, .aload_n 0, 1, [], .inl 0),
  (40, .getfield 11, 3, [8, 1, 368881, 0, 0], .inl 0),
  (43, .iload_n 2, 1, [], .inl 0),
  (44, .iaload, 1, [], .inl 0),
  (45, .iconst (-1), 1, [], .inl (-1)),
  (46, .if_icmp .ne 13, 3, [59], .inl 0),
  (49, .aload_n 0, 1, [], .inl 0),
  (50, .getfield 74, 3, [8, 5, 0], .inl 0),
  (53, .sipush 720, 3, [], .inl (720)),
  (56, .if_icmp .lt 4, 3, [60], .inl 0),
  (59, .return_, 1, [], .inl 0),
  (60, .aload_n 0, 1, [], .inl 0),
  (61, .getfield 11, 3, [8, 1, 368881, 0, 0], .inl 0),
  (64, .iload_n 2, 1, [], .inl 0),
  (65, .iload_n 1, 1, [], .inl 0),
  (66, .iastore, 1, [], .inl 0),
  (67, .aload_n 0, 1, [], .inl 0),
  (68, .aload_n 0, 1, [], .inl 0),
  (69, .getfield 77, 3, [8, 6, 0], .inl 0),
  (72, .iload_n 1, 1, [], .inl 0),
  (73, .invokestatic 98, 3, [3], .inl 0),
  (76, .putfield 77, 3, [8, 6, 0], .inl 0),
  (79, .aload_n 0, 1, [], .inl 0),
  (80, .getfield 15, 3, [8, 2, 368889, 0, 0], .inl 0),
  (83, .aload_n 0, 1, [], .inl 0),
  (84, .getfield 74, 3, [8, 5, 0], .inl 0),
  (87, .iload_n 2, 1, [], .inl 0),
  (88, .iastore, 1, [], .inl 0),
  (89, .aload_n 0, 1, [], .inl 0),
  (90, .dup, 1, [], .inl 0),
  (91, .getfield 74, 3, [8, 5, 0], .inl 0),
  (94, .iconst 1, 1, [], .inl (1)),
  (95, .iadd, 1, [], .inl 0),
  (96, .putfield 74, 3, [8, 5, 0], .inl 0),
  (99, .return_, 1, [], .inl 0)]
/-- Shifting.taken -/
def tb95 : List (Nat × Instr × Nat × List Nat × (Int32 ⊕ Int64)) := [(0, .iconst 0, 1, [], .inl (0)),
  (1, .istore_n 1, 1, [], .inl 0),
  (2, .iconst 0, 1, [], .inl (0)),
  (3, .istore_n 2, 1, [], .inl 0),
  (4, .iload_n 2, 1, [], .inl 0),
  (5, .aload_n 0, 1, [], .inl 0),
  (6, .getfield 24, 3, [8, 0, 48, 0, 0], .inl 0),
  (9, .getfield 34, 3, [6, 9, 32, 2, 4], .inl 0),
  (12, .getfield 40, 3, [4, 2, 0], .inl 0),
  (15, .if_icmp .ge 20, 3, [35], .inl 0),
  (18, .iload_n 1, 1, [], .inl 0),
  (19, .iconst 1, 1, [], .inl (1)),
  (20, .aload_n 0, 1, [], .inl 0),
  (21, .getfield 18, 3, [8, 3, 3329, 0, 0], .inl 0),
  (24, .iload_n 2, 1, [], .inl 0),
  (25, .iaload, 1, [], .inl 0),
  (26, .ishl, 1, [], .inl 0),
  (27, .ior, 1, [], .inl 0),
  (28, .istore_n 1, 1, [], .inl 0),
  (29, .iinc 2 1, 3, [], .inl (1)),
  (32, .goto (-28), 3, [4], .inl 0),
  (35, .iload_n 1, 1, [], .inl 0),
  (36, .ireturn, 1, [], .inl 0)]
/-- Shifting.distanceOfRow -/
def tb96 : List (Nat × Instr × Nat × List Nat × (Int32 ⊕ Int64)) := [(0, .aload_n 0, 1, [], .inl 0),
  (1, .getfield 18, 3, [8, 3, 3329, 0, 0], .inl 0),
  (4, .aload_n 0, 1, [], .inl 0),
  (5, .getfield 24, 3, [8, 0, 48, 0, 0], .inl 0),
  (8, .getfield 47, 3, [6, 4, 32, 2, 0], .inl 0),
  (11, .getfield 40, 3, [4, 2, 0], .inl 0),
  (14, .aload_n 0, 1, [], .inl 0),
  (15, .getfield 24, 3, [8, 0, 48, 0, 0], .inl 0),
  (18, .getfield 34, 3, [6, 9, 32, 2, 4], .inl 0),
  (21, .getfield 40, 3, [4, 2, 0], .inl 0),
  (24, .invokestatic 94, 3, [202, 3, 1], .inl 0),
  (27, .istore_n 1, 1, [], .inl 0),
  (28, .iload_n 1, 1, [], .inl 0),
  (29, .ifCond .lt 19, 3, [48], .inl 0),
  (32, .iload_n 1, 1, [], .inl 0),
  (33, .sipush 720, 3, [], .inl (720)),
  (36, .if_icmp .ge 12, 3, [48], .inl 0),
  (39, .aload_n 0, 1, [], .inl 0),
  (40, .getfield 11, 3, [8, 1, 368881, 0, 0], .inl 0),
  (43, .iload_n 1, 1, [], .inl 0),
  (44, .iaload, 1, [], .inl 0),
  (45, .goto 4, 3, [49], .inl 0),
  (48, .iconst (-1), 1, [], .inl (-1)),
  (49, .ireturn, 1, [], .inl 0)]
/-- Sight.look -/
def tb97 : List (Nat × Instr × Nat × List Nat × (Int32 ⊕ Int64)) := [(0, .iconst 0, 1, [], .inl (0)),
  (1, .istore_n 2, 1, [], .inl 0),
  (2, .iload_n 2, 1, [], .inl 0),
  (3, .bipush 6, 2, [], .inl (6)),
  (5, .if_icmp .ge 89, 3, [94], .inl 0),
  (8, .iconst 0, 1, [], .inl (0)),
  (9, .istore_n 3, 1, [], .inl 0),
  (10, .iconst 0, 1, [], .inl (0)),
  (11, .istore 4, 2, [], .inl 0),
  (13, .iload 4, 2, [], .inl 0),
  (15, .aload_n 0, 1, [], .inl 0),
  (16, .getfield 18, 3, [9, 0, 48, 0, 0], .inl 0),
  (19, .getfield 22, 3, [6, 5, 32, 2, 1], .inl 0),
  (22, .getfield 27, 3, [4, 2, 0], .inl 0),
  (25, .if_icmp .ge 42, 3, [67], .inl 0),
  (28, .aload_n 0, 1, [], .inl 0),
  (29, .getfield 18, 3, [9, 0, 48, 0, 0], .inl 0),
  (32, .getfield 33, 3, [6, 4, 32, 2, 0], .inl 0),
  (35, .iload_n 2, 1, [], .inl 0),
  (36, .invokevirtual 36, 3, [44, 2, 1, 4], .inl 0),
  (39, .ifCond .eq 28, 3, [67], .inl 0),
  (42, .aload_n 0, 1, [], .inl 0),
  (43, .iload_n 2, 1, [], .inl 0),
  (44, .iload 4, 2, [], .inl 0),
  (46, .iload_n 1, 1, [], .inl 0),
  (47, .invokevirtual 40, 3, [98, 4, 1, 9], .inl 0),
  (50, .iconst (-1), 1, [], .inl (-1)),
  (51, .if_icmp .ne 10, 3, [61], .inl 0),
  (54, .iload_n 3, 1, [], .inl 0),
  (55, .iconst 1, 1, [], .inl (1)),
  (56, .iload 4, 2, [], .inl 0),
  (58, .ishl, 1, [], .inl 0),
  (59, .ior, 1, [], .inl 0),
  (60, .istore_n 3, 1, [], .inl 0),
  (61, .iinc 4 1, 3, [], .inl (1)),
  (64, .goto (-51), 3, [13], .inl 0),
  (67, .aload_n 0, 1, [], .inl 0),
  (68, .getfield 9, 3, [9, 1, 3265, 1, 0], .inl 0),
  (71, .iload_n 2, 1, [], .inl 0),
  (72, .iload_n 3, 1, [], .inl 0),
  (73, .iastore, 1, [], .inl 0),
  (74, .aload_n 0, 1, [], .inl 0),
  (75, .getfield 15, 3, [9, 2, 3273, 1, 0], .inl 0),
  (78, .iload_n 2, 1, [], .inl 0),
  (79, .aload_n 0, 1, [], .inl 0),
  (80, .getfield 18, 3, [9, 0, 48, 0, 0], .inl 0),
  (83, .iload_n 3, 1, [], .inl 0),
  (84, .invokevirtual 44, 3, [76, 2, 1, 6], .inl 0),
  (87, .iastore, 1, [], .inl 0),
  (88, .iinc 2 1, 3, [], .inl (1)),
  (91, .goto (-89), 3, [2, 3, 4], .inl 0),
  (94, .return_, 1, [], .inl 0)]
/-- Sight.hider -/
def tb98 : List (Nat × Instr × Nat × List Nat × (Int32 ⊕ Int64)) := [(0, .iconst 0, 1, [], .inl (0)),
  (1, .istore 4, 2, [], .inl 0),
  (3, .iload 4, 2, [], .inl 0),
  (5, .aload_n 0, 1, [], .inl 0),
  (6, .getfield 18, 3, [9, 0, 48, 0, 0], .inl 0),
  (9, .getfield 48, 3, [6, 7, 32, 2, 2], .inl 0),
  (12, .getfield 27, 3, [4, 2, 0], .inl 0),
  (15, .if_icmp .ge 41, 3, [56], .inl 0),
  (18, .iload 4, 2, [], .inl 0),
  (20, .iload_n 3, 1, [], .inl 0),
  (21, .if_icmp .eq 29, 3, [50], .inl 0),
  (24, .aload_n 0, 1, [], .inl 0),
  (25, .getfield 18, 3, [9, 0, 48, 0, 0], .inl 0),
  (28, .iload 4, 2, [], .inl 0),
  (30, .invokevirtual 51, 3, [73, 2, 1, 6], .inl 0),
  (33, .ifCond .ne 17, 3, [50], .inl 0),
  (36, .aload_n 0, 1, [], .inl 0),
  (37, .iload 4, 2, [], .inl 0),
  (39, .iload_n 1, 1, [], .inl 0),
  (40, .iload_n 2, 1, [], .inl 0),
  (41, .invokevirtual 54, 3, [99, 4, 1, 9], .inl 0),
  (44, .ifCond .eq 6, 3, [50], .inl 0),
  (47, .iload 4, 2, [], .inl 0),
  (49, .ireturn, 1, [], .inl 0),
  (50, .iinc 4 1, 3, [], .inl (1)),
  (53, .goto (-50), 3, [3], .inl 0),
  (56, .iconst (-1), 1, [], .inl (-1)),
  (57, .ireturn, 1, [], .inl 0)]
/-- Sight.isBetween -/
def tb99 : List (Nat × Instr × Nat × List Nat × (Int32 ⊕ Int64)) := [(0, .aload_n 0, 1, [], .inl 0),
  (1, .getfield 18, 3, [9, 0, 48, 0, 0], .inl 0),
  (4, .getfield 33, 3, [6, 4, 32, 2, 0], .inl 0),
  (7, .iload_n 2, 1, [], .inl 0),
  (8, .invokevirtual 58, 3, [47, 2, 1, 4], .inl 0),
  (11, .aload_n 0, 1, [], .inl 0),
  (12, .getfield 18, 3, [9, 0, 48, 0, 0], .inl 0),
  (15, .getfield 48, 3, [6, 7, 32, 2, 2], .inl 0),
  (18, .iload_n 1, 1, [], .inl 0),
  (19, .invokevirtual 58, 3, [47, 2, 1, 4], .inl 0),
  (22, .isub, 1, [], .inl 0),
  (23, .istore 4, 2, [], .inl 0),
  (25, .aload_n 0, 1, [], .inl 0),
  (26, .getfield 18, 3, [9, 0, 48, 0, 0], .inl 0),
  (29, .getfield 33, 3, [6, 4, 32, 2, 0], .inl 0),
  (32, .iload_n 2, 1, [], .inl 0),
  (33, .invokevirtual 61, 3, [48, 2, 1, 4], .inl 0),
  (36, .aload_n 0, 1, [], .inl 0),
  (37, .getfield 18, 3, [9, 0, 48, 0, 0], .inl 0),
  (40, .getfield 48, 3, [6, 7, 32, 2, 2], .inl 0),
  (43, .iload_n 1, 1, [], .inl 0),
  (44, .invokevirtual 61, 3, [48, 2, 1, 4], .inl 0),
  (47, .isub, 1, [], .inl 0),
  (48, .istore 5, 2, [], .inl 0),
  (50, .aload_n 0, 1, [], .inl 0),
  (51, .getfield 18, 3, [9, 0, 48, 0, 0], .inl 0),
  (54, .getfield 22, 3, [6, 5, 32, 2, 1], .inl 0),
  (57, .iload_n 3, 1, [], .inl 0),
  (58, .invokevirtual 58, 3, [47, 2, 1, 4], .inl 0),
  (61, .aload_n 0, 1, [], .inl 0),
  (62, .getfield 18, 3, [9, 0, 48, 0, 0], .inl 0),
  (65, .getfield 48, 3, [6, 7, 32, 2, 2], .inl 0),
  (68, .iload_n 1, 1, [], .inl 0),
  (69, .invokevirtual 58, 3, [47, 2, 1, 4], .inl 0),
  (72, .isub, 1, [], .inl 0),
  (73, .istore 6, 2, [], .inl 0),
  (75, .aload_n 0, 1, [], .inl 0),
  (76, .getfield 18, 3, [9, 0, 48, 0, 0], .inl 0),
  (79, .getfield 22, 3, [6, 5, 32, 2, 1], .inl 0),
  (82, .iload_n 3, 1, [], .inl 0),
  (83, .invokevirtual 61, 3, [48, 2, 1, 4], .inl 0),
  (86, .aload_n 0, 1, [], .inl 0),
  (87, .getfield 18, 3, [9, 0, 48, 0, 0], .inl 0),
  (90, .getfield 48, 3, [6, 7, 32, 2, 2], .inl 0),
  (93, .iload_n 1, 1, [], .inl 0),
  (94, .invokevirtual 61, 3, [48, 2, 1, 4], .inl 0),
  (97, .isub, 1, [], .inl 0),
  (98, .istore 7, 2, [], .inl 0),
  (100, .iload 4, 2, [], .inl 0),
  (102, .iload 7, 2, [], .inl 0),
  (104, .imul, 1, [], .inl 0),
  (105, .iload 5, 2, [], .inl 0),
  (107, .iload 6, 2, [], .inl 0),
  (109, .imul, 1, [], .inl 0),
  (110, .if_icmp .ne 7, 3, [117], .inl 0),
  (113, .iconst 1, 1, [], .inl (1)),
  (114, .goto 4, 3, [118], .inl 0),
  (117, .iconst 0, 1, [], .inl (0)),
  (118, .istore 8, 2, [], .inl 0),
  (120, .iload 8, 2, [], .inl 0),
  (122, .ifCond .eq 21, 3, [143], .inl 0),
  (125, .iload 4, 2, [], .inl 0),
  (127, .iload 6, 2, [], .inl 0),
  (129, .imul, 1, [], .inl 0),
  (130, .iload 5, 2, [], .inl 0),
  (132, .iload 7, 2, [], .inl 0),
  (134, .imul, 1, [], .inl 0),
  (135, .iadd, 1, [], .inl 0),
  (136, .ifCond .ge 7, 3, [143], .inl 0),
  (139, .iconst 1, 1, [], .inl (1)),
  (140, .goto 4, 3, [144], .inl 0),
  (143, .iconst 0, 1, [], .inl (0)),
  (144, .ireturn, 1, [1], .inl 0)]
/-- Sight.marksFrom -/
def tb100 : List (Nat × Instr × Nat × List Nat × (Int32 ⊕ Int64)) := [(0, .iload_n 1, 1, [], .inl 0),
  (1, .ifCond .lt 18, 3, [19], .inl 0),
  (4, .iload_n 1, 1, [], .inl 0),
  (5, .bipush 6, 2, [], .inl (6)),
  (7, .if_icmp .ge 12, 3, [19], .inl 0),
  (10, .aload_n 0, 1, [], .inl 0),
  (11, .getfield 9, 3, [9, 1, 3265, 1, 0], .inl 0),
  (14, .iload_n 1, 1, [], .inl 0),
  (15, .iaload, 1, [], .inl 0),
  (16, .goto 4, 3, [20], .inl 0),
  (19, .iconst 0, 1, [], .inl (0)),
  (20, .ireturn, 1, [], .inl 0)]
/-- Sight.worthFrom -/
def tb101 : List (Nat × Instr × Nat × List Nat × (Int32 ⊕ Int64)) := [(0, .iload_n 1, 1, [], .inl 0),
  (1, .ifCond .lt 18, 3, [19], .inl 0),
  (4, .iload_n 1, 1, [], .inl 0),
  (5, .bipush 6, 2, [], .inl (6)),
  (7, .if_icmp .ge 12, 3, [19], .inl 0),
  (10, .aload_n 0, 1, [], .inl 0),
  (11, .getfield 15, 3, [9, 2, 3273, 1, 0], .inl 0),
  (14, .iload_n 1, 1, [], .inl 0),
  (15, .iaload, 1, [], .inl 0),
  (16, .goto 4, 3, [20], .inl 0),
  (19, .iconst 0, 1, [], .inl (0)),
  (20, .ireturn, 1, [], .inl 0)]
/-- Sight.isSeen -/
def tb102 : List (Nat × Instr × Nat × List Nat × (Int32 ⊕ Int64)) := [(0, .iload_n 1, 1, [], .inl 0),
  (1, .ifCond .lt 26, 3, [27], .inl 0),
  (4, .iload_n 1, 1, [], .inl 0),
  (5, .bipush 6, 2, [], .inl (6)),
  (7, .if_icmp .ge 20, 3, [27], .inl 0),
  (10, .aload_n 0, 1, [], .inl 0),
  (11, .getfield 9, 3, [9, 1, 3265, 1, 0], .inl 0),
  (14, .iload_n 1, 1, [], .inl 0),
  (15, .iaload, 1, [], .inl 0),
  (16, .iload_n 2, 1, [], .inl 0),
  (17, .ishr, 1, [], .inl 0),
  (18, .iconst 1, 1, [], .inl (1)),
  (19, .iand, 1, [], .inl 0),
  (20, .ifCond .eq 7, 3, [27], .inl 0),
  (23, .iconst 1, 1, [], .inl (1)),
  (24, .goto 4, 3, [28], .inl 0),
  (27, .iconst 0, 1, [], .inl (0)),
  (28, .ireturn, 1, [1], .inl 0)]
/-- Sight.placesOf -/
def tb103 : List (Nat × Instr × Nat × List Nat × (Int32 ⊕ Int64)) := [(0, .iconst 0, 1, [], .inl (0)),
  (1, .istore_n 2, 1, [], .inl 0),
  (2, .iconst 0, 1, [], .inl (0)),
  (3, .istore_n 3, 1, [], .inl 0),
  (4, .iload_n 3, 1, [], .inl 0),
  (5, .aload_n 0, 1, [], .inl 0),
  (6, .getfield 18, 3, [9, 0, 48, 0, 0], .inl 0),
  (9, .getfield 33, 3, [6, 4, 32, 2, 0], .inl 0),
  (12, .getfield 27, 3, [4, 2, 0], .inl 0),
  (15, .if_icmp .ge 24, 3, [39], .inl 0),
  (18, .aload_n 0, 1, [], .inl 0),
  (19, .iload_n 3, 1, [], .inl 0),
  (20, .iload_n 1, 1, [], .inl 0),
  (21, .invokevirtual 64, 3, [102, 3, 1, 9], .inl 0),
  (24, .ifCond .eq 9, 3, [33], .inl 0),
  (27, .iload_n 2, 1, [], .inl 0),
  (28, .iconst 1, 1, [], .inl (1)),
  (29, .iload_n 3, 1, [], .inl 0),
  (30, .ishl, 1, [], .inl 0),
  (31, .ior, 1, [], .inl 0),
  (32, .istore_n 2, 1, [], .inl 0),
  (33, .iinc 3 1, 3, [], .inl (1)),
  (36, .goto (-32), 3, [4], .inl 0),
  (39, .iload_n 2, 1, [], .inl 0),
  (40, .ireturn, 1, [], .inl 0)]
/-- Sight.marksFromSet -/
def tb104 : List (Nat × Instr × Nat × List Nat × (Int32 ⊕ Int64)) := [(0, .iconst 0, 1, [], .inl (0)),
  (1, .istore_n 2, 1, [], .inl 0),
  (2, .iconst 0, 1, [], .inl (0)),
  (3, .istore_n 3, 1, [], .inl 0),
  (4, .iload_n 3, 1, [], .inl 0),
  (5, .aload_n 0, 1, [], .inl 0),
  (6, .getfield 18, 3, [9, 0, 48, 0, 0], .inl 0),
  (9, .getfield 33, 3, [6, 4, 32, 2, 0], .inl 0),
  (12, .getfield 27, 3, [4, 2, 0], .inl 0),
  (15, .if_icmp .ge 26, 3, [41], .inl 0),
  (18, .iload_n 1, 1, [], .inl 0),
  (19, .iload_n 3, 1, [], .inl 0),
  (20, .ishr, 1, [], .inl 0),
  (21, .iconst 1, 1, [], .inl (1)),
  (22, .iand, 1, [], .inl 0),
  (23, .ifCond .eq 12, 3, [35], .inl 0),
  (26, .iload_n 2, 1, [], .inl 0),
  (27, .aload_n 0, 1, [], .inl 0),
  (28, .getfield 9, 3, [9, 1, 3265, 1, 0], .inl 0),
  (31, .iload_n 3, 1, [], .inl 0),
  (32, .iaload, 1, [], .inl 0),
  (33, .ior, 1, [], .inl 0),
  (34, .istore_n 2, 1, [], .inl 0),
  (35, .iinc 3 1, 3, [], .inl (1)),
  (38, .goto (-34), 3, [4], .inl 0),
  (41, .iload_n 2, 1, [], .inl 0),
  (42, .ireturn, 1, [], .inl 0)]
/-- Sight.placeOfMostWorth -/
def tb105 : List (Nat × Instr × Nat × List Nat × (Int32 ⊕ Int64)) := [(0, .iconst (-1), 1, [], .inl (-1)),
  (1, .istore_n 2, 1, [], .inl 0),
  (2, .iconst 0, 1, [], .inl (0)),
  (3, .istore_n 3, 1, [], .inl 0),
  (4, .iload_n 3, 1, [], .inl 0),
  (5, .aload_n 0, 1, [], .inl 0),
  (6, .getfield 18, 3, [9, 0, 48, 0, 0], .inl 0),
  (9, .getfield 33, 3, [6, 4, 32, 2, 0], .inl 0),
  (12, .getfield 27, 3, [4, 2, 0], .inl 0),
  (15, .if_icmp .ge 39, 3, [54], .inl 0),
  (18, .iload_n 1, 1, [], .inl 0),
  (19, .iload_n 3, 1, [], .inl 0),
  (20, .ishr, 1, [], .inl 0),
  (21, .iconst 1, 1, [], .inl (1)),
  (22, .iand, 1, [], .inl 0),
  (23, .ifCond .eq 25, 3, [48], .inl 0),
  (26, .iload_n 2, 1, [], .inl 0),
  (27, .iconst (-1), 1, [], .inl (-1)),
  (28, .if_icmp .eq 18, 3, [46], .inl 0),
  (31, .aload_n 0, 1, [], .inl 0),
  (32, .getfield 15, 3, [9, 2, 3273, 1, 0], .inl 0),
  (35, .iload_n 3, 1, [], .inl 0),
  (36, .iaload, 1, [], .inl 0),
  (37, .aload_n 0, 1, [], .inl 0),
  (38, .getfield 15, 3, [9, 2, 3273, 1, 0], .inl 0),
  (41, .iload_n 2, 1, [], .inl 0),
  (42, .iaload, 1, [], .inl 0),
  (43, .if_icmp .le 5, 3, [48], .inl 0),
  (46, .iload_n 3, 1, [], .inl 0),
  (47, .istore_n 2, 1, [], .inl 0),
  (48, .iinc 3 1, 3, [], .inl (1)),
  (51, .goto (-47), 3, [4], .inl 0),
  (54, .iload_n 2, 1, [], .inl 0),
  (55, .ireturn, 1, [], .inl 0)]
/-- Sight.firstThatSees -/
def tb106 : List (Nat × Instr × Nat × List Nat × (Int32 ⊕ Int64)) := [(0, .iconst 0, 1, [], .inl (0)),
  (1, .istore_n 3, 1, [], .inl 0),
  (2, .iload_n 3, 1, [], .inl 0),
  (3, .aload_n 0, 1, [], .inl 0),
  (4, .getfield 18, 3, [9, 0, 48, 0, 0], .inl 0),
  (7, .getfield 33, 3, [6, 4, 32, 2, 0], .inl 0),
  (10, .getfield 27, 3, [4, 2, 0], .inl 0),
  (13, .if_icmp .ge 28, 3, [41], .inl 0),
  (16, .iload_n 1, 1, [], .inl 0),
  (17, .iload_n 3, 1, [], .inl 0),
  (18, .ishr, 1, [], .inl 0),
  (19, .iconst 1, 1, [], .inl (1)),
  (20, .iand, 1, [], .inl 0),
  (21, .ifCond .eq 14, 3, [35], .inl 0),
  (24, .aload_n 0, 1, [], .inl 0),
  (25, .iload_n 3, 1, [], .inl 0),
  (26, .iload_n 2, 1, [], .inl 0),
  (27, .invokevirtual 64, 3, [102, 3, 1, 9], .inl 0),
  (30, .ifCond .eq 5, 3, [35], .inl 0),
  (33, .iload_n 3, 1, [], .inl 0),
  (34, .ireturn, 1, [], .inl 0),
  (35, .iinc 3 1, 3, [], .inl (1)),
  (38, .goto (-36), 3, [2], .inl 0),
  (41, .iconst (-1), 1, [], .inl (-1)),
  (42, .ireturn, 1, [], .inl 0)]
/-- Sight.worthOfNthBest -/
def tb107 : List (Nat × Instr × Nat × List Nat × (Int32 ⊕ Int64)) := [(0, .iconst 0, 1, [], .inl (0)),
  (1, .istore_n 2, 1, [], .inl 0),
  (2, .iconst 0, 1, [], .inl (0)),
  (3, .istore_n 3, 1, [], .inl 0),
  (4, .iload_n 3, 1, [], .inl 0),
  (5, .aload_n 0, 1, [], .inl 0),
  (6, .getfield 18, 3, [9, 0, 48, 0, 0], .inl 0),
  (9, .getfield 33, 3, [6, 4, 32, 2, 0], .inl 0),
  (12, .getfield 27, 3, [4, 2, 0], .inl 0),
  (15, .if_icmp .ge 72, 3, [87], .inl 0),
  (18, .iconst 0, 1, [], .inl (0)),
  (19, .istore 4, 2, [], .inl 0),
  (21, .iconst 0, 1, [], .inl (0)),
  (22, .istore 5, 2, [], .inl 0),
  (24, .iload 5, 2, [], .inl 0),
  (26, .aload_n 0, 1, [], .inl 0),
  (27, .getfield 18, 3, [9, 0, 48, 0, 0], .inl 0),
  (30, .getfield 33, 3, [6, 4, 32, 2, 0], .inl 0),
  (33, .getfield 27, 3, [4, 2, 0], .inl 0),
  (36, .if_icmp .ge 28, 3, [64], .inl 0),
  (39, .aload_n 0, 1, [], .inl 0),
  (40, .getfield 15, 3, [9, 2, 3273, 1, 0], .inl 0),
  (43, .iload 5, 2, [], .inl 0),
  (45, .iaload, 1, [], .inl 0),
  (46, .aload_n 0, 1, [], .inl 0),
  (47, .getfield 15, 3, [9, 2, 3273, 1, 0], .inl 0),
  (50, .iload_n 3, 1, [], .inl 0),
  (51, .iaload, 1, [], .inl 0),
  (52, .if_icmp .lt 6, 3, [58], .inl 0),
  (55, .iinc 4 1, 3, [], .inl (1)),
  (58, .iinc 5 1, 3, [], .inl (1)),
  (61, .goto (-37), 3, [24], .inl 0),
  (64, .iload 4, 2, [], .inl 0),
  (66, .iload_n 1, 1, [], .inl 0),
  (67, .if_icmp .lt 14, 3, [81], .inl 0),
  (70, .iload_n 2, 1, [], .inl 0),
  (71, .aload_n 0, 1, [], .inl 0),
  (72, .getfield 15, 3, [9, 2, 3273, 1, 0], .inl 0),
  (75, .iload_n 3, 1, [], .inl 0),
  (76, .iaload, 1, [], .inl 0),
  (77, .invokestatic 68, 3, [3], .inl 0),
  (80, .istore_n 2, 1, [], .inl 0),
  (81, .iinc 3 1, 3, [], .inl (1)),
  (84, .goto (-80), 3, [4, 4, 5], .inl 0),
  (87, .iload_n 2, 1, [], .inl 0),
  (88, .ireturn, 1, [], .inl 0)]
/-- Sight.sixtiethsOfShare -/
def tb108 : List (Nat × Instr × Nat × List Nat × (Int32 ⊕ Int64)) := [(0, .iconst 0, 1, [], .inl (0)),
  (1, .istore_n 2, 1, [], .inl 0),
  (2, .iconst 0, 1, [], .inl (0)),
  (3, .istore_n 3, 1, [], .inl 0),
  (4, .iload_n 3, 1, [], .inl 0),
  (5, .aload_n 0, 1, [], .inl 0),
  (6, .getfield 18, 3, [9, 0, 48, 0, 0], .inl 0),
  (9, .getfield 22, 3, [6, 5, 32, 2, 1], .inl 0),
  (12, .getfield 27, 3, [4, 2, 0], .inl 0),
  (15, .if_icmp .ge 50, 3, [65], .inl 0),
  (18, .aload_n 0, 1, [], .inl 0),
  (19, .iload_n 3, 1, [], .inl 0),
  (20, .invokevirtual 74, 3, [103, 2, 1, 9], .inl 0),
  (23, .invokestatic 77, 3, [371, 1, 1], .inl 0),
  (26, .istore 4, 2, [], .inl 0),
  (28, .aload_n 0, 1, [], .inl 0),
  (29, .iload_n 1, 1, [], .inl 0),
  (30, .iload_n 3, 1, [], .inl 0),
  (31, .invokevirtual 64, 3, [102, 3, 1, 9], .inl 0),
  (34, .ifCond .eq 25, 3, [59], .inl 0),
  (37, .iload 4, 2, [], .inl 0),
  (39, .ifCond .le 20, 3, [59], .inl 0),
  (42, .iload_n 2, 1, [], .inl 0),
  (43, .aload_n 0, 1, [], .inl 0),
  (44, .getfield 18, 3, [9, 0, 48, 0, 0], .inl 0),
  (47, .iload_n 3, 1, [], .inl 0),
  (48, .invokevirtual 82, 3, [74, 2, 1, 6], .inl 0),
  (51, .bipush 60, 2, [], .inl (60)),
  (53, .iload 4, 2, [], .inl 0),
  (55, .idiv, 1, [], .inl 0),
  (56, .imul, 1, [], .inl 0),
  (57, .iadd, 1, [], .inl 0),
  (58, .istore_n 2, 1, [], .inl 0),
  (59, .iinc 3 1, 3, [], .inl (1)),
  (62, .goto (-58), 3, [4, 4], .inl 0),
  (65, .iload_n 2, 1, [], .inl 0),
  (66, .ireturn, 1, [], .inl 0)]
/-- Sight.leastWatch -/
def tb109 : List (Nat × Instr × Nat × List Nat × (Int32 ⊕ Int64)) := [(0, .aload_n 0, 1, [], .inl 0),
  (1, .getfield 18, 3, [9, 0, 48, 0, 0], .inl 0),
  (4, .getfield 33, 3, [6, 4, 32, 2, 0], .inl 0),
  (7, .invokevirtual 85, 3, [51, 1, 1, 4], .inl 0),
  (10, .istore_n 1, 1, [], .inl 0),
  (11, .aload_n 0, 1, [], .inl 0),
  (12, .iload_n 1, 1, [], .inl 0),
  (13, .invokevirtual 89, 3, [104, 2, 1, 9], .inl 0),
  (16, .istore_n 2, 1, [], .inl 0),
  (17, .iload_n 1, 1, [], .inl 0),
  (18, .istore_n 3, 1, [], .inl 0),
  (19, .iconst 0, 1, [], .inl (0)),
  (20, .istore 4, 2, [], .inl 0),
  (22, .iload 4, 2, [], .inl 0),
  (24, .iload_n 1, 1, [], .inl 0),
  (25, .if_icmp .gt 34, 3, [59], .inl 0),
  (28, .aload_n 0, 1, [], .inl 0),
  (29, .iload 4, 2, [], .inl 0),
  (31, .invokevirtual 89, 3, [104, 2, 1, 9], .inl 0),
  (34, .iload_n 2, 1, [], .inl 0),
  (35, .if_icmp .ne 18, 3, [53], .inl 0),
  (38, .iload 4, 2, [], .inl 0),
  (40, .invokestatic 77, 3, [371, 1, 1], .inl 0),
  (43, .iload_n 3, 1, [], .inl 0),
  (44, .invokestatic 77, 3, [371, 1, 1], .inl 0),
  (47, .if_icmp .ge 6, 3, [53], .inl 0),
  (50, .iload 4, 2, [], .inl 0),
  (52, .istore_n 3, 1, [], .inl 0),
  (53, .iinc 4 1, 3, [], .inl (1)),
  (56, .goto (-34), 3, [22], .inl 0),
  (59, .iload_n 3, 1, [], .inl 0),
  (60, .ireturn, 1, [], .inl 0)]
/-- Slot.makeAnew -/
def tb110 : List (Nat × Instr × Nat × List Nat × (Int32 ⊕ Int64)) := [(0, .aload_n 0, 1, [], .inl 0),
  (1, .iconst 1, 1, [], .inl (1)),
  (2, .putfield 15, 3, [10, 1, 3], .inl 0),
  (5, .aload_n 0, 1, [], .inl 0),
  (6, .iload_n 1, 1, [], .inl 0),
  (7, .putfield 19, 3, [10, 2, 0], .inl 0),
  (10, .aload_n 0, 1, [], .inl 0),
  (11, .iconst 0, 1, [], .inl (0)),
  (12, .iload_n 2, 1, [], .inl 0),
  (13, .bipush 60, 2, [], .inl (60)),
  (15, .invokestatic 23, 3, [4], .inl 0),
  (18, .invokestatic 29, 3, [3], .inl 0),
  (21, .putfield 32, 3, [10, 3, 0], .inl 0),
  (24, .iconst 0, 1, [], .inl (0)),
  (25, .istore_n 3, 1, [], .inl 0),
  (26, .iload_n 3, 1, [], .inl 0),
  (27, .bipush 60, 2, [], .inl (60)),
  (29, .if_icmp .ge 16, 3, [45], .inl 0),
  (32, .aload_n 0, 1, [], .inl 0),
  (33, .getfield 9, 3, [10, 0, 30906, 1, 0], .inl 0),
  (36, .iload_n 3, 1, [], .inl 0),
  (37, .lconst 0, 1, [], .inr (0)),
  (38, .lastore, 1, [], .inl 0),
  (39, .iinc 3 1, 3, [], .inl (1)),
  (42, .goto (-16), 3, [26], .inl 0),
  (45, .return_, 1, [], .inl 0)]
/-- Slot.hasNumbers -/
def tb111 : List (Nat × Instr × Nat × List Nat × (Int32 ⊕ Int64)) := [(0, .iload_n 1, 1, [], .inl 0),
  (1, .ifCond .lt 25, 3, [26], .inl 0),
  (4, .iload_n 2, 1, [], .inl 0),
  (5, .ifCond .lt 21, 3, [26], .inl 0),
  (8, .iload_n 1, 1, [], .inl 0),
  (9, .i2l, 1, [], .inl 0),
  (10, .iload_n 2, 1, [], .inl 0),
  (11, .i2l, 1, [], .inl 0),
  (12, .ladd, 1, [], .inl 0),
  (13, .aload_n 0, 1, [], .inl 0),
  (14, .getfield 32, 3, [10, 3, 0], .inl 0),
  (17, .i2l, 1, [], .inl 0),
  (18, .lcmp, 1, [], .inl 0),
  (19, .ifCond .gt 7, 3, [26], .inl 0),
  (22, .iconst 1, 1, [], .inl (1)),
  (23, .goto 4, 3, [27], .inl 0),
  (26, .iconst 0, 1, [], .inl (0)),
  (27, .ireturn, 1, [1], .inl 0)]
/-- Slot.number -/
def tb112 : List (Nat × Instr × Nat × List Nat × (Int32 ⊕ Int64)) := [(0, .aload_n 0, 1, [], .inl 0),
  (1, .iload_n 1, 1, [], .inl 0),
  (2, .iconst 1, 1, [], .inl (1)),
  (3, .invokevirtual 35, 3, [111, 3, 1, 10], .inl 0),
  (6, .ifCond .eq 12, 3, [18], .inl 0),
  (9, .aload_n 0, 1, [], .inl 0),
  (10, .getfield 9, 3, [10, 0, 30906, 1, 0], .inl 0),
  (13, .iload_n 1, 1, [], .inl 0),
  (14, .laload, 1, [], .inl 0),
  (15, .goto 4, 3, [19], .inl 0),
  (18, .lconst 0, 1, [], .inr (0)),
  (19, .lreturn, 1, [], .inl 0)]
/-- Slot.setNumber -/
def tb113 : List (Nat × Instr × Nat × List Nat × (Int32 ⊕ Int64)) := [(0, .aload_n 0, 1, [], .inl 0),
  (1, .iload_n 1, 1, [], .inl 0),
  (2, .iconst 1, 1, [], .inl (1)),
  (3, .invokevirtual 35, 3, [111, 3, 1, 10], .inl 0),
  (6, .ifCond .eq 14, 3, [20], .inl 0),
  (9, .aload_n 0, 1, [], .inl 0),
  (10, .getfield 9, 3, [10, 0, 30906, 1, 0], .inl 0),
  (13, .iload_n 1, 1, [], .inl 0),
  (14, .aload_n 0, 1, [], .inl 0),
  (15, .lload_n 2, 1, [], .inl 0),
  (16, .invokevirtual 39, 3, [114, 2, 2, 10], .inl 0),
  (19, .lastore, 1, [], .inl 0),
  (20, .return_, 1, [], .inl 0)]
/-- Slot.cut -/
def tb114 : List (Nat × Instr × Nat × List Nat × (Int32 ⊕ Int64)) := [(0, .aload_n 0, 1, [], .inl 0),
  (1, .getfield 19, 3, [10, 2, 0], .inl 0),
  (4, .tableswitch 42 0 2 #[28, 33, 38], 28, [46, 32, 37, 42], .inl 0),
  (32, .lload_n 1, 1, [], .inl 0),
  (33, .l2i, 1, [], .inl 0),
  (34, .i2b, 1, [], .inl 0),
  (35, .i2l, 1, [], .inl 0),
  (36, .lreturn, 1, [], .inl 0),
  (37, .lload_n 1, 1, [], .inl 0),
  (38, .l2i, 1, [], .inl 0),
  (39, .i2s, 1, [], .inl 0),
  (40, .i2l, 1, [], .inl 0),
  (41, .lreturn, 1, [], .inl 0),
  (42, .lload_n 1, 1, [], .inl 0),
  (43, .l2i, 1, [], .inl 0),
  (44, .i2l, 1, [], .inl 0),
  (45, .lreturn, 1, [], .inl 0),
  (46, .lload_n 1, 1, [], .inl 0),
  (47, .lreturn, 1, [], .inl 0)]
/-- H.feed -/
def tb115 : List (Nat × Instr × Nat × List Nat × (Int32 ⊕ Int64)) := [(0, .aload_n 0, 1, [], .inl 0),
  (1, .getfield 24, 3, [11, 2, 40, 0, 0], .inl 0),
  (4, .getfield 98, 3, [5, 2, 0], .inl 0),
  (7, .bipush 20, 2, [], .inl (20)),
  (9, .iadd, 1, [], .inl 0),
  (10, .sipush 700, 3, [], .inl (700)),
  (13, .if_icmp .le 5, 3, [18], .inl 0),
  (16, .iconst (-1), 1, [], .inl (-1)),
  (17, .ireturn, 1, [], .inl 0),
  (18, .aload_n 0, 1, [], .inl 0),
  (19, .getfield 24, 3, [11, 2, 40, 0, 0], .inl 0),
  (22, .iload_n 1, 1, [], .inl 0),
  (23, .invokevirtual 102, 3, [53, 2, 0, 5], .inl 0),
  (26, .aload_n 0, 1, [], .inl 0),
  (27, .getfield 24, 3, [11, 2, 40, 0, 0], .inl 0),
  (30, .iload_n 2, 1, [], .inl 0),
  (31, .invokevirtual 102, 3, [53, 2, 0, 5], .inl 0),
  (34, .aload_n 0, 1, [], .inl 0),
  (35, .getfield 24, 3, [11, 2, 40, 0, 0], .inl 0),
  (38, .iload_n 3, 1, [], .inl 0),
  (39, .invokevirtual 102, 3, [53, 2, 0, 5], .inl 0),
  (42, .aload_n 0, 1, [], .inl 0),
  (43, .getfield 24, 3, [11, 2, 40, 0, 0], .inl 0),
  (46, .iload 4, 2, [], .inl 0),
  (48, .invokevirtual 102, 3, [53, 2, 0, 5], .inl 0),
  (51, .aload_n 0, 1, [], .inl 0),
  (52, .getfield 24, 3, [11, 2, 40, 0, 0], .inl 0),
  (55, .iload 5, 2, [], .inl 0),
  (57, .invokevirtual 102, 3, [53, 2, 0, 5], .inl 0),
  (60, .aload_n 0, 1, [], .inl 0),
  (61, .getfield 24, 3, [11, 2, 40, 0, 0], .inl 0),
  (64, .getfield 98, 3, [5, 2, 0], .inl 0),
  (67, .ireturn, 1, [], .inl 0)]
/-- H.end -/
def tb116 : List (Nat × Instr × Nat × List Nat × (Int32 ⊕ Int64)) := [(0, .iload_n 1, 1, [], .inl 0),
  (1, .ifCond .lt 14, 3, [15], .inl 0),
  (4, .iload_n 1, 1, [], .inl 0),
  (5, .aload_n 0, 1, [], .inl 0),
  (6, .getfield 24, 3, [11, 2, 40, 0, 0], .inl 0),
  (9, .getfield 98, 3, [5, 2, 0], .inl 0),
  (12, .if_icmp .le 5, 3, [17], .inl 0),
  (15, .iconst (-1), 1, [], .inl (-1)),
  (16, .ireturn, 1, [], .inl 0),
  (17, .aload_n 0, 1, [], .inl 0),
  (18, .getfield 24, 3, [11, 2, 40, 0, 0], .inl 0),
  (21, .iload_n 1, 1, [], .inl 0),
  (22, .putfield 98, 3, [5, 2, 0], .inl 0),
  (25, .iload_n 1, 1, [], .inl 0),
  (26, .ireturn, 1, [], .inl 0)]
/-- H.roof -/
def tb117 : List (Nat × Instr × Nat × List Nat × (Int32 ⊕ Int64)) := [(0, .aload_n 0, 1, [], .inl 0),
  (1, .getfield 24, 3, [11, 2, 40, 0, 0], .inl 0),
  (4, .invokevirtual 106, 3, [54, 1, 1, 5], .inl 0),
  (7, .istore_n 1, 1, [], .inl 0),
  (8, .aload_n 0, 1, [], .inl 0),
  (9, .getfield 24, 3, [11, 2, 40, 0, 0], .inl 0),
  (12, .iconst 0, 1, [], .inl (0)),
  (13, .putfield 98, 3, [5, 2, 0], .inl 0),
  (16, .iload_n 1, 1, [], .inl 0),
  (17, .ifCond .ne 6, 3, [23], .inl 0),
  (20, .bipush (-4), 2, [], .inl (-4)),
  (22, .ireturn, 1, [], .inl 0),
  (23, .aload_n 0, 1, [], .inl 0),
  (24, .getfield 10, 3, [11, 0, 48, 0, 0], .inl 0),
  (27, .aload_n 0, 1, [], .inl 0),
  (28, .getfield 16, 3, [11, 1, 48, 0, 1], .inl 0),
  (31, .invokevirtual 110, 3, [80, 2, 0, 6], .inl 0),
  (34, .aload_n 0, 1, [], .inl 0),
  (35, .invokevirtual 113, 3, [182, 1, 0, 11], .inl 0),
  (38, .aload_n 0, 1, [], .inl 0),
  (39, .getfield 10, 3, [11, 0, 48, 0, 0], .inl 0),
  (42, .getfield 116, 3, [6, 3, 0], .inl 0),
  (45, .ireturn, 1, [], .inl 0)]
/-- H.fault -/
def tb118 : List (Nat × Instr × Nat × List Nat × (Int32 ⊕ Int64)) := [(0, .iload_n 1, 1, [], .inl 0),
  (1, .ifCond .ne 11, 3, [12], .inl 0),
  (4, .aload_n 0, 1, [], .inl 0),
  (5, .getfield 24, 3, [11, 2, 40, 0, 0], .inl 0),
  (8, .getfield 119, 3, [5, 8, 0], .inl 0),
  (11, .ireturn, 1, [], .inl 0),
  (12, .iload_n 1, 1, [], .inl 0),
  (13, .iconst 1, 1, [], .inl (1)),
  (14, .if_icmp .ne 13, 3, [27], .inl 0),
  (17, .aload_n 0, 1, [], .inl 0),
  (18, .getfield 24, 3, [11, 2, 40, 0, 0], .inl 0),
  (21, .getfield 122, 3, [5, 9, 0], .inl 0),
  (24, .goto 4, 3, [28], .inl 0),
  (27, .iconst (-1), 1, [], .inl (-1)),
  (28, .ireturn, 1, [], .inl 0)]
/-- H.place -/
def tb119 : List (Nat × Instr × Nat × List Nat × (Int32 ⊕ Int64)) := [(0, .aload_n 0, 1, [], .inl 0),
  (1, .getfield 10, 3, [11, 0, 48, 0, 0], .inl 0),
  (4, .getfield 125, 3, [6, 4, 32, 2, 0], .inl 0),
  (7, .iload_n 1, 1, [], .inl 0),
  (8, .iload_n 2, 1, [], .inl 0),
  (9, .invokestatic 129, 3, [183, 3, 1], .inl 0),
  (12, .ireturn, 1, [], .inl 0)]
/-- H.mark -/
def tb120 : List (Nat × Instr × Nat × List Nat × (Int32 ⊕ Int64)) := [(0, .aload_n 0, 1, [], .inl 0),
  (1, .getfield 10, 3, [11, 0, 48, 0, 0], .inl 0),
  (4, .getfield 133, 3, [6, 5, 32, 2, 1], .inl 0),
  (7, .iload_n 1, 1, [], .inl 0),
  (8, .invokevirtual 136, 3, [44, 2, 1, 4], .inl 0),
  (11, .ifCond .eq 17, 3, [28], .inl 0),
  (14, .iload_n 2, 1, [], .inl 0),
  (15, .iconst 2, 1, [], .inl (2)),
  (16, .if_icmp .ne 12, 3, [28], .inl 0),
  (19, .aload_n 0, 1, [], .inl 0),
  (20, .getfield 10, 3, [11, 0, 48, 0, 0], .inl 0),
  (23, .iload_n 1, 1, [], .inl 0),
  (24, .invokevirtual 142, 3, [74, 2, 1, 6], .inl 0),
  (27, .ireturn, 1, [], .inl 0),
  (28, .aload_n 0, 1, [], .inl 0),
  (29, .getfield 10, 3, [11, 0, 48, 0, 0], .inl 0),
  (32, .getfield 133, 3, [6, 5, 32, 2, 1], .inl 0),
  (35, .iload_n 1, 1, [], .inl 0),
  (36, .iload_n 2, 1, [], .inl 0),
  (37, .invokestatic 129, 3, [183, 3, 1], .inl 0),
  (40, .ireturn, 1, [], .inl 0)]
/-- H.flue -/
def tb121 : List (Nat × Instr × Nat × List Nat × (Int32 ⊕ Int64)) := [(0, .aload_n 0, 1, [], .inl 0),
  (1, .getfield 10, 3, [11, 0, 48, 0, 0], .inl 0),
  (4, .getfield 146, 3, [6, 7, 32, 2, 2], .inl 0),
  (7, .iload_n 1, 1, [], .inl 0),
  (8, .invokevirtual 136, 3, [44, 2, 1, 4], .inl 0),
  (11, .ifCond .eq 25, 3, [36], .inl 0),
  (14, .iload_n 2, 1, [], .inl 0),
  (15, .iconst 2, 1, [], .inl (2)),
  (16, .if_icmp .ne 20, 3, [36], .inl 0),
  (19, .aload_n 0, 1, [], .inl 0),
  (20, .getfield 10, 3, [11, 0, 48, 0, 0], .inl 0),
  (23, .iload_n 1, 1, [], .inl 0),
  (24, .invokevirtual 149, 3, [73, 2, 1, 6], .inl 0),
  (27, .ifCond .eq 7, 3, [34], .inl 0),
  (30, .iconst 0, 1, [], .inl (0)),
  (31, .goto 4, 3, [35], .inl 0),
  (34, .iconst 1, 1, [], .inl (1)),
  (35, .ireturn, 1, [], .inl 0),
  (36, .aload_n 0, 1, [], .inl 0),
  (37, .getfield 10, 3, [11, 0, 48, 0, 0], .inl 0),
  (40, .getfield 146, 3, [6, 7, 32, 2, 2], .inl 0),
  (43, .iload_n 1, 1, [], .inl 0),
  (44, .iload_n 2, 1, [], .inl 0),
  (45, .invokestatic 129, 3, [183, 3, 1], .inl 0),
  (48, .ireturn, 1, [], .inl 0)]
/-- H.looker -/
def tb122 : List (Nat × Instr × Nat × List Nat × (Int32 ⊕ Int64)) := [(0, .aload_n 0, 1, [], .inl 0),
  (1, .getfield 10, 3, [11, 0, 48, 0, 0], .inl 0),
  (4, .getfield 152, 3, [6, 9, 32, 2, 4], .inl 0),
  (7, .iload_n 1, 1, [], .inl 0),
  (8, .iload_n 2, 1, [], .inl 0),
  (9, .invokestatic 129, 3, [183, 3, 1], .inl 0),
  (12, .ireturn, 1, [], .inl 0)]
/-- H.ways -/
def tb123 : List (Nat × Instr × Nat × List Nat × (Int32 ⊕ Int64)) := [(0, .aload_n 0, 1, [], .inl 0),
  (1, .getfield 10, 3, [11, 0, 48, 0, 0], .inl 0),
  (4, .getfield 125, 3, [6, 4, 32, 2, 0], .inl 0),
  (7, .iload_n 1, 1, [], .inl 0),
  (8, .invokevirtual 136, 3, [44, 2, 1, 4], .inl 0),
  (11, .ifCond .eq 14, 3, [25], .inl 0),
  (14, .aload_n 0, 1, [], .inl 0),
  (15, .getfield 10, 3, [11, 0, 48, 0, 0], .inl 0),
  (18, .iload_n 1, 1, [], .inl 0),
  (19, .invokevirtual 155, 3, [77, 2, 1, 6], .inl 0),
  (22, .goto 5, 3, [27], .inl 0),
  (25, .bipush (-2), 2, [], .inl (-2)),
  (27, .ireturn, 1, [], .inl 0)]
/-- H.sees -/
def tb124 : List (Nat × Instr × Nat × List Nat × (Int32 ⊕ Int64)) := [(0, .aload_n 0, 1, [], .inl 0),
  (1, .getfield 10, 3, [11, 0, 48, 0, 0], .inl 0),
  (4, .getfield 125, 3, [6, 4, 32, 2, 0], .inl 0),
  (7, .iload_n 1, 1, [], .inl 0),
  (8, .invokevirtual 136, 3, [44, 2, 1, 4], .inl 0),
  (11, .ifCond .eq 14, 3, [25], .inl 0),
  (14, .aload_n 0, 1, [], .inl 0),
  (15, .getfield 45, 3, [11, 6, 72, 0, 0], .inl 0),
  (18, .iload_n 1, 1, [], .inl 0),
  (19, .invokevirtual 158, 3, [100, 2, 1, 9], .inl 0),
  (22, .goto 5, 3, [27], .inl 0),
  (25, .bipush (-2), 2, [], .inl (-2)),
  (27, .ireturn, 1, [], .inl 0)]
/-- H.from -/
def tb125 : List (Nat × Instr × Nat × List Nat × (Int32 ⊕ Int64)) := [(0, .aload_n 0, 1, [], .inl 0),
  (1, .getfield 10, 3, [11, 0, 48, 0, 0], .inl 0),
  (4, .getfield 133, 3, [6, 5, 32, 2, 1], .inl 0),
  (7, .iload_n 1, 1, [], .inl 0),
  (8, .invokevirtual 136, 3, [44, 2, 1, 4], .inl 0),
  (11, .ifCond .eq 14, 3, [25], .inl 0),
  (14, .aload_n 0, 1, [], .inl 0),
  (15, .getfield 45, 3, [11, 6, 72, 0, 0], .inl 0),
  (18, .iload_n 1, 1, [], .inl 0),
  (19, .invokevirtual 161, 3, [103, 2, 1, 9], .inl 0),
  (22, .goto 5, 3, [27], .inl 0),
  (25, .bipush (-2), 2, [], .inl (-2)),
  (27, .ireturn, 1, [], .inl 0)]
/-- H.hides -/
def tb126 : List (Nat × Instr × Nat × List Nat × (Int32 ⊕ Int64)) := [(0, .aload_n 0, 1, [], .inl 0),
  (1, .getfield 10, 3, [11, 0, 48, 0, 0], .inl 0),
  (4, .getfield 125, 3, [6, 4, 32, 2, 0], .inl 0),
  (7, .iload_n 1, 1, [], .inl 0),
  (8, .invokevirtual 136, 3, [44, 2, 1, 4], .inl 0),
  (11, .ifCond .eq 17, 3, [28], .inl 0),
  (14, .aload_n 0, 1, [], .inl 0),
  (15, .getfield 10, 3, [11, 0, 48, 0, 0], .inl 0),
  (18, .getfield 133, 3, [6, 5, 32, 2, 1], .inl 0),
  (21, .iload_n 2, 1, [], .inl 0),
  (22, .invokevirtual 136, 3, [44, 2, 1, 4], .inl 0),
  (25, .ifCond .ne 6, 3, [31], .inl 0),
  (28, .bipush (-2), 2, [], .inl (-2)),
  (30, .ireturn, 1, [], .inl 0),
  (31, .aload_n 0, 1, [], .inl 0),
  (32, .getfield 45, 3, [11, 6, 72, 0, 0], .inl 0),
  (35, .iload_n 1, 1, [], .inl 0),
  (36, .iload_n 2, 1, [], .inl 0),
  (37, .iconst (-1), 1, [], .inl (-1)),
  (38, .invokevirtual 164, 3, [98, 4, 1, 9], .inl 0),
  (41, .ireturn, 1, [], .inl 0)]
/-- H.worth -/
def tb127 : List (Nat × Instr × Nat × List Nat × (Int32 ⊕ Int64)) := [(0, .aload_n 0, 1, [], .inl 0),
  (1, .getfield 10, 3, [11, 0, 48, 0, 0], .inl 0),
  (4, .getfield 125, 3, [6, 4, 32, 2, 0], .inl 0),
  (7, .iload_n 1, 1, [], .inl 0),
  (8, .invokevirtual 136, 3, [44, 2, 1, 4], .inl 0),
  (11, .ifCond .eq 14, 3, [25], .inl 0),
  (14, .aload_n 0, 1, [], .inl 0),
  (15, .getfield 45, 3, [11, 6, 72, 0, 0], .inl 0),
  (18, .iload_n 1, 1, [], .inl 0),
  (19, .invokevirtual 168, 3, [101, 2, 1, 9], .inl 0),
  (22, .goto 5, 3, [27], .inl 0),
  (25, .bipush (-2), 2, [], .inl (-2)),
  (27, .ireturn, 1, [], .inl 0)]
/-- H.blind -/
def tb128 : List (Nat × Instr × Nat × List Nat × (Int32 ⊕ Int64)) := [(0, .aload_n 0, 1, [], .inl 0),
  (1, .getfield 10, 3, [11, 0, 48, 0, 0], .inl 0),
  (4, .invokevirtual 171, 3, [70, 1, 1, 6], .inl 0),
  (7, .ifCond .ne 6, 3, [13], .inl 0),
  (10, .bipush (-2), 2, [], .inl (-2)),
  (12, .ireturn, 1, [], .inl 0),
  (13, .iconst 0, 1, [], .inl (0)),
  (14, .istore_n 1, 1, [], .inl 0),
  (15, .iconst 0, 1, [], .inl (0)),
  (16, .istore_n 2, 1, [], .inl 0),
  (17, .iload_n 2, 1, [], .inl 0),
  (18, .aload_n 0, 1, [], .inl 0),
  (19, .getfield 10, 3, [11, 0, 48, 0, 0], .inl 0),
  (22, .getfield 125, 3, [6, 4, 32, 2, 0], .inl 0),
  (25, .getfield 174, 3, [4, 2, 0], .inl 0),
  (28, .if_icmp .ge 26, 3, [54], .inl 0),
  (31, .aload_n 0, 1, [], .inl 0),
  (32, .getfield 45, 3, [11, 6, 72, 0, 0], .inl 0),
  (35, .iload_n 2, 1, [], .inl 0),
  (36, .invokevirtual 158, 3, [100, 2, 1, 9], .inl 0),
  (39, .ifCond .ne 9, 3, [48], .inl 0),
  (42, .iload_n 1, 1, [], .inl 0),
  (43, .iconst 1, 1, [], .inl (1)),
  (44, .iload_n 2, 1, [], .inl 0),
  (45, .ishl, 1, [], .inl 0),
  (46, .ior, 1, [], .inl 0),
  (47, .istore_n 1, 1, [], .inl 0),
  (48, .iinc 2 1, 3, [], .inl (1)),
  (51, .goto (-34), 3, [17], .inl 0),
  (54, .iload_n 1, 1, [], .inl 0),
  (55, .ireturn, 1, [], .inl 0)]
/-- H.lost -/
def tb129 : List (Nat × Instr × Nat × List Nat × (Int32 ⊕ Int64)) := [(0, .aload_n 0, 1, [], .inl 0),
  (1, .getfield 10, 3, [11, 0, 48, 0, 0], .inl 0),
  (4, .invokevirtual 171, 3, [70, 1, 1, 6], .inl 0),
  (7, .ifCond .ne 6, 3, [13], .inl 0),
  (10, .bipush (-2), 2, [], .inl (-2)),
  (12, .ireturn, 1, [], .inl 0),
  (13, .aload_n 0, 1, [], .inl 0),
  (14, .getfield 10, 3, [11, 0, 48, 0, 0], .inl 0),
  (17, .getfield 133, 3, [6, 5, 32, 2, 1], .inl 0),
  (20, .invokevirtual 177, 3, [51, 1, 1, 4], .inl 0),
  (23, .aload_n 0, 1, [], .inl 0),
  (24, .getfield 45, 3, [11, 6, 72, 0, 0], .inl 0),
  (27, .aload_n 0, 1, [], .inl 0),
  (28, .getfield 10, 3, [11, 0, 48, 0, 0], .inl 0),
  (31, .getfield 125, 3, [6, 4, 32, 2, 0], .inl 0),
  (34, .invokevirtual 177, 3, [51, 1, 1, 4], .inl 0),
  (37, .invokevirtual 181, 3, [104, 2, 1, 9], .inl 0),
  (40, .iconst (-1), 1, [], .inl (-1)),
  (41, .ixor, 1, [], .inl 0),
  (42, .iand, 1, [], .inl 0),
  (43, .ireturn, 1, [], .inl 0)]
/-- H.best -/
def tb130 : List (Nat × Instr × Nat × List Nat × (Int32 ⊕ Int64)) := [(0, .aload_n 0, 1, [], .inl 0),
  (1, .getfield 10, 3, [11, 0, 48, 0, 0], .inl 0),
  (4, .invokevirtual 171, 3, [70, 1, 1, 6], .inl 0),
  (7, .ifCond .ne 6, 3, [13], .inl 0),
  (10, .bipush (-2), 2, [], .inl (-2)),
  (12, .ireturn, 1, [], .inl 0),
  (13, .aload_n 0, 1, [], .inl 0),
  (14, .getfield 45, 3, [11, 6, 72, 0, 0], .inl 0),
  (17, .aload_n 0, 1, [], .inl 0),
  (18, .getfield 10, 3, [11, 0, 48, 0, 0], .inl 0),
  (21, .getfield 125, 3, [6, 4, 32, 2, 0], .inl 0),
  (24, .invokevirtual 177, 3, [51, 1, 1, 4], .inl 0),
  (27, .invokevirtual 184, 3, [105, 2, 1, 9], .inl 0),
  (30, .ireturn, 1, [], .inl 0)]
/-- H.at -/
def tb131 : List (Nat × Instr × Nat × List Nat × (Int32 ⊕ Int64)) := [(0, .aload_n 0, 1, [], .inl 0),
  (1, .iload_n 1, 1, [], .inl 0),
  (2, .iload_n 2, 1, [], .inl 0),
  (3, .invokevirtual 187, 3, [188, 3, 1, 11], .inl 0),
  (6, .ifCond .eq 15, 3, [21], .inl 0),
  (9, .aload_n 0, 1, [], .inl 0),
  (10, .getfield 57, 3, [11, 8, 24, 0, 0], .inl 0),
  (13, .iload_n 1, 1, [], .inl 0),
  (14, .iload_n 2, 1, [], .inl 0),
  (15, .invokevirtual 191, 3, [35, 3, 1, 3], .inl 0),
  (18, .goto 5, 3, [23], .inl 0),
  (21, .bipush (-2), 2, [], .inl (-2)),
  (23, .ireturn, 1, [], .inl 0)]
/-- H.who -/
def tb132 : List (Nat × Instr × Nat × List Nat × (Int32 ⊕ Int64)) := [(0, .aload_n 0, 1, [], .inl 0),
  (1, .getfield 10, 3, [11, 0, 48, 0, 0], .inl 0),
  (4, .getfield 125, 3, [6, 4, 32, 2, 0], .inl 0),
  (7, .iload_n 1, 1, [], .inl 0),
  (8, .invokevirtual 136, 3, [44, 2, 1, 4], .inl 0),
  (11, .ifCond .eq 14, 3, [25], .inl 0),
  (14, .aload_n 0, 1, [], .inl 0),
  (15, .getfield 10, 3, [11, 0, 48, 0, 0], .inl 0),
  (18, .iload_n 2, 1, [], .inl 0),
  (19, .invokevirtual 195, 3, [71, 2, 1, 6], .inl 0),
  (22, .ifCond .ne 6, 3, [28], .inl 0),
  (25, .bipush (-2), 2, [], .inl (-2)),
  (27, .ireturn, 1, [], .inl 0),
  (28, .iconst 0, 1, [], .inl (0)),
  (29, .istore_n 3, 1, [], .inl 0),
  (30, .iload_n 3, 1, [], .inl 0),
  (31, .aload_n 0, 1, [], .inl 0),
  (32, .getfield 10, 3, [11, 0, 48, 0, 0], .inl 0),
  (35, .getfield 152, 3, [6, 9, 32, 2, 4], .inl 0),
  (38, .getfield 174, 3, [4, 2, 0], .inl 0),
  (41, .if_icmp .ge 24, 3, [65], .inl 0),
  (44, .aload_n 0, 1, [], .inl 0),
  (45, .getfield 57, 3, [11, 8, 24, 0, 0], .inl 0),
  (48, .iload_n 3, 1, [], .inl 0),
  (49, .iload_n 2, 1, [], .inl 0),
  (50, .invokevirtual 191, 3, [35, 3, 1, 3], .inl 0),
  (53, .iload_n 1, 1, [], .inl 0),
  (54, .if_icmp .ne 5, 3, [59], .inl 0),
  (57, .iload_n 3, 1, [], .inl 0),
  (58, .ireturn, 1, [], .inl 0),
  (59, .iinc 3 1, 3, [], .inl (1)),
  (62, .goto (-32), 3, [30], .inl 0),
  (65, .iconst (-1), 1, [], .inl (-1)),
  (66, .ireturn, 1, [], .inl 0)]
/-- H.seen -/
def tb133 : List (Nat × Instr × Nat × List Nat × (Int32 ⊕ Int64)) := [(0, .aload_n 0, 1, [], .inl 0),
  (1, .iload_n 1, 1, [], .inl 0),
  (2, .iload_n 2, 1, [], .inl 0),
  (3, .invokevirtual 187, 3, [188, 3, 1, 11], .inl 0),
  (6, .ifCond .ne 6, 3, [12], .inl 0),
  (9, .bipush (-2), 2, [], .inl (-2)),
  (11, .ireturn, 1, [], .inl 0),
  (12, .iconst 0, 1, [], .inl (0)),
  (13, .istore_n 3, 1, [], .inl 0),
  (14, .iconst 0, 1, [], .inl (0)),
  (15, .istore 4, 2, [], .inl 0),
  (17, .iload 4, 2, [], .inl 0),
  (19, .iload_n 2, 1, [], .inl 0),
  (20, .if_icmp .gt 22, 3, [42], .inl 0),
  (23, .iload_n 3, 1, [], .inl 0),
  (24, .aload_n 0, 1, [], .inl 0),
  (25, .getfield 57, 3, [11, 8, 24, 0, 0], .inl 0),
  (28, .iload_n 1, 1, [], .inl 0),
  (29, .iload 4, 2, [], .inl 0),
  (31, .invokevirtual 198, 3, [37, 3, 1, 3], .inl 0),
  (34, .ior, 1, [], .inl 0),
  (35, .istore_n 3, 1, [], .inl 0),
  (36, .iinc 4 1, 3, [], .inl (1)),
  (39, .goto (-22), 3, [17], .inl 0),
  (42, .iload_n 3, 1, [], .inl 0),
  (43, .ireturn, 1, [], .inl 0)]
/-- H.joy -/
def tb134 : List (Nat × Instr × Nat × List Nat × (Int32 ⊕ Int64)) := [(0, .aload_n 0, 1, [], .inl 0),
  (1, .iload_n 1, 1, [], .inl 0),
  (2, .iload_n 2, 1, [], .inl 0),
  (3, .invokevirtual 187, 3, [188, 3, 1, 11], .inl 0),
  (6, .ifCond .eq 15, 3, [21], .inl 0),
  (9, .aload_n 0, 1, [], .inl 0),
  (10, .getfield 57, 3, [11, 8, 24, 0, 0], .inl 0),
  (13, .iload_n 1, 1, [], .inl 0),
  (14, .iload_n 2, 1, [], .inl 0),
  (15, .invokevirtual 201, 3, [40, 3, 1, 3], .inl 0),
  (18, .goto 5, 3, [23], .inl 0),
  (21, .bipush (-2), 2, [], .inl (-2)),
  (23, .ireturn, 1, [], .inl 0)]
/-- H.life -/
def tb135 : List (Nat × Instr × Nat × List Nat × (Int32 ⊕ Int64)) := [(0, .aload_n 0, 1, [], .inl 0),
  (1, .getfield 10, 3, [11, 0, 48, 0, 0], .inl 0),
  (4, .getfield 152, 3, [6, 9, 32, 2, 4], .inl 0),
  (7, .iload_n 1, 1, [], .inl 0),
  (8, .invokevirtual 136, 3, [44, 2, 1, 4], .inl 0),
  (11, .ifCond .eq 14, 3, [25], .inl 0),
  (14, .aload_n 0, 1, [], .inl 0),
  (15, .getfield 57, 3, [11, 8, 24, 0, 0], .inl 0),
  (18, .iload_n 1, 1, [], .inl 0),
  (19, .invokevirtual 204, 3, [41, 2, 1, 3], .inl 0),
  (22, .goto 5, 3, [27], .inl 0),
  (25, .bipush (-2), 2, [], .inl (-2)),
  (27, .ireturn, 1, [], .inl 0)]
/-- H.sad -/
def tb136 : List (Nat × Instr × Nat × List Nat × (Int32 ⊕ Int64)) := [(0, .aload_n 0, 1, [], .inl 0),
  (1, .getfield 10, 3, [11, 0, 48, 0, 0], .inl 0),
  (4, .invokevirtual 171, 3, [70, 1, 1, 6], .inl 0),
  (7, .ifCond .ne 6, 3, [13], .inl 0),
  (10, .bipush (-2), 2, [], .inl (-2)),
  (12, .ireturn, 1, [], .inl 0),
  (13, .iconst (-1), 1, [], .inl (-1)),
  (14, .istore_n 1, 1, [], .inl 0),
  (15, .iconst 0, 1, [], .inl (0)),
  (16, .istore_n 2, 1, [], .inl 0),
  (17, .iconst 0, 1, [], .inl (0)),
  (18, .istore_n 3, 1, [], .inl 0),
  (19, .iload_n 3, 1, [], .inl 0),
  (20, .aload_n 0, 1, [], .inl 0),
  (21, .getfield 10, 3, [11, 0, 48, 0, 0], .inl 0),
  (24, .getfield 152, 3, [6, 9, 32, 2, 4], .inl 0),
  (27, .getfield 174, 3, [4, 2, 0], .inl 0),
  (30, .if_icmp .ge 35, 3, [65], .inl 0),
  (33, .aload_n 0, 1, [], .inl 0),
  (34, .getfield 57, 3, [11, 8, 24, 0, 0], .inl 0),
  (37, .iload_n 3, 1, [], .inl 0),
  (38, .invokevirtual 204, 3, [41, 2, 1, 3], .inl 0),
  (41, .istore 4, 2, [], .inl 0),
  (43, .iload_n 1, 1, [], .inl 0),
  (44, .iconst (-1), 1, [], .inl (-1)),
  (45, .if_icmp .eq 9, 3, [54], .inl 0),
  (48, .iload 4, 2, [], .inl 0),
  (50, .iload_n 2, 1, [], .inl 0),
  (51, .if_icmp .ge 8, 3, [59], .inl 0),
  (54, .iload_n 3, 1, [], .inl 0),
  (55, .istore_n 1, 1, [], .inl 0),
  (56, .iload 4, 2, [], .inl 0),
  (58, .istore_n 2, 1, [], .inl 0),
  (59, .iinc 3 1, 3, [], .inl (1)),
  (62, .goto (-43), 3, [19, 4], .inl 0),
  (65, .iload_n 1, 1, [], .inl 0),
  (66, .ireturn, 1, [], .inl 0)]
/-- H.drill -/
def tb137 : List (Nat × Instr × Nat × List Nat × (Int32 ⊕ Int64)) := [(0, .aload_n 0, 1, [], .inl 0),
  (1, .getfield 10, 3, [11, 0, 48, 0, 0], .inl 0),
  (4, .getfield 152, 3, [6, 9, 32, 2, 4], .inl 0),
  (7, .iload_n 1, 1, [], .inl 0),
  (8, .invokevirtual 136, 3, [44, 2, 1, 4], .inl 0),
  (11, .ifCond .eq 14, 3, [25], .inl 0),
  (14, .aload_n 0, 1, [], .inl 0),
  (15, .getfield 57, 3, [11, 8, 24, 0, 0], .inl 0),
  (18, .iload_n 1, 1, [], .inl 0),
  (19, .invokevirtual 207, 3, [39, 2, 1, 3], .inl 0),
  (22, .goto 5, 3, [27], .inl 0),
  (25, .bipush (-2), 2, [], .inl (-2)),
  (27, .ireturn, 1, [], .inl 0)]
/-- H.glad -/
def tb138 : List (Nat × Instr × Nat × List Nat × (Int32 ⊕ Int64)) := [(0, .aload_n 0, 1, [], .inl 0),
  (1, .getfield 10, 3, [11, 0, 48, 0, 0], .inl 0),
  (4, .iload_n 1, 1, [], .inl 0),
  (5, .invokevirtual 195, 3, [71, 2, 1, 6], .inl 0),
  (8, .ifCond .ne 6, 3, [14], .inl 0),
  (11, .bipush (-2), 2, [], .inl (-2)),
  (13, .ireturn, 1, [], .inl 0),
  (14, .iconst 0, 1, [], .inl (0)),
  (15, .istore_n 2, 1, [], .inl 0),
  (16, .iconst 0, 1, [], .inl (0)),
  (17, .istore_n 3, 1, [], .inl 0),
  (18, .iload_n 3, 1, [], .inl 0),
  (19, .aload_n 0, 1, [], .inl 0),
  (20, .getfield 10, 3, [11, 0, 48, 0, 0], .inl 0),
  (23, .getfield 152, 3, [6, 9, 32, 2, 4], .inl 0),
  (26, .getfield 174, 3, [4, 2, 0], .inl 0),
  (29, .if_icmp .ge 27, 3, [56], .inl 0),
  (32, .aload_n 0, 1, [], .inl 0),
  (33, .getfield 57, 3, [11, 8, 24, 0, 0], .inl 0),
  (36, .iload_n 3, 1, [], .inl 0),
  (37, .iload_n 1, 1, [], .inl 0),
  (38, .invokevirtual 210, 3, [38, 3, 1, 3], .inl 0),
  (41, .ifCond .eq 9, 3, [50], .inl 0),
  (44, .iload_n 2, 1, [], .inl 0),
  (45, .iconst 1, 1, [], .inl (1)),
  (46, .iload_n 3, 1, [], .inl 0),
  (47, .ishl, 1, [], .inl 0),
  (48, .ior, 1, [], .inl 0),
  (49, .istore_n 2, 1, [], .inl 0),
  (50, .iinc 3 1, 3, [], .inl (1)),
  (53, .goto (-35), 3, [18], .inl 0),
  (56, .iload_n 2, 1, [], .inl 0),
  (57, .ireturn, 1, [], .inl 0)]
/-- H.often -/
def tb139 : List (Nat × Instr × Nat × List Nat × (Int32 ⊕ Int64)) := [(0, .aload_n 0, 1, [], .inl 0),
  (1, .getfield 10, 3, [11, 0, 48, 0, 0], .inl 0),
  (4, .getfield 152, 3, [6, 9, 32, 2, 4], .inl 0),
  (7, .iload_n 1, 1, [], .inl 0),
  (8, .invokevirtual 136, 3, [44, 2, 1, 4], .inl 0),
  (11, .ifCond .ne 6, 3, [17], .inl 0),
  (14, .bipush (-2), 2, [], .inl (-2)),
  (16, .ireturn, 1, [], .inl 0),
  (17, .iconst 0, 1, [], .inl (0)),
  (18, .istore_n 2, 1, [], .inl 0),
  (19, .iconst 0, 1, [], .inl (0)),
  (20, .istore_n 3, 1, [], .inl 0),
  (21, .iload_n 3, 1, [], .inl 0),
  (22, .aload_n 0, 1, [], .inl 0),
  (23, .getfield 10, 3, [11, 0, 48, 0, 0], .inl 0),
  (26, .getfield 213, 3, [6, 0, 0], .inl 0),
  (29, .if_icmp .gt 24, 3, [53], .inl 0),
  (32, .aload_n 0, 1, [], .inl 0),
  (33, .getfield 57, 3, [11, 8, 24, 0, 0], .inl 0),
  (36, .iload_n 1, 1, [], .inl 0),
  (37, .iload_n 3, 1, [], .inl 0),
  (38, .invokevirtual 210, 3, [38, 3, 1, 3], .inl 0),
  (41, .ifCond .eq 6, 3, [47], .inl 0),
  (44, .iinc 2 1, 3, [], .inl (1)),
  (47, .iinc 3 1, 3, [], .inl (1)),
  (50, .goto (-29), 3, [21], .inl 0),
  (53, .iload_n 2, 1, [], .inl 0),
  (54, .ireturn, 1, [], .inl 0)]
/-- H.round -/
def tb140 : List (Nat × Instr × Nat × List Nat × (Int32 ⊕ Int64)) := [(0, .aload_n 0, 1, [], .inl 0),
  (1, .getfield 10, 3, [11, 0, 48, 0, 0], .inl 0),
  (4, .invokevirtual 171, 3, [70, 1, 1, 6], .inl 0),
  (7, .ifCond .ne 6, 3, [13], .inl 0),
  (10, .bipush (-2), 2, [], .inl (-2)),
  (12, .ireturn, 1, [], .inl 0),
  (13, .iconst 1, 1, [], .inl (1)),
  (14, .istore_n 1, 1, [], .inl 0),
  (15, .iload_n 1, 1, [], .inl 0),
  (16, .aload_n 0, 1, [], .inl 0),
  (17, .getfield 10, 3, [11, 0, 48, 0, 0], .inl 0),
  (20, .getfield 213, 3, [6, 0, 0], .inl 0),
  (23, .if_icmp .gt 23, 3, [46], .inl 0),
  (26, .aload_n 0, 1, [], .inl 0),
  (27, .getfield 57, 3, [11, 8, 24, 0, 0], .inl 0),
  (30, .iconst 0, 1, [], .inl (0)),
  (31, .iload_n 1, 1, [], .inl 0),
  (32, .invokevirtual 216, 3, [36, 3, 1, 3], .inl 0),
  (35, .ifCond .eq 5, 3, [40], .inl 0),
  (38, .iload_n 1, 1, [], .inl 0),
  (39, .ireturn, 1, [], .inl 0),
  (40, .iinc 1 1, 3, [], .inl (1)),
  (43, .goto (-28), 3, [15], .inl 0),
  (46, .iconst (-1), 1, [], .inl (-1)),
  (47, .ireturn, 1, [], .inl 0)]
/-- H.walks -/
def tb141 : List (Nat × Instr × Nat × List Nat × (Int32 ⊕ Int64)) := [(0, .aload_n 0, 1, [], .inl 0),
  (1, .getfield 10, 3, [11, 0, 48, 0, 0], .inl 0),
  (4, .getfield 152, 3, [6, 9, 32, 2, 4], .inl 0),
  (7, .iload_n 1, 1, [], .inl 0),
  (8, .invokevirtual 136, 3, [44, 2, 1, 4], .inl 0),
  (11, .ifCond .ne 6, 3, [17], .inl 0),
  (14, .bipush (-2), 2, [], .inl (-2)),
  (16, .ireturn, 1, [], .inl 0),
  (17, .iconst 0, 1, [], .inl (0)),
  (18, .istore_n 2, 1, [], .inl 0),
  (19, .iconst 0, 1, [], .inl (0)),
  (20, .istore_n 3, 1, [], .inl 0),
  (21, .iload_n 3, 1, [], .inl 0),
  (22, .aload_n 0, 1, [], .inl 0),
  (23, .getfield 10, 3, [11, 0, 48, 0, 0], .inl 0),
  (26, .getfield 213, 3, [6, 0, 0], .inl 0),
  (29, .if_icmp .gt 23, 3, [52], .inl 0),
  (32, .iload_n 2, 1, [], .inl 0),
  (33, .iconst 1, 1, [], .inl (1)),
  (34, .aload_n 0, 1, [], .inl 0),
  (35, .getfield 57, 3, [11, 8, 24, 0, 0], .inl 0),
  (38, .iload_n 1, 1, [], .inl 0),
  (39, .iload_n 3, 1, [], .inl 0),
  (40, .invokevirtual 191, 3, [35, 3, 1, 3], .inl 0),
  (43, .ishl, 1, [], .inl 0),
  (44, .ior, 1, [], .inl 0),
  (45, .istore_n 2, 1, [], .inl 0),
  (46, .iinc 3 1, 3, [], .inl (1)),
  (49, .goto (-28), 3, [21], .inl 0),
  (52, .iload_n 2, 1, [], .inl 0),
  (53, .ireturn, 1, [], .inl 0)]
/-- H.feast -/
def tb142 : List (Nat × Instr × Nat × List Nat × (Int32 ⊕ Int64)) := [(0, .aload_n 0, 1, [], .inl 0),
  (1, .getfield 10, 3, [11, 0, 48, 0, 0], .inl 0),
  (4, .invokevirtual 171, 3, [70, 1, 1, 6], .inl 0),
  (7, .ifCond .ne 6, 3, [13], .inl 0),
  (10, .bipush (-2), 2, [], .inl (-2)),
  (12, .ireturn, 1, [], .inl 0),
  (13, .iconst 0, 1, [], .inl (0)),
  (14, .istore_n 1, 1, [], .inl 0),
  (15, .iconst 1, 1, [], .inl (1)),
  (16, .istore_n 2, 1, [], .inl 0),
  (17, .iload_n 2, 1, [], .inl 0),
  (18, .aload_n 0, 1, [], .inl 0),
  (19, .getfield 10, 3, [11, 0, 48, 0, 0], .inl 0),
  (22, .getfield 213, 3, [6, 0, 0], .inl 0),
  (25, .if_icmp .gt 30, 3, [55], .inl 0),
  (28, .aload_n 0, 1, [], .inl 0),
  (29, .getfield 57, 3, [11, 8, 24, 0, 0], .inl 0),
  (32, .iload_n 2, 1, [], .inl 0),
  (33, .invokevirtual 219, 3, [42, 2, 1, 3], .inl 0),
  (36, .aload_n 0, 1, [], .inl 0),
  (37, .getfield 57, 3, [11, 8, 24, 0, 0], .inl 0),
  (40, .iload_n 1, 1, [], .inl 0),
  (41, .invokevirtual 219, 3, [42, 2, 1, 3], .inl 0),
  (44, .if_icmp .le 5, 3, [49], .inl 0),
  (47, .iload_n 2, 1, [], .inl 0),
  (48, .istore_n 1, 1, [], .inl 0),
  (49, .iinc 2 1, 3, [], .inl (1)),
  (52, .goto (-35), 3, [17], .inl 0),
  (55, .iload_n 1, 1, [], .inl 0),
  (56, .ireturn, 1, [], .inl 0)]
/-- H.envies -/
def tb143 : List (Nat × Instr × Nat × List Nat × (Int32 ⊕ Int64)) := [(0, .aload_n 0, 1, [], .inl 0),
  (1, .iload_n 1, 1, [], .inl 0),
  (2, .iload_n 2, 1, [], .inl 0),
  (3, .invokevirtual 187, 3, [188, 3, 1, 11], .inl 0),
  (6, .ifCond .ne 6, 3, [12], .inl 0),
  (9, .bipush (-2), 2, [], .inl (-2)),
  (11, .ireturn, 1, [], .inl 0),
  (12, .aload_n 0, 1, [], .inl 0),
  (13, .getfield 45, 3, [11, 6, 72, 0, 0], .inl 0),
  (16, .aload_n 0, 1, [], .inl 0),
  (17, .getfield 57, 3, [11, 8, 24, 0, 0], .inl 0),
  (20, .iload_n 1, 1, [], .inl 0),
  (21, .iload_n 2, 1, [], .inl 0),
  (22, .invokevirtual 191, 3, [35, 3, 1, 3], .inl 0),
  (25, .invokevirtual 168, 3, [101, 2, 1, 9], .inl 0),
  (28, .istore_n 3, 1, [], .inl 0),
  (29, .iconst 0, 1, [], .inl (0)),
  (30, .istore 4, 2, [], .inl 0),
  (32, .iconst 0, 1, [], .inl (0)),
  (33, .istore 5, 2, [], .inl 0),
  (35, .iload 5, 2, [], .inl 0),
  (37, .aload_n 0, 1, [], .inl 0),
  (38, .getfield 10, 3, [11, 0, 48, 0, 0], .inl 0),
  (41, .getfield 152, 3, [6, 9, 32, 2, 4], .inl 0),
  (44, .getfield 174, 3, [4, 2, 0], .inl 0),
  (47, .if_icmp .ge 39, 3, [86], .inl 0),
  (50, .aload_n 0, 1, [], .inl 0),
  (51, .getfield 45, 3, [11, 6, 72, 0, 0], .inl 0),
  (54, .aload_n 0, 1, [], .inl 0),
  (55, .getfield 57, 3, [11, 8, 24, 0, 0], .inl 0),
  (58, .iload 5, 2, [], .inl 0),
  (60, .iload_n 2, 1, [], .inl 0),
  (61, .invokevirtual 191, 3, [35, 3, 1, 3], .inl 0),
  (64, .invokevirtual 168, 3, [101, 2, 1, 9], .inl 0),
  (67, .iload_n 3, 1, [], .inl 0),
  (68, .if_icmp .le 12, 3, [80], .inl 0),
  (71, .iload 4, 2, [], .inl 0),
  (73, .iconst 1, 1, [], .inl (1)),
  (74, .iload 5, 2, [], .inl 0),
  (76, .ishl, 1, [], .inl 0),
  (77, .ior, 1, [], .inl 0),
  (78, .istore 4, 2, [], .inl 0),
  (80, .iinc 5 1, 3, [], .inl (1)),
  (83, .goto (-48), 3, [35], .inl 0),
  (86, .iload 4, 2, [], .inl 0),
  (88, .ireturn, 1, [], .inl 0)]
/-- H.trade -/
def tb144 : List (Nat × Instr × Nat × List Nat × (Int32 ⊕ Int64)) := [(0, .aload_n 0, 1, [], .inl 0),
  (1, .getfield 10, 3, [11, 0, 48, 0, 0], .inl 0),
  (4, .iload_n 1, 1, [], .inl 0),
  (5, .invokevirtual 195, 3, [71, 2, 1, 6], .inl 0),
  (8, .ifCond .ne 6, 3, [14], .inl 0),
  (11, .bipush (-2), 2, [], .inl (-2)),
  (13, .ireturn, 1, [], .inl 0),
  (14, .iconst 0, 1, [], .inl (0)),
  (15, .istore_n 2, 1, [], .inl 0),
  (16, .iload_n 2, 1, [], .inl 0),
  (17, .aload_n 0, 1, [], .inl 0),
  (18, .getfield 10, 3, [11, 0, 48, 0, 0], .inl 0),
  (21, .getfield 152, 3, [6, 9, 32, 2, 4], .inl 0),
  (24, .getfield 174, 3, [4, 2, 0], .inl 0),
  (27, .if_icmp .ge 60, 3, [87], .inl 0),
  (30, .iload_n 2, 1, [], .inl 0),
  (31, .iconst 1, 1, [], .inl (1)),
  (32, .iadd, 1, [], .inl 0),
  (33, .istore_n 3, 1, [], .inl 0),
  (34, .iload_n 3, 1, [], .inl 0),
  (35, .aload_n 0, 1, [], .inl 0),
  (36, .getfield 10, 3, [11, 0, 48, 0, 0], .inl 0),
  (39, .getfield 152, 3, [6, 9, 32, 2, 4], .inl 0),
  (42, .getfield 174, 3, [4, 2, 0], .inl 0),
  (45, .if_icmp .ge 36, 3, [81], .inl 0),
  (48, .aload_n 0, 1, [], .inl 0),
  (49, .iload_n 2, 1, [], .inl 0),
  (50, .iload_n 3, 1, [], .inl 0),
  (51, .iload_n 1, 1, [], .inl 0),
  (52, .invokevirtual 222, 3, [191, 4, 1, 11], .inl 0),
  (55, .ifCond .eq 20, 3, [75], .inl 0),
  (58, .aload_n 0, 1, [], .inl 0),
  (59, .iload_n 3, 1, [], .inl 0),
  (60, .iload_n 2, 1, [], .inl 0),
  (61, .iload_n 1, 1, [], .inl 0),
  (62, .invokevirtual 222, 3, [191, 4, 1, 11], .inl 0),
  (65, .ifCond .eq 10, 3, [75], .inl 0),
  (68, .bipush 10, 2, [], .inl (10)),
  (70, .iload_n 2, 1, [], .inl 0),
  (71, .imul, 1, [], .inl 0),
  (72, .iload_n 3, 1, [], .inl 0),
  (73, .iadd, 1, [], .inl 0),
  (74, .ireturn, 1, [], .inl 0),
  (75, .iinc 3 1, 3, [], .inl (1)),
  (78, .goto (-44), 3, [34], .inl 0),
  (81, .iinc 2 1, 3, [], .inl (1)),
  (84, .goto (-68), 3, [16, 3], .inl 0),
  (87, .iconst (-1), 1, [], .inl (-1)),
  (88, .ireturn, 1, [], .inl 0)]
/-- H.roster -/
def tb145 : List (Nat × Instr × Nat × List Nat × (Int32 ⊕ Int64)) := [(0, .aload_n 0, 1, [], .inl 0),
  (1, .getfield 10, 3, [11, 0, 48, 0, 0], .inl 0),
  (4, .invokevirtual 171, 3, [70, 1, 1, 6], .inl 0),
  (7, .ifCond .ne 6, 3, [13], .inl 0),
  (10, .bipush (-2), 2, [], .inl (-2)),
  (12, .ireturn, 1, [], .inl 0),
  (13, .aload_n 0, 1, [], .inl 0),
  (14, .getfield 70, 3, [11, 11, 56, 0, 0], .inl 0),
  (17, .invokevirtual 226, 3, [81, 1, 0, 7], .inl 0),
  (20, .aload_n 0, 1, [], .inl 0),
  (21, .getfield 70, 3, [11, 11, 56, 0, 0], .inl 0),
  (24, .getfield 229, 3, [7, 4, 0], .inl 0),
  (27, .ireturn, 1, [], .inl 0)]
/-- H.put -/
def tb146 : List (Nat × Instr × Nat × List Nat × (Int32 ⊕ Int64)) := [(0, .aload_n 0, 1, [], .inl 0),
  (1, .getfield 10, 3, [11, 0, 48, 0, 0], .inl 0),
  (4, .getfield 152, 3, [6, 9, 32, 2, 4], .inl 0),
  (7, .iload_n 1, 1, [], .inl 0),
  (8, .invokevirtual 136, 3, [44, 2, 1, 4], .inl 0),
  (11, .ifCond .ne 6, 3, [17], .inl 0),
  (14, .bipush (-2), 2, [], .inl (-2)),
  (16, .ireturn, 1, [], .inl 0),
  (17, .aload_n 0, 1, [], .inl 0),
  (18, .getfield 70, 3, [11, 11, 56, 0, 0], .inl 0),
  (21, .invokevirtual 226, 3, [81, 1, 0, 7], .inl 0),
  (24, .aload_n 0, 1, [], .inl 0),
  (25, .getfield 70, 3, [11, 11, 56, 0, 0], .inl 0),
  (28, .iload_n 1, 1, [], .inl 0),
  (29, .invokevirtual 232, 3, [83, 2, 1, 7], .inl 0),
  (32, .ireturn, 1, [], .inl 0)]
/-- H.rosters -/
def tb147 : List (Nat × Instr × Nat × List Nat × (Int32 ⊕ Int64)) := [(0, .aload_n 0, 1, [], .inl 0),
  (1, .getfield 10, 3, [11, 0, 48, 0, 0], .inl 0),
  (4, .invokevirtual 171, 3, [70, 1, 1, 6], .inl 0),
  (7, .ifCond .ne 6, 3, [13], .inl 0),
  (10, .bipush (-2), 2, [], .inl (-2)),
  (12, .ireturn, 1, [], .inl 0),
  (13, .aload_n 0, 1, [], .inl 0),
  (14, .getfield 70, 3, [11, 11, 56, 0, 0], .inl 0),
  (17, .invokevirtual 226, 3, [81, 1, 0, 7], .inl 0),
  (20, .aload_n 0, 1, [], .inl 0),
  (21, .getfield 70, 3, [11, 11, 56, 0, 0], .inl 0),
  (24, .getfield 235, 3, [7, 5, 0], .inl 0),
  (27, .ireturn, 1, [], .inl 0)]
/-- H.fair -/
def tb148 : List (Nat × Instr × Nat × List Nat × (Int32 ⊕ Int64)) := [(0, .aload_n 0, 1, [], .inl 0),
  (1, .getfield 10, 3, [11, 0, 48, 0, 0], .inl 0),
  (4, .invokevirtual 171, 3, [70, 1, 1, 6], .inl 0),
  (7, .ifCond .ne 6, 3, [13], .inl 0),
  (10, .bipush (-2), 2, [], .inl (-2)),
  (12, .ireturn, 1, [], .inl 0),
  (13, .aload_n 0, 1, [], .inl 0),
  (14, .getfield 10, 3, [11, 0, 48, 0, 0], .inl 0),
  (17, .getfield 152, 3, [6, 9, 32, 2, 4], .inl 0),
  (20, .getfield 174, 3, [4, 2, 0], .inl 0),
  (23, .ifCond .ne 7, 3, [30], .inl 0),
  (26, .iconst (-1), 1, [], .inl (-1)),
  (27, .goto 20, 3, [47], .inl 0),
  (30, .aload_n 0, 1, [], .inl 0),
  (31, .getfield 45, 3, [11, 6, 72, 0, 0], .inl 0),
  (34, .aload_n 0, 1, [], .inl 0),
  (35, .getfield 10, 3, [11, 0, 48, 0, 0], .inl 0),
  (38, .getfield 152, 3, [6, 9, 32, 2, 4], .inl 0),
  (41, .getfield 174, 3, [4, 2, 0], .inl 0),
  (44, .invokevirtual 238, 3, [107, 2, 1, 9], .inl 0),
  (47, .ireturn, 1, [], .inl 0)]
/-- H.shifts -/
def tb149 : List (Nat × Instr × Nat × List Nat × (Int32 ⊕ Int64)) := [(0, .aload_n 0, 1, [], .inl 0),
  (1, .iload_n 1, 1, [], .inl 0),
  (2, .invokevirtual 241, 3, [192, 2, 1, 11], .inl 0),
  (5, .istore_n 2, 1, [], .inl 0),
  (6, .iload_n 2, 1, [], .inl 0),
  (7, .ifCond .eq 7, 3, [14], .inl 0),
  (10, .iload_n 2, 1, [], .inl 0),
  (11, .goto 16, 3, [27], .inl 0),
  (14, .aload_n 0, 1, [], .inl 0),
  (15, .getfield 77, 3, [11, 12, 64, 0, 0], .inl 0),
  (18, .aload_n 0, 1, [], .inl 0),
  (19, .getfield 38, 3, [11, 5, 2229, 0, 0], .inl 0),
  (22, .iload_n 1, 1, [], .inl 0),
  (23, .aaload, 1, [], .inl 0),
  (24, .invokevirtual 244, 3, [87, 2, 1, 8], .inl 0),
  (27, .ireturn, 1, [], .inl 0)]
/-- H.first -/
def tb150 : List (Nat × Instr × Nat × List Nat × (Int32 ⊕ Int64)) := [(0, .aload_n 0, 1, [], .inl 0),
  (1, .iload_n 1, 1, [], .inl 0),
  (2, .invokevirtual 241, 3, [192, 2, 1, 11], .inl 0),
  (5, .istore_n 2, 1, [], .inl 0),
  (6, .iload_n 2, 1, [], .inl 0),
  (7, .ifCond .eq 7, 3, [14], .inl 0),
  (10, .iload_n 2, 1, [], .inl 0),
  (11, .goto 16, 3, [27], .inl 0),
  (14, .aload_n 0, 1, [], .inl 0),
  (15, .getfield 77, 3, [11, 12, 64, 0, 0], .inl 0),
  (18, .aload_n 0, 1, [], .inl 0),
  (19, .getfield 38, 3, [11, 5, 2229, 0, 0], .inl 0),
  (22, .iload_n 1, 1, [], .inl 0),
  (23, .aaload, 1, [], .inl 0),
  (24, .invokevirtual 248, 3, [88, 2, 1, 8], .inl 0),
  (27, .ireturn, 1, [], .inl 0)]
/-- H.reach -/
def tb151 : List (Nat × Instr × Nat × List Nat × (Int32 ⊕ Int64)) := [(0, .aload_n 0, 1, [], .inl 0),
  (1, .getfield 10, 3, [11, 0, 48, 0, 0], .inl 0),
  (4, .invokevirtual 171, 3, [70, 1, 1, 6], .inl 0),
  (7, .ifCond .ne 6, 3, [13], .inl 0),
  (10, .bipush (-2), 2, [], .inl (-2)),
  (12, .ireturn, 1, [], .inl 0),
  (13, .aload_n 0, 1, [], .inl 0),
  (14, .getfield 77, 3, [11, 12, 64, 0, 0], .inl 0),
  (17, .invokevirtual 251, 3, [89, 1, 0, 8], .inl 0),
  (20, .aload_n 0, 1, [], .inl 0),
  (21, .getfield 77, 3, [11, 12, 64, 0, 0], .inl 0),
  (24, .getfield 254, 3, [8, 5, 0], .inl 0),
  (27, .ireturn, 1, [], .inl 0)]
/-- H.far -/
def tb152 : List (Nat × Instr × Nat × List Nat × (Int32 ⊕ Int64)) := [(0, .aload_n 0, 1, [], .inl 0),
  (1, .getfield 10, 3, [11, 0, 48, 0, 0], .inl 0),
  (4, .invokevirtual 171, 3, [70, 1, 1, 6], .inl 0),
  (7, .ifCond .ne 6, 3, [13], .inl 0),
  (10, .bipush (-2), 2, [], .inl (-2)),
  (12, .ireturn, 1, [], .inl 0),
  (13, .aload_n 0, 1, [], .inl 0),
  (14, .getfield 77, 3, [11, 12, 64, 0, 0], .inl 0),
  (17, .invokevirtual 251, 3, [89, 1, 0, 8], .inl 0),
  (20, .aload_n 0, 1, [], .inl 0),
  (21, .getfield 77, 3, [11, 12, 64, 0, 0], .inl 0),
  (24, .getfield 257, 3, [8, 6, 0], .inl 0),
  (27, .ireturn, 1, [], .inl 0)]
/-- H.lot -/
def tb153 : List (Nat × Instr × Nat × List Nat × (Int32 ⊕ Int64)) := [(0, .aload_n 0, 1, [], .inl 0),
  (1, .getfield 10, 3, [11, 0, 48, 0, 0], .inl 0),
  (4, .getfield 152, 3, [6, 9, 32, 2, 4], .inl 0),
  (7, .iload_n 1, 1, [], .inl 0),
  (8, .invokevirtual 136, 3, [44, 2, 1, 4], .inl 0),
  (11, .ifCond .eq 24, 3, [35], .inl 0),
  (14, .aload_n 0, 1, [], .inl 0),
  (15, .getfield 10, 3, [11, 0, 48, 0, 0], .inl 0),
  (18, .getfield 125, 3, [6, 4, 32, 2, 0], .inl 0),
  (21, .iload_n 2, 1, [], .inl 0),
  (22, .invokevirtual 136, 3, [44, 2, 1, 4], .inl 0),
  (25, .ifCond .eq 10, 3, [35], .inl 0),
  (28, .iload_n 3, 1, [], .inl 0),
  (29, .invokestatic 260, 3, [184, 1, 1], .inl 0),
  (32, .ifCond .ne 6, 3, [38], .inl 0),
  (35, .bipush (-2), 2, [], .inl (-2)),
  (37, .ireturn, 1, [], .inl 0),
  (38, .aload_n 0, 1, [], .inl 0),
  (39, .getfield 10, 3, [11, 0, 48, 0, 0], .inl 0),
  (42, .getfield 152, 3, [6, 9, 32, 2, 4], .inl 0),
  (45, .getfield 174, 3, [4, 2, 0], .inl 0),
  (48, .aload_n 0, 1, [], .inl 0),
  (49, .getfield 10, 3, [11, 0, 48, 0, 0], .inl 0),
  (52, .getfield 152, 3, [6, 9, 32, 2, 4], .inl 0),
  (55, .getfield 174, 3, [4, 2, 0], .inl 0),
  (58, .invokestatic 263, 3, [199, 2, 1], .inl 0),
  (61, .istore 4, 2, [], .inl 0),
  (63, .aload_n 0, 1, [], .inl 0),
  (64, .getfield 70, 3, [11, 11, 56, 0, 0], .inl 0),
  (67, .iload_n 1, 1, [], .inl 0),
  (68, .iload_n 2, 1, [], .inl 0),
  (69, .invokevirtual 266, 3, [84, 3, 1, 7], .inl 0),
  (72, .i2l, 1, [], .inl 0),
  (73, .iload 4, 2, [], .inl 0),
  (75, .i2l, 1, [], .inl 0),
  (76, .iload_n 3, 1, [], .inl 0),
  (77, .invokestatic 269, 3, [203, 3, 2], .inl 0),
  (80, .l2i, 1, [], .inl 0),
  (81, .ireturn, 1, [], .inl 0)]
/-- H.share -/
def tb154 : List (Nat × Instr × Nat × List Nat × (Int32 ⊕ Int64)) := [(0, .aload_n 0, 1, [], .inl 0),
  (1, .getfield 10, 3, [11, 0, 48, 0, 0], .inl 0),
  (4, .getfield 125, 3, [6, 4, 32, 2, 0], .inl 0),
  (7, .iload_n 1, 1, [], .inl 0),
  (8, .invokevirtual 136, 3, [44, 2, 1, 4], .inl 0),
  (11, .ifCond .eq 10, 3, [21], .inl 0),
  (14, .iload_n 2, 1, [], .inl 0),
  (15, .invokestatic 260, 3, [184, 1, 1], .inl 0),
  (18, .ifCond .ne 6, 3, [24], .inl 0),
  (21, .bipush (-2), 2, [], .inl (-2)),
  (23, .ireturn, 1, [], .inl 0),
  (24, .aload_n 0, 1, [], .inl 0),
  (25, .getfield 45, 3, [11, 6, 72, 0, 0], .inl 0),
  (28, .iload_n 1, 1, [], .inl 0),
  (29, .invokevirtual 273, 3, [108, 2, 1, 9], .inl 0),
  (32, .i2l, 1, [], .inl 0),
  (33, .ldc2_w 276, 3, [], .inr (60)),
  (36, .iload_n 2, 1, [], .inl 0),
  (37, .invokestatic 269, 3, [203, 3, 2], .inl 0),
  (40, .l2i, 1, [], .inl 0),
  (41, .ireturn, 1, [], .inl 0)]
/-- H.all -/
def tb155 : List (Nat × Instr × Nat × List Nat × (Int32 ⊕ Int64)) := [(0, .aload_n 0, 1, [], .inl 0),
  (1, .getfield 10, 3, [11, 0, 48, 0, 0], .inl 0),
  (4, .invokevirtual 171, 3, [70, 1, 1, 6], .inl 0),
  (7, .ifCond .eq 20, 3, [27], .inl 0),
  (10, .iload_n 1, 1, [], .inl 0),
  (11, .aload_n 0, 1, [], .inl 0),
  (12, .getfield 10, 3, [11, 0, 48, 0, 0], .inl 0),
  (15, .getfield 125, 3, [6, 4, 32, 2, 0], .inl 0),
  (18, .invokevirtual 177, 3, [51, 1, 1, 4], .inl 0),
  (21, .iconst (-1), 1, [], .inl (-1)),
  (22, .ixor, 1, [], .inl 0),
  (23, .iand, 1, [], .inl 0),
  (24, .ifCond .eq 6, 3, [30], .inl 0),
  (27, .bipush (-2), 2, [], .inl (-2)),
  (29, .ireturn, 1, [], .inl 0),
  (30, .aload_n 0, 1, [], .inl 0),
  (31, .getfield 10, 3, [11, 0, 48, 0, 0], .inl 0),
  (34, .aload_n 0, 1, [], .inl 0),
  (35, .getfield 45, 3, [11, 6, 72, 0, 0], .inl 0),
  (38, .iload_n 1, 1, [], .inl 0),
  (39, .invokevirtual 181, 3, [104, 2, 1, 9], .inl 0),
  (42, .invokevirtual 278, 3, [76, 2, 1, 6], .inl 0),
  (45, .ireturn, 1, [], .inl 0)]
/-- H.watch -/
def tb156 : List (Nat × Instr × Nat × List Nat × (Int32 ⊕ Int64)) := [(0, .aload_n 0, 1, [], .inl 0),
  (1, .getfield 10, 3, [11, 0, 48, 0, 0], .inl 0),
  (4, .invokevirtual 171, 3, [70, 1, 1, 6], .inl 0),
  (7, .ifCond .eq 16, 3, [23], .inl 0),
  (10, .aload_n 0, 1, [], .inl 0),
  (11, .getfield 45, 3, [11, 6, 72, 0, 0], .inl 0),
  (14, .invokevirtual 281, 3, [109, 1, 1, 9], .inl 0),
  (17, .invokestatic 284, 3, [371, 1, 1], .inl 0),
  (20, .goto 5, 3, [25], .inl 0),
  (23, .bipush (-2), 2, [], .inl (-2)),
  (25, .ireturn, 1, [], .inl 0)]
/-- H.watches -/
def tb157 : List (Nat × Instr × Nat × List Nat × (Int32 ⊕ Int64)) := [(0, .aload_n 0, 1, [], .inl 0),
  (1, .getfield 10, 3, [11, 0, 48, 0, 0], .inl 0),
  (4, .invokevirtual 171, 3, [70, 1, 1, 6], .inl 0),
  (7, .ifCond .eq 13, 3, [20], .inl 0),
  (10, .aload_n 0, 1, [], .inl 0),
  (11, .getfield 45, 3, [11, 6, 72, 0, 0], .inl 0),
  (14, .invokevirtual 281, 3, [109, 1, 1, 9], .inl 0),
  (17, .goto 5, 3, [22], .inl 0),
  (20, .bipush (-2), 2, [], .inl (-2)),
  (22, .ireturn, 1, [], .inl 0)]
/-- H.firsts -/
def tb158 : List (Nat × Instr × Nat × List Nat × (Int32 ⊕ Int64)) := [(0, .aload_n 0, 1, [], .inl 0),
  (1, .iload_n 1, 1, [], .inl 0),
  (2, .iload_n 2, 1, [], .inl 0),
  (3, .invokevirtual 289, 3, [193, 3, 1, 11], .inl 0),
  (6, .istore_n 3, 1, [], .inl 0),
  (7, .iload_n 3, 1, [], .inl 0),
  (8, .ifCond .eq 7, 3, [15], .inl 0),
  (11, .iload_n 3, 1, [], .inl 0),
  (12, .goto 17, 3, [29], .inl 0),
  (15, .aload_n 0, 1, [], .inl 0),
  (16, .getfield 93, 3, [11, 14, 8, 0, 0], .inl 0),
  (19, .aload_n 0, 1, [], .inl 0),
  (20, .getfield 38, 3, [11, 5, 2229, 0, 0], .inl 0),
  (23, .iload_n 1, 1, [], .inl 0),
  (24, .aaload, 1, [], .inl 0),
  (25, .iload_n 2, 1, [], .inl 0),
  (26, .invokevirtual 292, 3, [9, 3, 1, 1], .inl 0),
  (29, .ireturn, 1, [], .inl 0)]
/-- H.ask -/
def tb159 : List (Nat × Instr × Nat × List Nat × (Int32 ⊕ Int64)) := [(0, .aload_n 0, 1, [], .inl 0),
  (1, .iload_n 1, 1, [], .inl 0),
  (2, .iload_n 2, 1, [], .inl 0),
  (3, .invokevirtual 289, 3, [193, 3, 1, 11], .inl 0),
  (6, .istore_n 3, 1, [], .inl 0),
  (7, .iload_n 3, 1, [], .inl 0),
  (8, .ifCond .eq 5, 3, [13], .inl 0),
  (11, .iload_n 3, 1, [], .inl 0),
  (12, .ireturn, 1, [], .inl 0),
  (13, .aload_n 0, 1, [], .inl 0),
  (14, .getfield 93, 3, [11, 14, 8, 0, 0], .inl 0),
  (17, .aload_n 0, 1, [], .inl 0),
  (18, .getfield 38, 3, [11, 5, 2229, 0, 0], .inl 0),
  (21, .iload_n 1, 1, [], .inl 0),
  (22, .aaload, 1, [], .inl 0),
  (23, .iload_n 2, 1, [], .inl 0),
  (24, .invokevirtual 296, 3, [11, 3, 0, 1], .inl 0),
  (27, .aload_n 0, 1, [], .inl 0),
  (28, .getfield 93, 3, [11, 14, 8, 0, 0], .inl 0),
  (31, .invokevirtual 300, 3, [13, 1, 1, 1], .inl 0),
  (34, .ireturn, 1, [], .inl 0)]
/-- H.leaves -/
def tb160 : List (Nat × Instr × Nat × List Nat × (Int32 ⊕ Int64)) := [(0, .aload_n 0, 1, [], .inl 0),
  (1, .iload_n 1, 1, [], .inl 0),
  (2, .iload_n 2, 1, [], .inl 0),
  (3, .invokevirtual 289, 3, [193, 3, 1, 11], .inl 0),
  (6, .istore_n 3, 1, [], .inl 0),
  (7, .iload_n 3, 1, [], .inl 0),
  (8, .ifCond .eq 5, 3, [13], .inl 0),
  (11, .iload_n 3, 1, [], .inl 0),
  (12, .ireturn, 1, [], .inl 0),
  (13, .aload_n 0, 1, [], .inl 0),
  (14, .getfield 93, 3, [11, 14, 8, 0, 0], .inl 0),
  (17, .aload_n 0, 1, [], .inl 0),
  (18, .getfield 38, 3, [11, 5, 2229, 0, 0], .inl 0),
  (21, .iload_n 1, 1, [], .inl 0),
  (22, .aaload, 1, [], .inl 0),
  (23, .iload_n 2, 1, [], .inl 0),
  (24, .invokevirtual 296, 3, [11, 3, 0, 1], .inl 0),
  (27, .aload_n 0, 1, [], .inl 0),
  (28, .getfield 93, 3, [11, 14, 8, 0, 0], .inl 0),
  (31, .invokevirtual 300, 3, [13, 1, 1, 1], .inl 0),
  (34, .istore 4, 2, [], .inl 0),
  (36, .iload 4, 2, [], .inl 0),
  (38, .iconst (-1), 1, [], .inl (-1)),
  (39, .if_icmp .ne 13, 3, [52], .inl 0),
  (42, .aload_n 0, 1, [], .inl 0),
  (43, .getfield 93, 3, [11, 14, 8, 0, 0], .inl 0),
  (46, .getfield 303, 3, [1, 3, 0], .inl 0),
  (49, .goto 12, 3, [61], .inl 0),
  (52, .aload_n 0, 1, [], .inl 0),
  (53, .getfield 93, 3, [11, 14, 8, 0, 0], .inl 0),
  (56, .iload 4, 2, [], .inl 0),
  (58, .invokevirtual 306, 3, [14, 2, 1, 1], .inl 0),
  (61, .ireturn, 1, [], .inl 0)]
/-- H.laws -/
def tb161 : List (Nat × Instr × Nat × List Nat × (Int32 ⊕ Int64)) := [(0, .aload_n 0, 1, [], .inl 0),
  (1, .iload_n 1, 1, [], .inl 0),
  (2, .iload_n 2, 1, [], .inl 0),
  (3, .invokevirtual 289, 3, [193, 3, 1, 11], .inl 0),
  (6, .istore_n 3, 1, [], .inl 0),
  (7, .iload_n 3, 1, [], .inl 0),
  (8, .ifCond .eq 7, 3, [15], .inl 0),
  (11, .iload_n 3, 1, [], .inl 0),
  (12, .goto 17, 3, [29], .inl 0),
  (15, .aload_n 0, 1, [], .inl 0),
  (16, .getfield 93, 3, [11, 14, 8, 0, 0], .inl 0),
  (19, .aload_n 0, 1, [], .inl 0),
  (20, .getfield 38, 3, [11, 5, 2229, 0, 0], .inl 0),
  (23, .iload_n 1, 1, [], .inl 0),
  (24, .aaload, 1, [], .inl 0),
  (25, .iload_n 2, 1, [], .inl 0),
  (26, .invokevirtual 309, 3, [10, 3, 1, 1], .inl 0),
  (29, .ireturn, 1, [], .inl 0)]
/-- H.by -/
def tb162 : List (Nat × Instr × Nat × List Nat × (Int32 ⊕ Int64)) := [(0, .aload_n 0, 1, [], .inl 0),
  (1, .getfield 10, 3, [11, 0, 48, 0, 0], .inl 0),
  (4, .invokevirtual 171, 3, [70, 1, 1, 6], .inl 0),
  (7, .ifCond .eq 18, 3, [25], .inl 0),
  (10, .iload_n 1, 1, [], .inl 0),
  (11, .invokestatic 312, 3, [186, 1, 1], .inl 0),
  (14, .ifCond .eq 11, 3, [25], .inl 0),
  (17, .aload_n 0, 1, [], .inl 0),
  (18, .iload_n 1, 1, [], .inl 0),
  (19, .invokevirtual 315, 3, [194, 2, 1, 11], .inl 0),
  (22, .goto 5, 3, [27], .inl 0),
  (25, .bipush (-2), 2, [], .inl (-2)),
  (27, .ireturn, 1, [], .inl 0)]
/-- H.law -/
def tb163 : List (Nat × Instr × Nat × List Nat × (Int32 ⊕ Int64)) := [(0, .aload_n 0, 1, [], .inl 0),
  (1, .getfield 10, 3, [11, 0, 48, 0, 0], .inl 0),
  (4, .invokevirtual 171, 3, [70, 1, 1, 6], .inl 0),
  (7, .ifCond .ne 6, 3, [13], .inl 0),
  (10, .bipush (-2), 2, [], .inl (-2)),
  (12, .ireturn, 1, [], .inl 0),
  (13, .iconst 0, 1, [], .inl (0)),
  (14, .istore_n 1, 1, [], .inl 0),
  (15, .aload_n 0, 1, [], .inl 0),
  (16, .iconst 0, 1, [], .inl (0)),
  (17, .invokevirtual 315, 3, [194, 2, 1, 11], .inl 0),
  (20, .istore_n 2, 1, [], .inl 0),
  (21, .iconst 1, 1, [], .inl (1)),
  (22, .istore_n 3, 1, [], .inl 0),
  (23, .iload_n 3, 1, [], .inl 0),
  (24, .iconst 4, 1, [], .inl (4)),
  (25, .if_icmp .ge 27, 3, [52], .inl 0),
  (28, .aload_n 0, 1, [], .inl 0),
  (29, .iload_n 3, 1, [], .inl 0),
  (30, .invokevirtual 315, 3, [194, 2, 1, 11], .inl 0),
  (33, .istore 4, 2, [], .inl 0),
  (35, .iload 4, 2, [], .inl 0),
  (37, .iload_n 2, 1, [], .inl 0),
  (38, .if_icmp .le 8, 3, [46], .inl 0),
  (41, .iload_n 3, 1, [], .inl 0),
  (42, .istore_n 1, 1, [], .inl 0),
  (43, .iload 4, 2, [], .inl 0),
  (45, .istore_n 2, 1, [], .inl 0),
  (46, .iinc 3 1, 3, [], .inl (1)),
  (49, .goto (-26), 3, [23, 4], .inl 0),
  (52, .iload_n 1, 1, [], .inl 0),
  (53, .ireturn, 1, [], .inl 0)]
/-- H.fell -/
def tb164 : List (Nat × Instr × Nat × List Nat × (Int32 ⊕ Int64)) := [(0, .aload_n 0, 1, [], .inl 0),
  (1, .getfield 10, 3, [11, 0, 48, 0, 0], .inl 0),
  (4, .invokevirtual 171, 3, [70, 1, 1, 6], .inl 0),
  (7, .ifCond .ne 6, 3, [13], .inl 0),
  (10, .bipush (-2), 2, [], .inl (-2)),
  (12, .ireturn, 1, [], .inl 0),
  (13, .iconst (-1), 1, [], .inl (-1)),
  (14, .istore_n 1, 1, [], .inl 0),
  (15, .aload_n 0, 1, [], .inl 0),
  (16, .getfield 57, 3, [11, 8, 24, 0, 0], .inl 0),
  (19, .invokevirtual 318, 3, [43, 1, 1, 3], .inl 0),
  (22, .istore_n 2, 1, [], .inl 0),
  (23, .iconst 0, 1, [], .inl (0)),
  (24, .istore_n 3, 1, [], .inl 0),
  (25, .iload_n 3, 1, [], .inl 0),
  (26, .aload_n 0, 1, [], .inl 0),
  (27, .getfield 10, 3, [11, 0, 48, 0, 0], .inl 0),
  (30, .getfield 146, 3, [6, 7, 32, 2, 2], .inl 0),
  (33, .getfield 174, 3, [4, 2, 0], .inl 0),
  (36, .if_icmp .ge 42, 3, [78], .inl 0),
  (39, .aload_n 0, 1, [], .inl 0),
  (40, .getfield 10, 3, [11, 0, 48, 0, 0], .inl 0),
  (43, .iload_n 3, 1, [], .inl 0),
  (44, .invokevirtual 149, 3, [73, 2, 1, 6], .inl 0),
  (47, .ifCond .eq 7, 3, [54], .inl 0),
  (50, .iload_n 2, 1, [], .inl 0),
  (51, .goto 8, 3, [59], .inl 0),
  (54, .aload_n 0, 1, [], .inl 0),
  (55, .iload_n 3, 1, [], .inl 0),
  (56, .invokevirtual 321, 3, [195, 2, 1, 11], .inl 0),
  (59, .istore 4, 2, [], .inl 0),
  (61, .iload 4, 2, [], .inl 0),
  (63, .iload_n 2, 1, [], .inl 0),
  (64, .if_icmp .le 8, 3, [72], .inl 0),
  (67, .iload_n 3, 1, [], .inl 0),
  (68, .istore_n 1, 1, [], .inl 0),
  (69, .iload 4, 2, [], .inl 0),
  (71, .istore_n 2, 1, [], .inl 0),
  (72, .iinc 3 1, 3, [], .inl (1)),
  (75, .goto (-50), 3, [25, 4], .inl 0),
  (78, .iload_n 1, 1, [], .inl 0),
  (79, .ireturn, 1, [], .inl 0)]
/-- H.rests -/
def tb165 : List (Nat × Instr × Nat × List Nat × (Int32 ⊕ Int64)) := [(0, .aload_n 0, 1, [], .inl 0),
  (1, .iload_n 1, 1, [], .inl 0),
  (2, .iload_n 2, 1, [], .inl 0),
  (3, .invokevirtual 324, 3, [189, 3, 1, 11], .inl 0),
  (6, .ifCond .ne 6, 3, [12], .inl 0),
  (9, .bipush (-2), 2, [], .inl (-2)),
  (11, .ireturn, 1, [], .inl 0),
  (12, .iconst 0, 1, [], .inl (0)),
  (13, .istore_n 3, 1, [], .inl 0),
  (14, .iconst 0, 1, [], .inl (0)),
  (15, .istore 4, 2, [], .inl 0),
  (17, .iload 4, 2, [], .inl 0),
  (19, .iconst 4, 1, [], .inl (4)),
  (20, .if_icmp .ge 102, 3, [122], .inl 0),
  (23, .iload 4, 2, [], .inl 0),
  (25, .iconst 1, 1, [], .inl (1)),
  (26, .iand, 1, [], .inl 0),
  (27, .istore 5, 2, [], .inl 0),
  (29, .iload 4, 2, [], .inl 0),
  (31, .iconst 1, 1, [], .inl (1)),
  (32, .ishr, 1, [], .inl 0),
  (33, .istore 6, 2, [], .inl 0),
  (35, .aload_n 0, 1, [], .inl 0),
  (36, .iload_n 1, 1, [], .inl 0),
  (37, .iload_n 2, 1, [], .inl 0),
  (38, .iconst 1, 1, [], .inl (1)),
  (39, .iload 5, 2, [], .inl 0),
  (41, .isub, 1, [], .inl 0),
  (42, .iload 6, 2, [], .inl 0),
  (44, .invokevirtual 327, 3, [196, 5, 1, 11], .inl 0),
  (47, .aload_n 0, 1, [], .inl 0),
  (48, .iload_n 1, 1, [], .inl 0),
  (49, .iload_n 2, 1, [], .inl 0),
  (50, .iload 5, 2, [], .inl 0),
  (52, .iload 6, 2, [], .inl 0),
  (54, .invokevirtual 327, 3, [196, 5, 1, 11], .inl 0),
  (57, .if_icmp .le 7, 3, [64], .inl 0),
  (60, .iconst 1, 1, [], .inl (1)),
  (61, .goto 4, 3, [65], .inl 0),
  (64, .iconst 0, 1, [], .inl (0)),
  (65, .istore 7, 2, [], .inl 0),
  (67, .aload_n 0, 1, [], .inl 0),
  (68, .iload_n 2, 1, [], .inl 0),
  (69, .iload_n 1, 1, [], .inl 0),
  (70, .iconst 1, 1, [], .inl (1)),
  (71, .iload 6, 2, [], .inl 0),
  (73, .isub, 1, [], .inl 0),
  (74, .iload 5, 2, [], .inl 0),
  (76, .invokevirtual 327, 3, [196, 5, 1, 11], .inl 0),
  (79, .aload_n 0, 1, [], .inl 0),
  (80, .iload_n 2, 1, [], .inl 0),
  (81, .iload_n 1, 1, [], .inl 0),
  (82, .iload 6, 2, [], .inl 0),
  (84, .iload 5, 2, [], .inl 0),
  (86, .invokevirtual 327, 3, [196, 5, 1, 11], .inl 0),
  (89, .if_icmp .le 7, 3, [96], .inl 0),
  (92, .iconst 1, 1, [], .inl (1)),
  (93, .goto 4, 3, [97], .inl 0),
  (96, .iconst 0, 1, [], .inl (0)),
  (97, .istore 8, 2, [], .inl 0),
  (99, .iload 7, 2, [], .inl 0),
  (101, .ifCond .ne 15, 3, [116], .inl 0),
  (104, .iload 8, 2, [], .inl 0),
  (106, .ifCond .ne 10, 3, [116], .inl 0),
  (109, .iload_n 3, 1, [], .inl 0),
  (110, .iconst 1, 1, [], .inl (1)),
  (111, .iload 4, 2, [], .inl 0),
  (113, .ishl, 1, [], .inl 0),
  (114, .ior, 1, [], .inl 0),
  (115, .istore_n 3, 1, [], .inl 0),
  (116, .iinc 4 1, 3, [], .inl (1)),
  (119, .goto (-102), 3, [17, 5, 6, 7, 8], .inl 0),
  (122, .iload_n 3, 1, [], .inl 0),
  (123, .ireturn, 1, [], .inl 0)]
/-- H.gets -/
def tb166 : List (Nat × Instr × Nat × List Nat × (Int32 ⊕ Int64)) := [(0, .aload_n 0, 1, [], .inl 0),
  (1, .iload_n 1, 1, [], .inl 0),
  (2, .iload_n 2, 1, [], .inl 0),
  (3, .invokevirtual 324, 3, [189, 3, 1, 11], .inl 0),
  (6, .ifCond .eq 18, 3, [24], .inl 0),
  (9, .iload_n 3, 1, [], .inl 0),
  (10, .invokestatic 260, 3, [184, 1, 1], .inl 0),
  (13, .ifCond .eq 11, 3, [24], .inl 0),
  (16, .iload 4, 2, [], .inl 0),
  (18, .invokestatic 260, 3, [184, 1, 1], .inl 0),
  (21, .ifCond .ne 7, 3, [28], .inl 0),
  (24, .sipush (-1000), 3, [], .inl (-1000)),
  (27, .ireturn, 1, [], .inl 0),
  (28, .aload_n 0, 1, [], .inl 0),
  (29, .iload_n 1, 1, [], .inl 0),
  (30, .iload_n 2, 1, [], .inl 0),
  (31, .iload_n 3, 1, [], .inl 0),
  (32, .iload 4, 2, [], .inl 0),
  (34, .invokevirtual 327, 3, [196, 5, 1, 11], .inl 0),
  (37, .ireturn, 1, [], .inl 0)]
/-- H.chance -/
def tb167 : List (Nat × Instr × Nat × List Nat × (Int32 ⊕ Int64)) := [(0, .aload_n 0, 1, [], .inl 0),
  (1, .iload_n 1, 1, [], .inl 0),
  (2, .iload_n 3, 1, [], .inl 0),
  (3, .iload 4, 2, [], .inl 0),
  (5, .invokevirtual 331, 3, [190, 4, 1, 11], .inl 0),
  (8, .ifCond .eq 17, 3, [25], .inl 0),
  (11, .aload_n 0, 1, [], .inl 0),
  (12, .getfield 10, 3, [11, 0, 48, 0, 0], .inl 0),
  (15, .getfield 125, 3, [6, 4, 32, 2, 0], .inl 0),
  (18, .iload_n 2, 1, [], .inl 0),
  (19, .invokevirtual 136, 3, [44, 2, 1, 4], .inl 0),
  (22, .ifCond .ne 6, 3, [28], .inl 0),
  (25, .bipush (-2), 2, [], .inl (-2)),
  (27, .ireturn, 1, [], .inl 0),
  (28, .aload_n 0, 1, [], .inl 0),
  (29, .getfield 86, 3, [11, 13, 16, 0, 0], .inl 0),
  (32, .iload_n 1, 1, [], .inl 0),
  (33, .iload_n 3, 1, [], .inl 0),
  (34, .invokevirtual 334, 3, [18, 3, 0, 2], .inl 0),
  (37, .aload_n 0, 1, [], .inl 0),
  (38, .getfield 86, 3, [11, 13, 16, 0, 0], .inl 0),
  (41, .iload_n 2, 1, [], .inl 0),
  (42, .invokevirtual 338, 3, [21, 2, 2, 2], .inl 0),
  (45, .iload_n 3, 1, [], .inl 0),
  (46, .invokestatic 342, 3, [17, 1, 2], .inl 0),
  (49, .iload 4, 2, [], .inl 0),
  (51, .invokestatic 269, 3, [203, 3, 2], .inl 0),
  (54, .l2i, 1, [], .inl 0),
  (55, .ireturn, 1, [], .inl 0)]
/-- H.mean -/
def tb168 : List (Nat × Instr × Nat × List Nat × (Int32 ⊕ Int64)) := [(0, .aload_n 0, 1, [], .inl 0),
  (1, .iload_n 1, 1, [], .inl 0),
  (2, .iload_n 2, 1, [], .inl 0),
  (3, .iload_n 3, 1, [], .inl 0),
  (4, .invokevirtual 331, 3, [190, 4, 1, 11], .inl 0),
  (7, .ifCond .ne 7, 3, [14], .inl 0),
  (10, .ldc2_w 345, 3, [], .inr (-2)),
  (13, .lreturn, 1, [], .inl 0),
  (14, .aload_n 0, 1, [], .inl 0),
  (15, .getfield 86, 3, [11, 13, 16, 0, 0], .inl 0),
  (18, .iload_n 1, 1, [], .inl 0),
  (19, .iload_n 2, 1, [], .inl 0),
  (20, .invokevirtual 334, 3, [18, 3, 0, 2], .inl 0),
  (23, .lconst 0, 1, [], .inr (0)),
  (24, .lstore 4, 2, [], .inl 0),
  (26, .iconst 0, 1, [], .inl (0)),
  (27, .istore 6, 2, [], .inl 0),
  (29, .iload 6, 2, [], .inl 0),
  (31, .aload_n 0, 1, [], .inl 0),
  (32, .getfield 10, 3, [11, 0, 48, 0, 0], .inl 0),
  (35, .getfield 125, 3, [6, 4, 32, 2, 0], .inl 0),
  (38, .getfield 174, 3, [4, 2, 0], .inl 0),
  (41, .if_icmp .ge 34, 3, [75], .inl 0),
  (44, .lload 4, 2, [], .inl 0),
  (46, .aload_n 0, 1, [], .inl 0),
  (47, .getfield 86, 3, [11, 13, 16, 0, 0], .inl 0),
  (50, .iload 6, 2, [], .inl 0),
  (52, .invokevirtual 338, 3, [21, 2, 2, 2], .inl 0),
  (55, .aload_n 0, 1, [], .inl 0),
  (56, .getfield 45, 3, [11, 6, 72, 0, 0], .inl 0),
  (59, .iload 6, 2, [], .inl 0),
  (61, .invokevirtual 168, 3, [101, 2, 1, 9], .inl 0),
  (64, .i2l, 1, [], .inl 0),
  (65, .lmul, 1, [], .inl 0),
  (66, .ladd, 1, [], .inl 0),
  (67, .lstore 4, 2, [], .inl 0),
  (69, .iinc 6 1, 3, [], .inl (1)),
  (72, .goto (-43), 3, [29], .inl 0),
  (75, .lload 4, 2, [], .inl 0),
  (77, .iload_n 2, 1, [], .inl 0),
  (78, .invokestatic 342, 3, [17, 1, 2], .inl 0),
  (81, .iload_n 3, 1, [], .inl 0),
  (82, .invokestatic 269, 3, [203, 3, 2], .inl 0),
  (85, .lreturn, 1, [], .inl 0)]
/-- H.swap -/
def tb169 : List (Nat × Instr × Nat × List Nat × (Int32 ⊕ Int64)) := [(0, .aload_n 0, 1, [], .inl 0),
  (1, .iload_n 1, 1, [], .inl 0),
  (2, .iload_n 2, 1, [], .inl 0),
  (3, .invokevirtual 324, 3, [189, 3, 1, 11], .inl 0),
  (6, .ifCond .eq 25, 3, [31], .inl 0),
  (9, .aload_n 0, 1, [], .inl 0),
  (10, .getfield 10, 3, [11, 0, 48, 0, 0], .inl 0),
  (13, .iload_n 3, 1, [], .inl 0),
  (14, .invokevirtual 195, 3, [71, 2, 1, 6], .inl 0),
  (17, .ifCond .eq 14, 3, [31], .inl 0),
  (20, .iload_n 3, 1, [], .inl 0),
  (21, .aload_n 0, 1, [], .inl 0),
  (22, .getfield 10, 3, [11, 0, 48, 0, 0], .inl 0),
  (25, .getfield 213, 3, [6, 0, 0], .inl 0),
  (28, .if_icmp .ne 6, 3, [34], .inl 0),
  (31, .bipush (-2), 2, [], .inl (-2)),
  (33, .ireturn, 1, [], .inl 0),
  (34, .aload_n 0, 1, [], .inl 0),
  (35, .getfield 10, 3, [11, 0, 48, 0, 0], .inl 0),
  (38, .getfield 347, 3, [6, 10, 0, 1, 0], .inl 0),
  (41, .invokevirtual 351, 3, [1, 1, 1, 0], .inl 0),
  (44, .ifCond .eq 6, 3, [50], .inl 0),
  (47, .bipush (-5), 2, [], .inl (-5)),
  (49, .ireturn, 1, [], .inl 0),
  (50, .aload_n 0, 1, [], .inl 0),
  (51, .getfield 10, 3, [11, 0, 48, 0, 0], .inl 0),
  (54, .getfield 347, 3, [6, 10, 0, 1, 0], .inl 0),
  (57, .iload_n 1, 1, [], .inl 0),
  (58, .iload_n 2, 1, [], .inl 0),
  (59, .iload_n 3, 1, [], .inl 0),
  (60, .invokevirtual 356, 3, [2, 4, 0, 0], .inl 0),
  (63, .aload_n 0, 1, [], .inl 0),
  (64, .invokevirtual 113, 3, [182, 1, 0, 11], .inl 0),
  (67, .aload_n 0, 1, [], .inl 0),
  (68, .getfield 57, 3, [11, 8, 24, 0, 0], .inl 0),
  (71, .iload_n 1, 1, [], .inl 0),
  (72, .aload_n 0, 1, [], .inl 0),
  (73, .getfield 10, 3, [11, 0, 48, 0, 0], .inl 0),
  (76, .getfield 213, 3, [6, 0, 0], .inl 0),
  (79, .invokevirtual 191, 3, [35, 3, 1, 3], .inl 0),
  (82, .ireturn, 1, [], .inl 0)]
/-- H.clear -/
def tb170 : List (Nat × Instr × Nat × List Nat × (Int32 ⊕ Int64)) := [(0, .aload_n 0, 1, [], .inl 0),
  (1, .getfield 10, 3, [11, 0, 48, 0, 0], .inl 0),
  (4, .getfield 146, 3, [6, 7, 32, 2, 2], .inl 0),
  (7, .iload_n 1, 1, [], .inl 0),
  (8, .invokevirtual 136, 3, [44, 2, 1, 4], .inl 0),
  (11, .ifCond .ne 6, 3, [17], .inl 0),
  (14, .bipush (-2), 2, [], .inl (-2)),
  (16, .ireturn, 1, [], .inl 0),
  (17, .aload_n 0, 1, [], .inl 0),
  (18, .getfield 10, 3, [11, 0, 48, 0, 0], .inl 0),
  (21, .getfield 347, 3, [6, 10, 0, 1, 0], .inl 0),
  (24, .invokevirtual 351, 3, [1, 1, 1, 0], .inl 0),
  (27, .ifCond .eq 6, 3, [33], .inl 0),
  (30, .bipush (-5), 2, [], .inl (-5)),
  (32, .ireturn, 1, [], .inl 0),
  (33, .aload_n 0, 1, [], .inl 0),
  (34, .getfield 10, 3, [11, 0, 48, 0, 0], .inl 0),
  (37, .iload_n 1, 1, [], .inl 0),
  (38, .invokevirtual 149, 3, [73, 2, 1, 6], .inl 0),
  (41, .ifCond .eq 7, 3, [48], .inl 0),
  (44, .iconst 0, 1, [], .inl (0)),
  (45, .goto 4, 3, [49], .inl 0),
  (48, .iconst 1, 1, [], .inl (1)),
  (49, .istore_n 2, 1, [], .inl 0),
  (50, .aload_n 0, 1, [], .inl 0),
  (51, .getfield 10, 3, [11, 0, 48, 0, 0], .inl 0),
  (54, .getfield 347, 3, [6, 10, 0, 1, 0], .inl 0),
  (57, .iload_n 1, 1, [], .inl 0),
  (58, .invokevirtual 360, 3, [3, 2, 0, 0], .inl 0),
  (61, .aload_n 0, 1, [], .inl 0),
  (62, .invokevirtual 113, 3, [182, 1, 0, 11], .inl 0),
  (65, .iload_n 2, 1, [], .inl 0),
  (66, .ireturn, 1, [], .inl 0)]
/-- H.undo -/
def tb171 : List (Nat × Instr × Nat × List Nat × (Int32 ⊕ Int64)) := [(0, .aload_n 0, 1, [], .inl 0),
  (1, .getfield 10, 3, [11, 0, 48, 0, 0], .inl 0),
  (4, .invokevirtual 171, 3, [70, 1, 1, 6], .inl 0),
  (7, .ifCond .ne 6, 3, [13], .inl 0),
  (10, .bipush (-2), 2, [], .inl (-2)),
  (12, .ireturn, 1, [], .inl 0),
  (13, .aload_n 0, 1, [], .inl 0),
  (14, .getfield 10, 3, [11, 0, 48, 0, 0], .inl 0),
  (17, .getfield 347, 3, [6, 10, 0, 1, 0], .inl 0),
  (20, .getfield 363, 3, [0, 3, 0], .inl 0),
  (23, .ifCond .ne 6, 3, [29], .inl 0),
  (26, .bipush (-5), 2, [], .inl (-5)),
  (28, .ireturn, 1, [], .inl 0),
  (29, .aload_n 0, 1, [], .inl 0),
  (30, .getfield 10, 3, [11, 0, 48, 0, 0], .inl 0),
  (33, .getfield 347, 3, [6, 10, 0, 1, 0], .inl 0),
  (36, .dup, 1, [], .inl 0),
  (37, .getfield 363, 3, [0, 3, 0], .inl 0),
  (40, .iconst 1, 1, [], .inl (1)),
  (41, .isub, 1, [], .inl 0),
  (42, .putfield 363, 3, [0, 3, 0], .inl 0),
  (45, .aload_n 0, 1, [], .inl 0),
  (46, .invokevirtual 113, 3, [182, 1, 0, 11], .inl 0),
  (49, .aload_n 0, 1, [], .inl 0),
  (50, .getfield 10, 3, [11, 0, 48, 0, 0], .inl 0),
  (53, .getfield 347, 3, [6, 10, 0, 1, 0], .inl 0),
  (56, .getfield 363, 3, [0, 3, 0], .inl 0),
  (59, .ireturn, 1, [], .inl 0)]
/-- H.anew -/
def tb172 : List (Nat × Instr × Nat × List Nat × (Int32 ⊕ Int64)) := [(0, .aload_n 0, 1, [], .inl 0),
  (1, .getfield 10, 3, [11, 0, 48, 0, 0], .inl 0),
  (4, .invokevirtual 171, 3, [70, 1, 1, 6], .inl 0),
  (7, .ifCond .ne 6, 3, [13], .inl 0),
  (10, .bipush (-2), 2, [], .inl (-2)),
  (12, .ireturn, 1, [], .inl 0),
  (13, .aload_n 0, 1, [], .inl 0),
  (14, .getfield 10, 3, [11, 0, 48, 0, 0], .inl 0),
  (17, .getfield 347, 3, [6, 10, 0, 1, 0], .inl 0),
  (20, .getfield 363, 3, [0, 3, 0], .inl 0),
  (23, .istore_n 1, 1, [], .inl 0),
  (24, .aload_n 0, 1, [], .inl 0),
  (25, .getfield 10, 3, [11, 0, 48, 0, 0], .inl 0),
  (28, .getfield 347, 3, [6, 10, 0, 1, 0], .inl 0),
  (31, .iconst 0, 1, [], .inl (0)),
  (32, .putfield 363, 3, [0, 3, 0], .inl 0),
  (35, .aload_n 0, 1, [], .inl 0),
  (36, .invokevirtual 113, 3, [182, 1, 0, 11], .inl 0),
  (39, .iload_n 1, 1, [], .inl 0),
  (40, .ireturn, 1, [], .inl 0)]
/-- H.drawn -/
def tb173 : List (Nat × Instr × Nat × List Nat × (Int32 ⊕ Int64)) := [(0, .aload_n 0, 1, [], .inl 0),
  (1, .getfield 10, 3, [11, 0, 48, 0, 0], .inl 0),
  (4, .invokevirtual 171, 3, [70, 1, 1, 6], .inl 0),
  (7, .ifCond .eq 17, 3, [24], .inl 0),
  (10, .iload_n 1, 1, [], .inl 0),
  (11, .invokestatic 364, 3, [187, 1, 1], .inl 0),
  (14, .ifCond .eq 10, 3, [24], .inl 0),
  (17, .iload_n 2, 1, [], .inl 0),
  (18, .invokestatic 260, 3, [184, 1, 1], .inl 0),
  (21, .ifCond .ne 6, 3, [27], .inl 0),
  (24, .bipush (-2), 2, [], .inl (-2)),
  (26, .ireturn, 1, [], .inl 0),
  (27, .aload_n 0, 1, [], .inl 0),
  (28, .getfield 86, 3, [11, 13, 16, 0, 0], .inl 0),
  (31, .iload_n 1, 1, [], .inl 0),
  (32, .invokevirtual 367, 3, [22, 2, 1, 2], .inl 0),
  (35, .istore_n 3, 1, [], .inl 0),
  (36, .iload_n 2, 1, [], .inl 0),
  (37, .ifCond .ne 5, 3, [42], .inl 0),
  (40, .iload_n 3, 1, [], .inl 0),
  (41, .ireturn, 1, [], .inl 0),
  (42, .aload_n 0, 1, [], .inl 0),
  (43, .getfield 61, 3, [11, 9, 24, 0, 1], .inl 0),
  (46, .invokevirtual 370, 3, [23, 1, 0, 3], .inl 0),
  (49, .aload_n 0, 1, [], .inl 0),
  (50, .getfield 61, 3, [11, 9, 24, 0, 1], .inl 0),
  (53, .aload_n 0, 1, [], .inl 0),
  (54, .getfield 10, 3, [11, 0, 48, 0, 0], .inl 0),
  (57, .getfield 373, 3, [6, 1, 0], .inl 0),
  (60, .iload_n 3, 1, [], .inl 0),
  (61, .invokevirtual 376, 3, [25, 3, 0, 3], .inl 0),
  (64, .aload_n 0, 1, [], .inl 0),
  (65, .getfield 61, 3, [11, 9, 24, 0, 1], .inl 0),
  (68, .invokevirtual 318, 3, [43, 1, 1, 3], .inl 0),
  (71, .ireturn, 1, [], .inl 0)]
/-- H.luck -/
def tb174 : List (Nat × Instr × Nat × List Nat × (Int32 ⊕ Int64)) := [(0, .aload_n 0, 1, [], .inl 0),
  (1, .getfield 10, 3, [11, 0, 48, 0, 0], .inl 0),
  (4, .getfield 152, 3, [6, 9, 32, 2, 4], .inl 0),
  (7, .iload_n 3, 1, [], .inl 0),
  (8, .invokevirtual 136, 3, [44, 2, 1, 4], .inl 0),
  (11, .ifCond .eq 21, 3, [32], .inl 0),
  (14, .iload_n 1, 1, [], .inl 0),
  (15, .invokestatic 364, 3, [187, 1, 1], .inl 0),
  (18, .ifCond .eq 14, 3, [32], .inl 0),
  (21, .iload_n 2, 1, [], .inl 0),
  (22, .iconst 1, 1, [], .inl (1)),
  (23, .if_icmp .lt 9, 3, [32], .inl 0),
  (26, .iload_n 2, 1, [], .inl 0),
  (27, .bipush 20, 2, [], .inl (20)),
  (29, .if_icmp .le 6, 3, [35], .inl 0),
  (32, .bipush (-2), 2, [], .inl (-2)),
  (34, .ireturn, 1, [], .inl 0),
  (35, .iconst 0, 1, [], .inl (0)),
  (36, .istore 4, 2, [], .inl 0),
  (38, .iconst 0, 1, [], .inl (0)),
  (39, .istore 5, 2, [], .inl 0),
  (41, .iload 5, 2, [], .inl 0),
  (43, .iload_n 2, 1, [], .inl 0),
  (44, .if_icmp .ge 56, 3, [100], .inl 0),
  (47, .aload_n 0, 1, [], .inl 0),
  (48, .getfield 61, 3, [11, 9, 24, 0, 1], .inl 0),
  (51, .invokevirtual 370, 3, [23, 1, 0, 3], .inl 0),
  (54, .aload_n 0, 1, [], .inl 0),
  (55, .getfield 61, 3, [11, 9, 24, 0, 1], .inl 0),
  (58, .aload_n 0, 1, [], .inl 0),
  (59, .getfield 10, 3, [11, 0, 48, 0, 0], .inl 0),
  (62, .getfield 373, 3, [6, 1, 0], .inl 0),
  (65, .aload_n 0, 1, [], .inl 0),
  (66, .getfield 86, 3, [11, 13, 16, 0, 0], .inl 0),
  (69, .iload_n 1, 1, [], .inl 0),
  (70, .iload 5, 2, [], .inl 0),
  (72, .iadd, 1, [], .inl 0),
  (73, .invokevirtual 367, 3, [22, 2, 1, 2], .inl 0),
  (76, .invokevirtual 376, 3, [25, 3, 0, 3], .inl 0),
  (79, .aload_n 0, 1, [], .inl 0),
  (80, .getfield 61, 3, [11, 9, 24, 0, 1], .inl 0),
  (83, .iload_n 3, 1, [], .inl 0),
  (84, .invokevirtual 207, 3, [39, 2, 1, 3], .inl 0),
  (87, .iconst (-1), 1, [], .inl (-1)),
  (88, .if_icmp .eq 6, 3, [94], .inl 0),
  (91, .iinc 4 1, 3, [], .inl (1)),
  (94, .iinc 5 1, 3, [], .inl (1)),
  (97, .goto (-56), 3, [41], .inl 0),
  (100, .iload 4, 2, [], .inl 0),
  (102, .ireturn, 1, [], .inl 0)]
/-- H.rate -/
def tb175 : List (Nat × Instr × Nat × List Nat × (Int32 ⊕ Int64)) := [(0, .aload_n 0, 1, [], .inl 0),
  (1, .getfield 10, 3, [11, 0, 48, 0, 0], .inl 0),
  (4, .getfield 133, 3, [6, 5, 32, 2, 1], .inl 0),
  (7, .iload_n 1, 1, [], .inl 0),
  (8, .invokevirtual 136, 3, [44, 2, 1, 4], .inl 0),
  (11, .ifCond .eq 13, 3, [24], .inl 0),
  (14, .iload_n 2, 1, [], .inl 0),
  (15, .ifCond .lt 9, 3, [24], .inl 0),
  (18, .iload_n 2, 1, [], .inl 0),
  (19, .bipush 99, 2, [], .inl (99)),
  (21, .if_icmp .le 6, 3, [27], .inl 0),
  (24, .bipush (-2), 2, [], .inl (-2)),
  (26, .ireturn, 1, [], .inl 0),
  (27, .aload_n 0, 1, [], .inl 0),
  (28, .getfield 10, 3, [11, 0, 48, 0, 0], .inl 0),
  (31, .getfield 347, 3, [6, 10, 0, 1, 0], .inl 0),
  (34, .getfield 363, 3, [0, 3, 0], .inl 0),
  (37, .ifCond .le 6, 3, [43], .inl 0),
  (40, .bipush (-5), 2, [], .inl (-5)),
  (42, .ireturn, 1, [], .inl 0),
  (43, .aload_n 0, 1, [], .inl 0),
  (44, .getfield 10, 3, [11, 0, 48, 0, 0], .inl 0),
  (47, .iload_n 1, 1, [], .inl 0),
  (48, .invokevirtual 142, 3, [74, 2, 1, 6], .inl 0),
  (51, .istore_n 3, 1, [], .inl 0),
  (52, .aload_n 0, 1, [], .inl 0),
  (53, .getfield 10, 3, [11, 0, 48, 0, 0], .inl 0),
  (56, .iload_n 1, 1, [], .inl 0),
  (57, .iload_n 2, 1, [], .inl 0),
  (58, .invokevirtual 379, 3, [75, 3, 0, 6], .inl 0),
  (61, .aload_n 0, 1, [], .inl 0),
  (62, .invokevirtual 113, 3, [182, 1, 0, 11], .inl 0),
  (65, .iload_n 3, 1, [], .inl 0),
  (66, .ireturn, 1, [], .inl 0)]
/-- H.count -/
def tb176 : List (Nat × Instr × Nat × List Nat × (Int32 ⊕ Int64)) := [(0, .iload_n 1, 1, [], .inl 0),
  (1, .tableswitch 174 0 11 #[63, 71, 79, 87, 98, 109, 120, 131, 142, 153, 161, 169], 63, [175, 64, 72, 80, 88, 99, 110, 121, 132, 143, 154, 162, 170], .inl 0),
  (64, .aload_n 0, 1, [], .inl 0),
  (65, .getfield 10, 3, [11, 0, 48, 0, 0], .inl 0),
  (68, .getfield 213, 3, [6, 0, 0], .inl 0),
  (71, .ireturn, 1, [], .inl 0),
  (72, .aload_n 0, 1, [], .inl 0),
  (73, .getfield 10, 3, [11, 0, 48, 0, 0], .inl 0),
  (76, .getfield 373, 3, [6, 1, 0], .inl 0),
  (79, .ireturn, 1, [], .inl 0),
  (80, .aload_n 0, 1, [], .inl 0),
  (81, .getfield 10, 3, [11, 0, 48, 0, 0], .inl 0),
  (84, .getfield 382, 3, [6, 2, 0], .inl 0),
  (87, .ireturn, 1, [], .inl 0),
  (88, .aload_n 0, 1, [], .inl 0),
  (89, .getfield 10, 3, [11, 0, 48, 0, 0], .inl 0),
  (92, .getfield 125, 3, [6, 4, 32, 2, 0], .inl 0),
  (95, .getfield 174, 3, [4, 2, 0], .inl 0),
  (98, .ireturn, 1, [], .inl 0),
  (99, .aload_n 0, 1, [], .inl 0),
  (100, .getfield 10, 3, [11, 0, 48, 0, 0], .inl 0),
  (103, .getfield 133, 3, [6, 5, 32, 2, 1], .inl 0),
  (106, .getfield 174, 3, [4, 2, 0], .inl 0),
  (109, .ireturn, 1, [], .inl 0),
  (110, .aload_n 0, 1, [], .inl 0),
  (111, .getfield 10, 3, [11, 0, 48, 0, 0], .inl 0),
  (114, .getfield 146, 3, [6, 7, 32, 2, 2], .inl 0),
  (117, .getfield 174, 3, [4, 2, 0], .inl 0),
  (120, .ireturn, 1, [], .inl 0),
  (121, .aload_n 0, 1, [], .inl 0),
  (122, .getfield 10, 3, [11, 0, 48, 0, 0], .inl 0),
  (125, .getfield 385, 3, [6, 8, 32, 2, 3], .inl 0),
  (128, .getfield 174, 3, [4, 2, 0], .inl 0),
  (131, .ireturn, 1, [], .inl 0),
  (132, .aload_n 0, 1, [], .inl 0),
  (133, .getfield 10, 3, [11, 0, 48, 0, 0], .inl 0),
  (136, .getfield 152, 3, [6, 9, 32, 2, 4], .inl 0),
  (139, .getfield 174, 3, [4, 2, 0], .inl 0),
  (142, .ireturn, 1, [], .inl 0),
  (143, .aload_n 0, 1, [], .inl 0),
  (144, .getfield 10, 3, [11, 0, 48, 0, 0], .inl 0),
  (147, .getfield 347, 3, [6, 10, 0, 1, 0], .inl 0),
  (150, .getfield 363, 3, [0, 3, 0], .inl 0),
  (153, .ireturn, 1, [], .inl 0),
  (154, .aload_n 0, 1, [], .inl 0),
  (155, .getfield 10, 3, [11, 0, 48, 0, 0], .inl 0),
  (158, .getfield 116, 3, [6, 3, 0], .inl 0),
  (161, .ireturn, 1, [], .inl 0),
  (162, .aload_n 0, 1, [], .inl 0),
  (163, .getfield 24, 3, [11, 2, 40, 0, 0], .inl 0),
  (166, .getfield 98, 3, [5, 2, 0], .inl 0),
  (169, .ireturn, 1, [], .inl 0),
  (170, .aload_n 0, 1, [], .inl 0),
  (171, .invokevirtual 388, 3, [198, 1, 1, 11], .inl 0),
  (174, .ireturn, 1, [], .inl 0),
  (175, .iconst (-1), 1, [], .inl (-1)),
  (176, .ireturn, 1, [], .inl 0)]
/-- H.image -/
def tb177 : List (Nat × Instr × Nat × List Nat × (Int32 ⊕ Int64)) := [(0, .iload_n 1, 1, [], .inl 0),
  (1, .ifCond .lt 8, 3, [9], .inl 0),
  (4, .iload_n 1, 1, [], .inl 0),
  (5, .iconst 3, 1, [], .inl (3)),
  (6, .if_icmp .lt 6, 3, [12], .inl 0),
  (9, .bipush (-2), 2, [], .inl (-2)),
  (11, .ireturn, 1, [], .inl 0),
  (12, .aload_n 0, 1, [], .inl 0),
  (13, .getfield 28, 3, [11, 3, 1701, 0, 0], .inl 0),
  (16, .iload_n 1, 1, [], .inl 0),
  (17, .aaload, 1, [], .inl 0),
  (18, .aload_n 0, 1, [], .inl 0),
  (19, .getfield 10, 3, [11, 0, 48, 0, 0], .inl 0),
  (22, .invokevirtual 110, 3, [80, 2, 0, 6], .inl 0),
  (25, .aload_n 0, 1, [], .inl 0),
  (26, .getfield 32, 3, [11, 4, 1708, 0, 0], .inl 0),
  (29, .iload_n 1, 1, [], .inl 0),
  (30, .iconst 1, 1, [], .inl (1)),
  (31, .bastore, 1, [], .inl 0),
  (32, .iconst 0, 1, [], .inl (0)),
  (33, .ireturn, 1, [], .inl 0)]
/-- H.back -/
def tb178 : List (Nat × Instr × Nat × List Nat × (Int32 ⊕ Int64)) := [(0, .iload_n 1, 1, [], .inl 0),
  (1, .ifCond .lt 8, 3, [9], .inl 0),
  (4, .iload_n 1, 1, [], .inl 0),
  (5, .iconst 3, 1, [], .inl (3)),
  (6, .if_icmp .lt 6, 3, [12], .inl 0),
  (9, .bipush (-2), 2, [], .inl (-2)),
  (11, .ireturn, 1, [], .inl 0),
  (12, .aload_n 0, 1, [], .inl 0),
  (13, .getfield 32, 3, [11, 4, 1708, 0, 0], .inl 0),
  (16, .iload_n 1, 1, [], .inl 0),
  (17, .baload, 1, [], .inl 0),
  (18, .ifCond .ne 6, 3, [24], .inl 0),
  (21, .bipush (-6), 2, [], .inl (-6)),
  (23, .ireturn, 1, [], .inl 0),
  (24, .aload_n 0, 1, [], .inl 0),
  (25, .getfield 10, 3, [11, 0, 48, 0, 0], .inl 0),
  (28, .aload_n 0, 1, [], .inl 0),
  (29, .getfield 28, 3, [11, 3, 1701, 0, 0], .inl 0),
  (32, .iload_n 1, 1, [], .inl 0),
  (33, .aaload, 1, [], .inl 0),
  (34, .invokevirtual 110, 3, [80, 2, 0, 6], .inl 0),
  (37, .aload_n 0, 1, [], .inl 0),
  (38, .invokevirtual 113, 3, [182, 1, 0, 11], .inl 0),
  (41, .iconst 0, 1, [], .inl (0)),
  (42, .ireturn, 1, [], .inl 0)]
/-- H.row -/
def tb179 : List (Nat × Instr × Nat × List Nat × (Int32 ⊕ Int64)) := [(0, .iload_n 1, 1, [], .inl 0),
  (1, .invokestatic 391, 3, [185, 1, 1], .inl 0),
  (4, .ifCond .eq 18, 3, [22], .inl 0),
  (7, .iload_n 2, 1, [], .inl 0),
  (8, .ifCond .lt 14, 3, [22], .inl 0),
  (11, .iload_n 2, 1, [], .inl 0),
  (12, .iconst 4, 1, [], .inl (4)),
  (13, .if_icmp .ge 9, 3, [22], .inl 0),
  (16, .iload_n 3, 1, [], .inl 0),
  (17, .bipush 60, 2, [], .inl (60)),
  (19, .if_icmp .le 6, 3, [25], .inl 0),
  (22, .bipush (-2), 2, [], .inl (-2)),
  (24, .ireturn, 1, [], .inl 0),
  (25, .iload_n 3, 1, [], .inl 0),
  (26, .ifCond .ge 6, 3, [32], .inl 0),
  (29, .bipush (-3), 2, [], .inl (-3)),
  (31, .ireturn, 1, [], .inl 0),
  (32, .aload_n 0, 1, [], .inl 0),
  (33, .getfield 38, 3, [11, 5, 2229, 0, 0], .inl 0),
  (36, .iload_n 1, 1, [], .inl 0),
  (37, .aaload, 1, [], .inl 0),
  (38, .iload_n 2, 1, [], .inl 0),
  (39, .iload_n 3, 1, [], .inl 0),
  (40, .invokevirtual 394, 3, [110, 3, 0, 10], .inl 0),
  (43, .iconst 0, 1, [], .inl (0)),
  (44, .ireturn, 1, [], .inl 0)]
/-- H.write -/
def tb180 : List (Nat × Instr × Nat × List Nat × (Int32 ⊕ Int64)) := [(0, .iload_n 1, 1, [], .inl 0),
  (1, .invokestatic 391, 3, [185, 1, 1], .inl 0),
  (4, .ifCond .ne 6, 3, [10], .inl 0),
  (7, .bipush (-2), 2, [], .inl (-2)),
  (9, .ireturn, 1, [], .inl 0),
  (10, .aload_n 0, 1, [], .inl 0),
  (11, .getfield 38, 3, [11, 5, 2229, 0, 0], .inl 0),
  (14, .iload_n 1, 1, [], .inl 0),
  (15, .aaload, 1, [], .inl 0),
  (16, .getfield 397, 3, [10, 1, 3], .inl 0),
  (19, .ifCond .ne 6, 3, [25], .inl 0),
  (22, .bipush (-6), 2, [], .inl (-6)),
  (24, .ireturn, 1, [], .inl 0),
  (25, .aload_n 0, 1, [], .inl 0),
  (26, .getfield 38, 3, [11, 5, 2229, 0, 0], .inl 0),
  (29, .iload_n 1, 1, [], .inl 0),
  (30, .aaload, 1, [], .inl 0),
  (31, .iload_n 2, 1, [], .inl 0),
  (32, .iconst 1, 1, [], .inl (1)),
  (33, .invokevirtual 401, 3, [111, 3, 1, 10], .inl 0),
  (36, .ifCond .ne 6, 3, [42], .inl 0),
  (39, .bipush (-7), 2, [], .inl (-7)),
  (41, .ireturn, 1, [], .inl 0),
  (42, .aload_n 0, 1, [], .inl 0),
  (43, .getfield 38, 3, [11, 5, 2229, 0, 0], .inl 0),
  (46, .iload_n 1, 1, [], .inl 0),
  (47, .aaload, 1, [], .inl 0),
  (48, .iload_n 2, 1, [], .inl 0),
  (49, .lload_n 3, 1, [], .inl 0),
  (50, .invokevirtual 404, 3, [113, 3, 0, 10], .inl 0),
  (53, .iconst 0, 1, [], .inl (0)),
  (54, .ireturn, 1, [], .inl 0)]
/-- H.paste -/
def tb181 : List (Nat × Instr × Nat × List Nat × (Int32 ⊕ Int64)) := [(0, .iload_n 1, 1, [], .inl 0),
  (1, .invokestatic 391, 3, [185, 1, 1], .inl 0),
  (4, .ifCond .eq 10, 3, [14], .inl 0),
  (7, .iload_n 3, 1, [], .inl 0),
  (8, .invokestatic 391, 3, [185, 1, 1], .inl 0),
  (11, .ifCond .ne 6, 3, [17], .inl 0),
  (14, .bipush (-2), 2, [], .inl (-2)),
  (16, .ireturn, 1, [], .inl 0),
  (17, .aload_n 0, 1, [], .inl 0),
  (18, .getfield 38, 3, [11, 5, 2229, 0, 0], .inl 0),
  (21, .iload_n 1, 1, [], .inl 0),
  (22, .aaload, 1, [], .inl 0),
  (23, .astore 6, 2, [], .inl 0),
  (25, .aload_n 0, 1, [], .inl 0),
  (26, .getfield 38, 3, [11, 5, 2229, 0, 0], .inl 0),
  (29, .iload_n 3, 1, [], .inl 0),
  (30, .aaload, 1, [], .inl 0),
  (31, .astore 7, 2, [], .inl 0),
  (33, .aload 6, 2, [], .inl 0),
  (35, .getfield 397, 3, [10, 1, 3], .inl 0),
  (38, .ifCond .eq 11, 3, [49], .inl 0),
  (41, .aload 7, 2, [], .inl 0),
  (43, .getfield 397, 3, [10, 1, 3], .inl 0),
  (46, .ifCond .ne 6, 3, [52], .inl 0),
  (49, .bipush (-6), 2, [], .inl (-6)),
  (51, .ireturn, 1, [], .inl 0),
  (52, .aload 6, 2, [], .inl 0),
  (54, .getfield 408, 3, [10, 2, 0], .inl 0),
  (57, .aload 7, 2, [], .inl 0),
  (59, .getfield 408, 3, [10, 2, 0], .inl 0),
  (62, .if_icmp .eq 6, 3, [68], .inl 0),
  (65, .bipush (-8), 2, [], .inl (-8)),
  (67, .ireturn, 1, [], .inl 0),
  (68, .aload 6, 2, [], .inl 0),
  (70, .iload_n 2, 1, [], .inl 0),
  (71, .iload 5, 2, [], .inl 0),
  (73, .invokevirtual 401, 3, [111, 3, 1, 10], .inl 0),
  (76, .ifCond .eq 15, 3, [91], .inl 0),
  (79, .aload 7, 2, [], .inl 0),
  (81, .iload 4, 2, [], .inl 0),
  (83, .iload 5, 2, [], .inl 0),
  (85, .invokevirtual 401, 3, [111, 3, 1, 10], .inl 0),
  (88, .ifCond .ne 6, 3, [94], .inl 0),
  (91, .bipush (-7), 2, [], .inl (-7)),
  (93, .ireturn, 1, [], .inl 0),
  (94, .aload 6, 2, [], .inl 0),
  (96, .getfield 411, 3, [10, 0, 30906, 1, 0], .inl 0),
  (99, .iload_n 2, 1, [], .inl 0),
  (100, .aload 7, 2, [], .inl 0),
  (102, .getfield 411, 3, [10, 0, 30906, 1, 0], .inl 0),
  (105, .iload 4, 2, [], .inl 0),
  (107, .iload 5, 2, [], .inl 0),
  (109, .invokestatic 415, 3, [0], .inl 0),
  (112, .iconst 0, 1, [], .inl (0)),
  (113, .ireturn, 1, [], .inl 0)]
/-- H.lookAnew -/
def tb182 : List (Nat × Instr × Nat × List Nat × (Int32 ⊕ Int64)) := [(0, .aload_n 0, 1, [], .inl 0),
  (1, .getfield 45, 3, [11, 6, 72, 0, 0], .inl 0),
  (4, .iconst (-1), 1, [], .inl (-1)),
  (5, .invokevirtual 421, 3, [97, 2, 0, 9], .inl 0),
  (8, .aload_n 0, 1, [], .inl 0),
  (9, .getfield 57, 3, [11, 8, 24, 0, 0], .inl 0),
  (12, .invokevirtual 370, 3, [23, 1, 0, 3], .inl 0),
  (15, .aload_n 0, 1, [], .inl 0),
  (16, .getfield 57, 3, [11, 8, 24, 0, 0], .inl 0),
  (19, .aload_n 0, 1, [], .inl 0),
  (20, .getfield 10, 3, [11, 0, 48, 0, 0], .inl 0),
  (23, .getfield 373, 3, [6, 1, 0], .inl 0),
  (26, .iconst (-1), 1, [], .inl (-1)),
  (27, .invokevirtual 376, 3, [25, 3, 0, 3], .inl 0),
  (30, .return_, 1, [], .inl 0)]
/-- H.ofPair -/
def tb183 : List (Nat × Instr × Nat × List Nat × (Int32 ⊕ Int64)) := [(0, .aload_n 0, 1, [], .inl 0),
  (1, .iload_n 1, 1, [], .inl 0),
  (2, .invokevirtual 136, 3, [44, 2, 1, 4], .inl 0),
  (5, .ifCond .eq 10, 3, [15], .inl 0),
  (8, .iload_n 2, 1, [], .inl 0),
  (9, .invokestatic 260, 3, [184, 1, 1], .inl 0),
  (12, .ifCond .ne 6, 3, [18], .inl 0),
  (15, .bipush (-2), 2, [], .inl (-2)),
  (17, .ireturn, 1, [], .inl 0),
  (18, .iload_n 2, 1, [], .inl 0),
  (19, .ifCond .ne 11, 3, [30], .inl 0),
  (22, .aload_n 0, 1, [], .inl 0),
  (23, .iload_n 1, 1, [], .inl 0),
  (24, .invokevirtual 424, 3, [47, 2, 1, 4], .inl 0),
  (27, .goto 8, 3, [35], .inl 0),
  (30, .aload_n 0, 1, [], .inl 0),
  (31, .iload_n 1, 1, [], .inl 0),
  (32, .invokevirtual 427, 3, [48, 2, 1, 4], .inl 0),
  (35, .ireturn, 1, [], .inl 0)]
/-- H.isOneOfTwo -/
def tb184 : List (Nat × Instr × Nat × List Nat × (Int32 ⊕ Int64)) := [(0, .iload_n 0, 1, [], .inl 0),
  (1, .ifCond .eq 8, 3, [9], .inl 0),
  (4, .iload_n 0, 1, [], .inl 0),
  (5, .iconst 1, 1, [], .inl (1)),
  (6, .if_icmp .ne 7, 3, [13], .inl 0),
  (9, .iconst 1, 1, [], .inl (1)),
  (10, .goto 4, 3, [14], .inl 0),
  (13, .iconst 0, 1, [], .inl (0)),
  (14, .ireturn, 1, [1], .inl 0)]
/-- H.isSlot -/
def tb185 : List (Nat × Instr × Nat × List Nat × (Int32 ⊕ Int64)) := [(0, .iload_n 0, 1, [], .inl 0),
  (1, .ifCond .lt 12, 3, [13], .inl 0),
  (4, .iload_n 0, 1, [], .inl 0),
  (5, .iconst 4, 1, [], .inl (4)),
  (6, .if_icmp .ge 7, 3, [13], .inl 0),
  (9, .iconst 1, 1, [], .inl (1)),
  (10, .goto 4, 3, [14], .inl 0),
  (13, .iconst 0, 1, [], .inl (0)),
  (14, .ireturn, 1, [1], .inl 0)]
/-- H.isLaw -/
def tb186 : List (Nat × Instr × Nat × List Nat × (Int32 ⊕ Int64)) := [(0, .iload_n 0, 1, [], .inl 0),
  (1, .ifCond .lt 12, 3, [13], .inl 0),
  (4, .iload_n 0, 1, [], .inl 0),
  (5, .iconst 4, 1, [], .inl (4)),
  (6, .if_icmp .ge 7, 3, [13], .inl 0),
  (9, .iconst 1, 1, [], .inl (1)),
  (10, .goto 4, 3, [14], .inl 0),
  (13, .iconst 0, 1, [], .inl (0)),
  (14, .ireturn, 1, [1], .inl 0)]
/-- H.isSeed -/
def tb187 : List (Nat × Instr × Nat × List Nat × (Int32 ⊕ Int64)) := [(0, .iload_n 0, 1, [], .inl 0),
  (1, .ifCond .lt 14, 3, [15], .inl 0),
  (4, .iload_n 0, 1, [], .inl 0),
  (5, .ldc_w 430, 3, [], .inl (2000000000)),
  (8, .if_icmp .gt 7, 3, [15], .inl 0),
  (11, .iconst 1, 1, [], .inl (1)),
  (12, .goto 4, 3, [16], .inl 0),
  (15, .iconst 0, 1, [], .inl (0)),
  (16, .ireturn, 1, [1], .inl 0)]
/-- H.isLookerInYear -/
def tb188 : List (Nat × Instr × Nat × List Nat × (Int32 ⊕ Int64)) := [(0, .aload_n 0, 1, [], .inl 0),
  (1, .getfield 10, 3, [11, 0, 48, 0, 0], .inl 0),
  (4, .getfield 152, 3, [6, 9, 32, 2, 4], .inl 0),
  (7, .iload_n 1, 1, [], .inl 0),
  (8, .invokevirtual 136, 3, [44, 2, 1, 4], .inl 0),
  (11, .ifCond .eq 18, 3, [29], .inl 0),
  (14, .aload_n 0, 1, [], .inl 0),
  (15, .getfield 10, 3, [11, 0, 48, 0, 0], .inl 0),
  (18, .iload_n 2, 1, [], .inl 0),
  (19, .invokevirtual 195, 3, [71, 2, 1, 6], .inl 0),
  (22, .ifCond .eq 7, 3, [29], .inl 0),
  (25, .iconst 1, 1, [], .inl (1)),
  (26, .goto 4, 3, [30], .inl 0),
  (29, .iconst 0, 1, [], .inl (0)),
  (30, .ireturn, 1, [1], .inl 0)]
/-- H.areTwoLookers -/
def tb189 : List (Nat × Instr × Nat × List Nat × (Int32 ⊕ Int64)) := [(0, .aload_n 0, 1, [], .inl 0),
  (1, .getfield 10, 3, [11, 0, 48, 0, 0], .inl 0),
  (4, .getfield 152, 3, [6, 9, 32, 2, 4], .inl 0),
  (7, .iload_n 1, 1, [], .inl 0),
  (8, .invokevirtual 136, 3, [44, 2, 1, 4], .inl 0),
  (11, .ifCond .eq 26, 3, [37], .inl 0),
  (14, .aload_n 0, 1, [], .inl 0),
  (15, .getfield 10, 3, [11, 0, 48, 0, 0], .inl 0),
  (18, .getfield 152, 3, [6, 9, 32, 2, 4], .inl 0),
  (21, .iload_n 2, 1, [], .inl 0),
  (22, .invokevirtual 136, 3, [44, 2, 1, 4], .inl 0),
  (25, .ifCond .eq 12, 3, [37], .inl 0),
  (28, .iload_n 1, 1, [], .inl 0),
  (29, .iload_n 2, 1, [], .inl 0),
  (30, .if_icmp .eq 7, 3, [37], .inl 0),
  (33, .iconst 1, 1, [], .inl (1)),
  (34, .goto 4, 3, [38], .inl 0),
  (37, .iconst 0, 1, [], .inl (0)),
  (38, .ireturn, 1, [1], .inl 0)]
/-- H.isChanceAsked -/
def tb190 : List (Nat × Instr × Nat × List Nat × (Int32 ⊕ Int64)) := [(0, .aload_n 0, 1, [], .inl 0),
  (1, .iload_n 1, 1, [], .inl 0),
  (2, .iload_n 2, 1, [], .inl 0),
  (3, .invokevirtual 187, 3, [188, 3, 1, 11], .inl 0),
  (6, .ifCond .eq 25, 3, [31], .inl 0),
  (9, .iload_n 2, 1, [], .inl 0),
  (10, .iconst 1, 1, [], .inl (1)),
  (11, .if_icmp .lt 20, 3, [31], .inl 0),
  (14, .iload_n 2, 1, [], .inl 0),
  (15, .bipush 8, 2, [], .inl (8)),
  (17, .if_icmp .gt 14, 3, [31], .inl 0),
  (20, .iload_n 3, 1, [], .inl 0),
  (21, .invokestatic 260, 3, [184, 1, 1], .inl 0),
  (24, .ifCond .eq 7, 3, [31], .inl 0),
  (27, .iconst 1, 1, [], .inl (1)),
  (28, .goto 4, 3, [32], .inl 0),
  (31, .iconst 0, 1, [], .inl (0)),
  (32, .ireturn, 1, [1], .inl 0)]
/-- H.wouldTrade -/
def tb191 : List (Nat × Instr × Nat × List Nat × (Int32 ⊕ Int64)) := [(0, .aload_n 0, 1, [], .inl 0),
  (1, .getfield 10, 3, [11, 0, 48, 0, 0], .inl 0),
  (4, .getfield 152, 3, [6, 9, 32, 2, 4], .inl 0),
  (7, .iload_n 1, 1, [], .inl 0),
  (8, .invokevirtual 427, 3, [48, 2, 1, 4], .inl 0),
  (11, .istore 4, 2, [], .inl 0),
  (13, .aload_n 0, 1, [], .inl 0),
  (14, .getfield 57, 3, [11, 8, 24, 0, 0], .inl 0),
  (17, .iload_n 1, 1, [], .inl 0),
  (18, .iload_n 3, 1, [], .inl 0),
  (19, .invokevirtual 210, 3, [38, 3, 1, 3], .inl 0),
  (22, .ifCond .ne 28, 3, [50], .inl 0),
  (25, .aload_n 0, 1, [], .inl 0),
  (26, .getfield 45, 3, [11, 6, 72, 0, 0], .inl 0),
  (29, .aload_n 0, 1, [], .inl 0),
  (30, .getfield 57, 3, [11, 8, 24, 0, 0], .inl 0),
  (33, .iload_n 2, 1, [], .inl 0),
  (34, .iload_n 3, 1, [], .inl 0),
  (35, .invokevirtual 191, 3, [35, 3, 1, 3], .inl 0),
  (38, .iload 4, 2, [], .inl 0),
  (40, .invokevirtual 431, 3, [102, 3, 1, 9], .inl 0),
  (43, .ifCond .eq 7, 3, [50], .inl 0),
  (46, .iconst 1, 1, [], .inl (1)),
  (47, .goto 4, 3, [51], .inl 0),
  (50, .iconst 0, 1, [], .inl (0)),
  (51, .ireturn, 1, [1], .inl 0)]
/-- H.refuseGoal -/
def tb192 : List (Nat × Instr × Nat × List Nat × (Int32 ⊕ Int64)) := [(0, .iload_n 1, 1, [], .inl 0),
  (1, .invokestatic 391, 3, [185, 1, 1], .inl 0),
  (4, .ifCond .eq 13, 3, [17], .inl 0),
  (7, .aload_n 0, 1, [], .inl 0),
  (8, .getfield 10, 3, [11, 0, 48, 0, 0], .inl 0),
  (11, .invokevirtual 171, 3, [70, 1, 1, 6], .inl 0),
  (14, .ifCond .ne 6, 3, [20], .inl 0),
  (17, .bipush (-2), 2, [], .inl (-2)),
  (19, .ireturn, 1, [], .inl 0),
  (20, .aload_n 0, 1, [], .inl 0),
  (21, .getfield 38, 3, [11, 5, 2229, 0, 0], .inl 0),
  (24, .iload_n 1, 1, [], .inl 0),
  (25, .aaload, 1, [], .inl 0),
  (26, .getfield 397, 3, [10, 1, 3], .inl 0),
  (29, .ifCond .ne 6, 3, [35], .inl 0),
  (32, .bipush (-6), 2, [], .inl (-6)),
  (34, .ireturn, 1, [], .inl 0),
  (35, .aload_n 0, 1, [], .inl 0),
  (36, .getfield 77, 3, [11, 12, 64, 0, 0], .inl 0),
  (39, .aload_n 0, 1, [], .inl 0),
  (40, .getfield 38, 3, [11, 5, 2229, 0, 0], .inl 0),
  (43, .iload_n 1, 1, [], .inl 0),
  (44, .aaload, 1, [], .inl 0),
  (45, .invokevirtual 434, 3, [86, 2, 1, 8], .inl 0),
  (48, .ifCond .eq 7, 3, [55], .inl 0),
  (51, .iconst 0, 1, [], .inl (0)),
  (52, .goto 5, 3, [57], .inl 0),
  (55, .bipush (-2), 2, [], .inl (-2)),
  (57, .ireturn, 1, [], .inl 0)]
/-- H.refuseBook -/
def tb193 : List (Nat × Instr × Nat × List Nat × (Int32 ⊕ Int64)) := [(0, .iload_n 1, 1, [], .inl 0),
  (1, .invokestatic 391, 3, [185, 1, 1], .inl 0),
  (4, .ifCond .eq 17, 3, [21], .inl 0),
  (7, .aload_n 0, 1, [], .inl 0),
  (8, .getfield 10, 3, [11, 0, 48, 0, 0], .inl 0),
  (11, .getfield 152, 3, [6, 9, 32, 2, 4], .inl 0),
  (14, .iload_n 2, 1, [], .inl 0),
  (15, .invokevirtual 136, 3, [44, 2, 1, 4], .inl 0),
  (18, .ifCond .ne 6, 3, [24], .inl 0),
  (21, .bipush (-2), 2, [], .inl (-2)),
  (23, .ireturn, 1, [], .inl 0),
  (24, .aload_n 0, 1, [], .inl 0),
  (25, .getfield 38, 3, [11, 5, 2229, 0, 0], .inl 0),
  (28, .iload_n 1, 1, [], .inl 0),
  (29, .aaload, 1, [], .inl 0),
  (30, .getfield 397, 3, [10, 1, 3], .inl 0),
  (33, .ifCond .ne 6, 3, [39], .inl 0),
  (36, .bipush (-6), 2, [], .inl (-6)),
  (38, .ireturn, 1, [], .inl 0),
  (39, .aload_n 0, 1, [], .inl 0),
  (40, .getfield 93, 3, [11, 14, 8, 0, 0], .inl 0),
  (43, .aload_n 0, 1, [], .inl 0),
  (44, .getfield 38, 3, [11, 5, 2229, 0, 0], .inl 0),
  (47, .iload_n 1, 1, [], .inl 0),
  (48, .aaload, 1, [], .inl 0),
  (49, .invokevirtual 438, 3, [8, 2, 1, 1], .inl 0),
  (52, .ifCond .eq 7, 3, [59], .inl 0),
  (55, .iconst 0, 1, [], .inl (0)),
  (56, .goto 5, 3, [61], .inl 0),
  (59, .bipush (-2), 2, [], .inl (-2)),
  (61, .ireturn, 1, [], .inl 0)]
/-- H.joyByLaw -/
def tb194 : List (Nat × Instr × Nat × List Nat × (Int32 ⊕ Int64)) := [(0, .aload_n 0, 1, [], .inl 0),
  (1, .getfield 61, 3, [11, 9, 24, 0, 1], .inl 0),
  (4, .invokevirtual 370, 3, [23, 1, 0, 3], .inl 0),
  (7, .aload_n 0, 1, [], .inl 0),
  (8, .getfield 61, 3, [11, 9, 24, 0, 1], .inl 0),
  (11, .iload_n 1, 1, [], .inl 0),
  (12, .iconst (-1), 1, [], .inl (-1)),
  (13, .invokevirtual 376, 3, [25, 3, 0, 3], .inl 0),
  (16, .aload_n 0, 1, [], .inl 0),
  (17, .getfield 61, 3, [11, 9, 24, 0, 1], .inl 0),
  (20, .invokevirtual 318, 3, [43, 1, 1, 3], .inl 0),
  (23, .ireturn, 1, [], .inl 0)]
/-- H.joyWithoutFlue -/
def tb195 : List (Nat × Instr × Nat × List Nat × (Int32 ⊕ Int64)) := [(0, .aload_n 0, 1, [], .inl 0),
  (1, .getfield 49, 3, [11, 7, 72, 0, 1], .inl 0),
  (4, .iload_n 1, 1, [], .inl 0),
  (5, .invokevirtual 421, 3, [97, 2, 0, 9], .inl 0),
  (8, .aload_n 0, 1, [], .inl 0),
  (9, .getfield 64, 3, [11, 10, 24, 0, 2], .inl 0),
  (12, .invokevirtual 370, 3, [23, 1, 0, 3], .inl 0),
  (15, .aload_n 0, 1, [], .inl 0),
  (16, .getfield 64, 3, [11, 10, 24, 0, 2], .inl 0),
  (19, .aload_n 0, 1, [], .inl 0),
  (20, .getfield 10, 3, [11, 0, 48, 0, 0], .inl 0),
  (23, .getfield 373, 3, [6, 1, 0], .inl 0),
  (26, .iconst (-1), 1, [], .inl (-1)),
  (27, .invokevirtual 376, 3, [25, 3, 0, 3], .inl 0),
  (30, .aload_n 0, 1, [], .inl 0),
  (31, .getfield 64, 3, [11, 10, 24, 0, 2], .inl 0),
  (34, .invokevirtual 318, 3, [43, 1, 1, 3], .inl 0),
  (37, .ireturn, 1, [], .inl 0)]
/-- H.gain -/
def tb196 : List (Nat × Instr × Nat × List Nat × (Int32 ⊕ Int64)) := [(0, .aload_n 0, 1, [], .inl 0),
  (1, .iload_n 1, 1, [], .inl 0),
  (2, .iload_n 3, 1, [], .inl 0),
  (3, .invokevirtual 441, 3, [197, 3, 1, 11], .inl 0),
  (6, .istore 5, 2, [], .inl 0),
  (8, .aload_n 0, 1, [], .inl 0),
  (9, .iload_n 2, 1, [], .inl 0),
  (10, .iload 4, 2, [], .inl 0),
  (12, .invokevirtual 441, 3, [197, 3, 1, 11], .inl 0),
  (15, .istore 6, 2, [], .inl 0),
  (17, .aload_n 0, 1, [], .inl 0),
  (18, .getfield 10, 3, [11, 0, 48, 0, 0], .inl 0),
  (21, .iload 5, 2, [], .inl 0),
  (23, .iload 6, 2, [], .inl 0),
  (25, .iconst (-1), 1, [], .inl (-1)),
  (26, .ixor, 1, [], .inl 0),
  (27, .iand, 1, [], .inl 0),
  (28, .invokevirtual 278, 3, [76, 2, 1, 6], .inl 0),
  (31, .aload_n 0, 1, [], .inl 0),
  (32, .getfield 10, 3, [11, 0, 48, 0, 0], .inl 0),
  (35, .iload 5, 2, [], .inl 0),
  (37, .iload 6, 2, [], .inl 0),
  (39, .iand, 1, [], .inl 0),
  (40, .invokevirtual 278, 3, [76, 2, 1, 6], .inl 0),
  (43, .iconst 2, 1, [], .inl (2)),
  (44, .idiv, 1, [], .inl 0),
  (45, .iadd, 1, [], .inl 0),
  (46, .ireturn, 1, [], .inl 0)]
/-- H.marksInGame -/
def tb197 : List (Nat × Instr × Nat × List Nat × (Int32 ⊕ Int64)) := [(0, .aload_n 0, 1, [], .inl 0),
  (1, .getfield 10, 3, [11, 0, 48, 0, 0], .inl 0),
  (4, .getfield 152, 3, [6, 9, 32, 2, 4], .inl 0),
  (7, .iload_n 1, 1, [], .inl 0),
  (8, .invokevirtual 424, 3, [47, 2, 1, 4], .inl 0),
  (11, .istore_n 3, 1, [], .inl 0),
  (12, .aload_n 0, 1, [], .inl 0),
  (13, .getfield 45, 3, [11, 6, 72, 0, 0], .inl 0),
  (16, .iload_n 2, 1, [], .inl 0),
  (17, .iconst 1, 1, [], .inl (1)),
  (18, .if_icmp .ne 24, 3, [42], .inl 0),
  (21, .aload_n 0, 1, [], .inl 0),
  (22, .getfield 10, 3, [11, 0, 48, 0, 0], .inl 0),
  (25, .aload_n 0, 1, [], .inl 0),
  (26, .getfield 10, 3, [11, 0, 48, 0, 0], .inl 0),
  (29, .getfield 125, 3, [6, 4, 32, 2, 0], .inl 0),
  (32, .invokevirtual 177, 3, [51, 1, 1, 4], .inl 0),
  (35, .iload_n 3, 1, [], .inl 0),
  (36, .invokevirtual 444, 3, [78, 3, 1, 6], .inl 0),
  (39, .goto 4, 3, [43], .inl 0),
  (42, .iload_n 3, 1, [], .inl 0),
  (43, .invokevirtual 158, 3, [100, 2, 1, 9], .inl 0),
  (46, .ireturn, 1, [], .inl 0)]
/-- H.slotsHeld -/
def tb198 : List (Nat × Instr × Nat × List Nat × (Int32 ⊕ Int64)) := [(0, .iconst 0, 1, [], .inl (0)),
  (1, .istore_n 1, 1, [], .inl 0),
  (2, .iconst 0, 1, [], .inl (0)),
  (3, .istore_n 2, 1, [], .inl 0),
  (4, .iload_n 2, 1, [], .inl 0),
  (5, .iconst 4, 1, [], .inl (4)),
  (6, .if_icmp .ge 24, 3, [30], .inl 0),
  (9, .aload_n 0, 1, [], .inl 0),
  (10, .getfield 38, 3, [11, 5, 2229, 0, 0], .inl 0),
  (13, .iload_n 2, 1, [], .inl 0),
  (14, .aaload, 1, [], .inl 0),
  (15, .getfield 397, 3, [10, 1, 3], .inl 0),
  (18, .ifCond .eq 6, 3, [24], .inl 0),
  (21, .iinc 1 1, 3, [], .inl (1)),
  (24, .iinc 2 1, 3, [], .inl (1)),
  (27, .goto (-23), 3, [4], .inl 0),
  (30, .iload_n 1, 1, [], .inl 0),
  (31, .ireturn, 1, [], .inl 0)]
/-- H.howManyRows -/
def tb199 : List (Nat × Instr × Nat × List Nat × (Int32 ⊕ Int64)) := [(0, .iconst 1, 1, [], .inl (1)),
  (1, .istore_n 2, 1, [], .inl 0),
  (2, .iconst 0, 1, [], .inl (0)),
  (3, .istore_n 3, 1, [], .inl 0),
  (4, .iload_n 3, 1, [], .inl 0),
  (5, .iload_n 1, 1, [], .inl 0),
  (6, .if_icmp .ge 15, 3, [21], .inl 0),
  (9, .iload_n 2, 1, [], .inl 0),
  (10, .iload_n 0, 1, [], .inl 0),
  (11, .iload_n 3, 1, [], .inl 0),
  (12, .isub, 1, [], .inl 0),
  (13, .imul, 1, [], .inl 0),
  (14, .istore_n 2, 1, [], .inl 0),
  (15, .iinc 3 1, 3, [], .inl (1)),
  (18, .goto (-14), 3, [4], .inl 0),
  (21, .iload_n 2, 1, [], .inl 0),
  (22, .ireturn, 1, [], .inl 0)]
/-- H.fillRow -/
def tb200 : List (Nat × Instr × Nat × List Nat × (Int32 ⊕ Int64)) := [(0, .iload_n 3, 1, [], .inl 0),
  (1, .istore 4, 2, [], .inl 0),
  (3, .iload_n 2, 1, [], .inl 0),
  (4, .aload_n 0, 1, [], .inl 0),
  (5, .arraylength, 1, [], .inl 0),
  (6, .invokestatic 447, 3, [4], .inl 0),
  (9, .iconst 1, 1, [], .inl (1)),
  (10, .isub, 1, [], .inl 0),
  (11, .istore 5, 2, [], .inl 0),
  (13, .iload 5, 2, [], .inl 0),
  (15, .ifCond .lt 49, 3, [64], .inl 0),
  (18, .iload_n 1, 1, [], .inl 0),
  (19, .iload 5, 2, [], .inl 0),
  (21, .isub, 1, [], .inl 0),
  (22, .istore 6, 2, [], .inl 0),
  (24, .aload_n 0, 1, [], .inl 0),
  (25, .iload 5, 2, [], .inl 0),
  (27, .iload 6, 2, [], .inl 0),
  (29, .ifCond .le 11, 3, [40], .inl 0),
  (32, .iload 4, 2, [], .inl 0),
  (34, .iload 6, 2, [], .inl 0),
  (36, .irem, 1, [], .inl 0),
  (37, .goto 4, 3, [41], .inl 0),
  (40, .iconst 0, 1, [], .inl (0)),
  (41, .iastore, 1, [], .inl 0),
  (42, .iload 6, 2, [], .inl 0),
  (44, .ifCond .le 11, 3, [55], .inl 0),
  (47, .iload 4, 2, [], .inl 0),
  (49, .iload 6, 2, [], .inl 0),
  (51, .idiv, 1, [], .inl 0),
  (52, .goto 4, 3, [56], .inl 0),
  (55, .iconst 0, 1, [], .inl (0)),
  (56, .istore 4, 2, [], .inl 0),
  (58, .iinc 5 (-1), 3, [], .inl (-1)),
  (61, .goto (-48), 3, [13, 6], .inl 0),
  (64, .iconst 0, 1, [], .inl (0)),
  (65, .istore 5, 2, [], .inl 0),
  (67, .iconst 0, 1, [], .inl (0)),
  (68, .istore 6, 2, [], .inl 0),
  (70, .iload 6, 2, [], .inl 0),
  (72, .iload_n 2, 1, [], .inl 0),
  (73, .if_icmp .ge 41, 3, [114], .inl 0),
  (76, .iload 6, 2, [], .inl 0),
  (78, .aload_n 0, 1, [], .inl 0),
  (79, .arraylength, 1, [], .inl 0),
  (80, .if_icmp .ge 34, 3, [114], .inl 0),
  (83, .aload_n 0, 1, [], .inl 0),
  (84, .iload 6, 2, [], .inl 0),
  (86, .iload 5, 2, [], .inl 0),
  (88, .iload_n 1, 1, [], .inl 0),
  (89, .aload_n 0, 1, [], .inl 0),
  (90, .iload 6, 2, [], .inl 0),
  (92, .iaload, 1, [], .inl 0),
  (93, .invokestatic 452, 3, [201, 3, 1], .inl 0),
  (96, .iastore, 1, [], .inl 0),
  (97, .iload 5, 2, [], .inl 0),
  (99, .iconst 1, 1, [], .inl (1)),
  (100, .aload_n 0, 1, [], .inl 0),
  (101, .iload 6, 2, [], .inl 0),
  (103, .iaload, 1, [], .inl 0),
  (104, .ishl, 1, [], .inl 0),
  (105, .ior, 1, [], .inl 0),
  (106, .istore 5, 2, [], .inl 0),
  (108, .iinc 6 1, 3, [], .inl (1)),
  (111, .goto (-41), 3, [70], .inl 0),
  (114, .return_, 1, [], .inl 0)]
/-- H.nthFree -/
def tb201 : List (Nat × Instr × Nat × List Nat × (Int32 ⊕ Int64)) := [(0, .iconst 0, 1, [], .inl (0)),
  (1, .istore_n 3, 1, [], .inl 0),
  (2, .iconst 0, 1, [], .inl (0)),
  (3, .istore 4, 2, [], .inl 0),
  (5, .iload 4, 2, [], .inl 0),
  (7, .iload_n 1, 1, [], .inl 0),
  (8, .if_icmp .ge 46, 3, [54], .inl 0),
  (11, .iload_n 0, 1, [], .inl 0),
  (12, .iload 4, 2, [], .inl 0),
  (14, .ishr, 1, [], .inl 0),
  (15, .iconst 1, 1, [], .inl (1)),
  (16, .iand, 1, [], .inl 0),
  (17, .ifCond .ne 7, 3, [24], .inl 0),
  (20, .iconst 1, 1, [], .inl (1)),
  (21, .goto 4, 3, [25], .inl 0),
  (24, .iconst 0, 1, [], .inl (0)),
  (25, .istore 5, 2, [], .inl 0),
  (27, .iload 5, 2, [], .inl 0),
  (29, .ifCond .eq 11, 3, [40], .inl 0),
  (32, .iload_n 3, 1, [], .inl 0),
  (33, .iload_n 2, 1, [], .inl 0),
  (34, .if_icmp .ne 6, 3, [40], .inl 0),
  (37, .iload 4, 2, [], .inl 0),
  (39, .ireturn, 1, [], .inl 0),
  (40, .iload 5, 2, [], .inl 0),
  (42, .ifCond .eq 6, 3, [48], .inl 0),
  (45, .iinc 3 1, 3, [], .inl (1)),
  (48, .iinc 4 1, 3, [], .inl (1)),
  (51, .goto (-46), 3, [5, 5], .inl 0),
  (54, .iconst 0, 1, [], .inl (0)),
  (55, .ireturn, 1, [], .inl 0)]
/-- H.numberOfRow -/
def tb202 : List (Nat × Instr × Nat × List Nat × (Int32 ⊕ Int64)) := [(0, .iconst 0, 1, [], .inl (0)),
  (1, .istore_n 3, 1, [], .inl 0),
  (2, .iconst 0, 1, [], .inl (0)),
  (3, .istore 4, 2, [], .inl 0),
  (5, .iconst 0, 1, [], .inl (0)),
  (6, .istore 5, 2, [], .inl 0),
  (8, .iload 5, 2, [], .inl 0),
  (10, .iload_n 2, 1, [], .inl 0),
  (11, .if_icmp .ge 55, 3, [66], .inl 0),
  (14, .iload 5, 2, [], .inl 0),
  (16, .aload_n 0, 1, [], .inl 0),
  (17, .arraylength, 1, [], .inl 0),
  (18, .if_icmp .ge 48, 3, [66], .inl 0),
  (21, .iconst 1, 1, [], .inl (1)),
  (22, .aload_n 0, 1, [], .inl 0),
  (23, .iload 5, 2, [], .inl 0),
  (25, .iaload, 1, [], .inl 0),
  (26, .ishl, 1, [], .inl 0),
  (27, .iconst 1, 1, [], .inl (1)),
  (28, .isub, 1, [], .inl 0),
  (29, .istore 6, 2, [], .inl 0),
  (31, .iload_n 3, 1, [], .inl 0),
  (32, .iload_n 1, 1, [], .inl 0),
  (33, .iload 5, 2, [], .inl 0),
  (35, .isub, 1, [], .inl 0),
  (36, .imul, 1, [], .inl 0),
  (37, .iload 6, 2, [], .inl 0),
  (39, .iload 4, 2, [], .inl 0),
  (41, .iconst (-1), 1, [], .inl (-1)),
  (42, .ixor, 1, [], .inl 0),
  (43, .iand, 1, [], .inl 0),
  (44, .invokestatic 284, 3, [371, 1, 1], .inl 0),
  (47, .iadd, 1, [], .inl 0),
  (48, .istore_n 3, 1, [], .inl 0),
  (49, .iload 4, 2, [], .inl 0),
  (51, .iconst 1, 1, [], .inl (1)),
  (52, .aload_n 0, 1, [], .inl 0),
  (53, .iload 5, 2, [], .inl 0),
  (55, .iaload, 1, [], .inl 0),
  (56, .ishl, 1, [], .inl 0),
  (57, .ior, 1, [], .inl 0),
  (58, .istore 4, 2, [], .inl 0),
  (60, .iinc 5 1, 3, [], .inl (1)),
  (63, .goto (-55), 3, [8, 6], .inl 0),
  (66, .iload_n 3, 1, [], .inl 0),
  (67, .ireturn, 1, [], .inl 0)]
/-- H.inLowestTerms -/
def tb203 : List (Nat × Instr × Nat × List Nat × (Int32 ⊕ Int64)) := [(0, .lload_n 0, 1, [], .inl 0),
  (1, .lstore 5, 2, [], .inl 0),
  (3, .lload_n 2, 1, [], .inl 0),
  (4, .lstore 7, 2, [], .inl 0),
  (6, .iconst 0, 1, [], .inl (0)),
  (7, .istore 9, 2, [], .inl 0),
  (9, .iload 9, 2, [], .inl 0),
  (11, .sipush 200, 3, [], .inl (200)),
  (14, .if_icmp .ge 31, 3, [45], .inl 0),
  (17, .lload 7, 2, [], .inl 0),
  (19, .lconst 0, 1, [], .inr (0)),
  (20, .lcmp, 1, [], .inl 0),
  (21, .ifCond .eq 24, 3, [45], .inl 0),
  (24, .lload 5, 2, [], .inl 0),
  (26, .lload 7, 2, [], .inl 0),
  (28, .lrem, 1, [], .inl 0),
  (29, .lstore 10, 2, [], .inl 0),
  (31, .lload 7, 2, [], .inl 0),
  (33, .lstore 5, 2, [], .inl 0),
  (35, .lload 10, 2, [], .inl 0),
  (37, .lstore 7, 2, [], .inl 0),
  (39, .iinc 9 1, 3, [], .inl (1)),
  (42, .goto (-33), 3, [9, 10], .inl 0),
  (45, .lload 5, 2, [], .inl 0),
  (47, .lconst 0, 1, [], .inr (0)),
  (48, .lcmp, 1, [], .inl 0),
  (49, .ifCond .ne 14, 3, [63], .inl 0),
  (52, .iload 4, 2, [], .inl 0),
  (54, .ifCond .ne 7, 3, [61], .inl 0),
  (57, .lconst 0, 1, [], .inr (0)),
  (58, .goto 4, 3, [62], .inl 0),
  (61, .lconst 1, 1, [], .inr (1)),
  (62, .lreturn, 1, [], .inl 0),
  (63, .iload 4, 2, [], .inl 0),
  (65, .ifCond .ne 10, 3, [75], .inl 0),
  (68, .lload_n 0, 1, [], .inl 0),
  (69, .lload 5, 2, [], .inl 0),
  (71, .ldiv, 1, [], .inl 0),
  (72, .goto 7, 3, [79], .inl 0),
  (75, .lload_n 2, 1, [], .inl 0),
  (76, .lload 5, 2, [], .inl 0),
  (78, .ldiv, 1, [], .inl 0),
  (79, .lreturn, 1, [], .inl 0)]
/-- M.in -/
def tb204 : List (Nat × Instr × Nat × List Nat × (Int32 ⊕ Int64)) := [(0, .lload_n 0, 1, [], .inl 0),
  (1, .lload_n 2, 1, [], .inl 0),
  (2, .lcmp, 1, [], .inl 0),
  (3, .ifCond .lt 14, 3, [17], .inl 0),
  (6, .lload_n 0, 1, [], .inl 0),
  (7, .lload 4, 2, [], .inl 0),
  (9, .lcmp, 1, [], .inl 0),
  (10, .ifCond .gt 7, 3, [17], .inl 0),
  (13, .iconst 1, 1, [], .inl (1)),
  (14, .goto 4, 3, [18], .inl 0),
  (17, .iconst 0, 1, [], .inl (0)),
  (18, .ireturn, 1, [1], .inl 0)]
/-- M.isSlot -/
def tb205 : List (Nat × Instr × Nat × List Nat × (Int32 ⊕ Int64)) := [(0, .iload_n 0, 1, [], .inl 0),
  (1, .i2l, 1, [], .inl 0),
  (2, .lconst 0, 1, [], .inr (0)),
  (3, .ldc2_w 93, 3, [], .inr (3)),
  (6, .invokestatic 95, 3, [204, 3, 1], .inl 0),
  (9, .ireturn, 1, [1], .inl 0)]
/-- M.row -/
def tb206 : List (Nat × Instr × Nat × List Nat × (Int32 ⊕ Int64)) := [(0, .aload_n 0, 1, [], .inl 0),
  (1, .iconst 0, 1, [], .inl (0)),
  (2, .putfield 90, 3, [12, 0, 0], .inl 0),
  (5, .iload_n 1, 1, [], .inl 0),
  (6, .invokestatic 99, 3, [205, 1, 1], .inl 0),
  (9, .ifCond .eq 21, 3, [30], .inl 0),
  (12, .iload_n 2, 1, [], .inl 0),
  (13, .i2l, 1, [], .inl 0),
  (14, .lconst 0, 1, [], .inr (0)),
  (15, .ldc2_w 93, 3, [], .inr (3)),
  (18, .invokestatic 95, 3, [204, 3, 1], .inl 0),
  (21, .ifCond .eq 9, 3, [30], .inl 0),
  (24, .iload_n 3, 1, [], .inl 0),
  (25, .bipush 60, 2, [], .inl (60)),
  (27, .if_icmp .le 6, 3, [33], .inl 0),
  (30, .bipush (-2), 2, [], .inl (-2)),
  (32, .ireturn, 1, [], .inl 0),
  (33, .iload_n 3, 1, [], .inl 0),
  (34, .ifCond .ge 6, 3, [40], .inl 0),
  (37, .bipush (-3), 2, [], .inl (-3)),
  (39, .ireturn, 1, [], .inl 0),
  (40, .aload_n 0, 1, [], .inl 0),
  (41, .getfield 7, 3, [12, 1, 2345, 0, 0], .inl 0),
  (44, .iload_n 1, 1, [], .inl 0),
  (45, .iload_n 2, 1, [], .inl 0),
  (46, .iastore, 1, [], .inl 0),
  (47, .aload_n 0, 1, [], .inl 0),
  (48, .getfield 13, 3, [12, 2, 2353, 0, 0], .inl 0),
  (51, .iload_n 1, 1, [], .inl 0),
  (52, .iload_n 3, 1, [], .inl 0),
  (53, .iastore, 1, [], .inl 0),
  (54, .iconst 0, 1, [], .inl (0)),
  (55, .istore 4, 2, [], .inl 0),
  (57, .iload 4, 2, [], .inl 0),
  (59, .iload_n 3, 1, [], .inl 0),
  (60, .if_icmp .ge 22, 3, [82], .inl 0),
  (63, .aload_n 0, 1, [], .inl 0),
  (64, .getfield 16, 3, [12, 3, 123194, 0, 0], .inl 0),
  (67, .bipush 60, 2, [], .inl (60)),
  (69, .iload_n 1, 1, [], .inl 0),
  (70, .imul, 1, [], .inl 0),
  (71, .iload 4, 2, [], .inl 0),
  (73, .iadd, 1, [], .inl 0),
  (74, .lconst 0, 1, [], .inr (0)),
  (75, .lastore, 1, [], .inl 0),
  (76, .iinc 4 1, 3, [], .inl (1)),
  (79, .goto (-22), 3, [57], .inl 0),
  (82, .iconst 0, 1, [], .inl (0)),
  (83, .ireturn, 1, [], .inl 0)]
/-- M.cut -/
def tb207 : List (Nat × Instr × Nat × List Nat × (Int32 ⊕ Int64)) := [(0, .iload_n 2, 1, [], .inl 0),
  (1, .ifCond .ne 10, 3, [11], .inl 0),
  (4, .lload_n 0, 1, [], .inl 0),
  (5, .l2i, 1, [], .inl 0),
  (6, .i2b, 1, [], .inl 0),
  (7, .i2l, 1, [], .inl 0),
  (8, .goto 27, 3, [35], .inl 0),
  (11, .iload_n 2, 1, [], .inl 0),
  (12, .iconst 1, 1, [], .inl (1)),
  (13, .if_icmp .ne 10, 3, [23], .inl 0),
  (16, .lload_n 0, 1, [], .inl 0),
  (17, .l2i, 1, [], .inl 0),
  (18, .i2s, 1, [], .inl 0),
  (19, .i2l, 1, [], .inl 0),
  (20, .goto 15, 3, [35], .inl 0),
  (23, .iload_n 2, 1, [], .inl 0),
  (24, .iconst 2, 1, [], .inl (2)),
  (25, .if_icmp .ne 9, 3, [34], .inl 0),
  (28, .lload_n 0, 1, [], .inl 0),
  (29, .l2i, 1, [], .inl 0),
  (30, .i2l, 1, [], .inl 0),
  (31, .goto 4, 3, [35], .inl 0),
  (34, .lload_n 0, 1, [], .inl 0),
  (35, .lreturn, 1, [], .inl 0)]
/-- M.write -/
def tb208 : List (Nat × Instr × Nat × List Nat × (Int32 ⊕ Int64)) := [(0, .aload_n 0, 1, [], .inl 0),
  (1, .iconst 0, 1, [], .inl (0)),
  (2, .putfield 90, 3, [12, 0, 0], .inl 0),
  (5, .iload_n 1, 1, [], .inl 0),
  (6, .invokestatic 99, 3, [205, 1, 1], .inl 0),
  (9, .ifCond .ne 6, 3, [15], .inl 0),
  (12, .bipush (-2), 2, [], .inl (-2)),
  (14, .ireturn, 1, [], .inl 0),
  (15, .aload_n 0, 1, [], .inl 0),
  (16, .getfield 7, 3, [12, 1, 2345, 0, 0], .inl 0),
  (19, .iload_n 1, 1, [], .inl 0),
  (20, .iaload, 1, [], .inl 0),
  (21, .iconst (-1), 1, [], .inl (-1)),
  (22, .if_icmp .ne 6, 3, [28], .inl 0),
  (25, .bipush (-6), 2, [], .inl (-6)),
  (27, .ireturn, 1, [], .inl 0),
  (28, .iload_n 2, 1, [], .inl 0),
  (29, .i2l, 1, [], .inl 0),
  (30, .lconst 0, 1, [], .inr (0)),
  (31, .aload_n 0, 1, [], .inl 0),
  (32, .getfield 13, 3, [12, 2, 2353, 0, 0], .inl 0),
  (35, .iload_n 1, 1, [], .inl 0),
  (36, .iaload, 1, [], .inl 0),
  (37, .iconst 1, 1, [], .inl (1)),
  (38, .isub, 1, [], .inl 0),
  (39, .i2l, 1, [], .inl 0),
  (40, .invokestatic 95, 3, [204, 3, 1], .inl 0),
  (43, .ifCond .ne 6, 3, [49], .inl 0),
  (46, .bipush (-7), 2, [], .inl (-7)),
  (48, .ireturn, 1, [], .inl 0),
  (49, .aload_n 0, 1, [], .inl 0),
  (50, .getfield 16, 3, [12, 3, 123194, 0, 0], .inl 0),
  (53, .bipush 60, 2, [], .inl (60)),
  (55, .iload_n 1, 1, [], .inl 0),
  (56, .imul, 1, [], .inl 0),
  (57, .iload_n 2, 1, [], .inl 0),
  (58, .iadd, 1, [], .inl 0),
  (59, .lload_n 3, 1, [], .inl 0),
  (60, .aload_n 0, 1, [], .inl 0),
  (61, .getfield 7, 3, [12, 1, 2345, 0, 0], .inl 0),
  (64, .iload_n 1, 1, [], .inl 0),
  (65, .iaload, 1, [], .inl 0),
  (66, .invokestatic 103, 3, [207, 2, 2], .inl 0),
  (69, .lastore, 1, [], .inl 0),
  (70, .iconst 0, 1, [], .inl (0)),
  (71, .ireturn, 1, [], .inl 0)]
/-- M.paste -/
def tb209 : List (Nat × Instr × Nat × List Nat × (Int32 ⊕ Int64)) := [(0, .aload_n 0, 1, [], .inl 0),
  (1, .iconst 0, 1, [], .inl (0)),
  (2, .putfield 90, 3, [12, 0, 0], .inl 0),
  (5, .iload_n 1, 1, [], .inl 0),
  (6, .invokestatic 99, 3, [205, 1, 1], .inl 0),
  (9, .ifCond .eq 10, 3, [19], .inl 0),
  (12, .iload_n 3, 1, [], .inl 0),
  (13, .invokestatic 99, 3, [205, 1, 1], .inl 0),
  (16, .ifCond .ne 6, 3, [22], .inl 0),
  (19, .bipush (-2), 2, [], .inl (-2)),
  (21, .ireturn, 1, [], .inl 0),
  (22, .aload_n 0, 1, [], .inl 0),
  (23, .getfield 7, 3, [12, 1, 2345, 0, 0], .inl 0),
  (26, .iload_n 1, 1, [], .inl 0),
  (27, .iaload, 1, [], .inl 0),
  (28, .iconst (-1), 1, [], .inl (-1)),
  (29, .if_icmp .eq 13, 3, [42], .inl 0),
  (32, .aload_n 0, 1, [], .inl 0),
  (33, .getfield 7, 3, [12, 1, 2345, 0, 0], .inl 0),
  (36, .iload_n 3, 1, [], .inl 0),
  (37, .iaload, 1, [], .inl 0),
  (38, .iconst (-1), 1, [], .inl (-1)),
  (39, .if_icmp .ne 6, 3, [45], .inl 0),
  (42, .bipush (-6), 2, [], .inl (-6)),
  (44, .ireturn, 1, [], .inl 0),
  (45, .aload_n 0, 1, [], .inl 0),
  (46, .getfield 7, 3, [12, 1, 2345, 0, 0], .inl 0),
  (49, .iload_n 1, 1, [], .inl 0),
  (50, .iaload, 1, [], .inl 0),
  (51, .aload_n 0, 1, [], .inl 0),
  (52, .getfield 7, 3, [12, 1, 2345, 0, 0], .inl 0),
  (55, .iload_n 3, 1, [], .inl 0),
  (56, .iaload, 1, [], .inl 0),
  (57, .if_icmp .eq 6, 3, [63], .inl 0),
  (60, .bipush (-8), 2, [], .inl (-8)),
  (62, .ireturn, 1, [], .inl 0),
  (63, .iload_n 2, 1, [], .inl 0),
  (64, .ifCond .lt 48, 3, [112], .inl 0),
  (67, .iload 4, 2, [], .inl 0),
  (69, .ifCond .lt 43, 3, [112], .inl 0),
  (72, .iload 5, 2, [], .inl 0),
  (74, .ifCond .lt 38, 3, [112], .inl 0),
  (77, .iload_n 2, 1, [], .inl 0),
  (78, .i2l, 1, [], .inl 0),
  (79, .iload 5, 2, [], .inl 0),
  (81, .i2l, 1, [], .inl 0),
  (82, .ladd, 1, [], .inl 0),
  (83, .aload_n 0, 1, [], .inl 0),
  (84, .getfield 13, 3, [12, 2, 2353, 0, 0], .inl 0),
  (87, .iload_n 1, 1, [], .inl 0),
  (88, .iaload, 1, [], .inl 0),
  (89, .i2l, 1, [], .inl 0),
  (90, .lcmp, 1, [], .inl 0),
  (91, .ifCond .gt 21, 3, [112], .inl 0),
  (94, .iload 4, 2, [], .inl 0),
  (96, .i2l, 1, [], .inl 0),
  (97, .iload 5, 2, [], .inl 0),
  (99, .i2l, 1, [], .inl 0),
  (100, .ladd, 1, [], .inl 0),
  (101, .aload_n 0, 1, [], .inl 0),
  (102, .getfield 13, 3, [12, 2, 2353, 0, 0], .inl 0),
  (105, .iload_n 3, 1, [], .inl 0),
  (106, .iaload, 1, [], .inl 0),
  (107, .i2l, 1, [], .inl 0),
  (108, .lcmp, 1, [], .inl 0),
  (109, .ifCond .le 6, 3, [115], .inl 0),
  (112, .bipush (-7), 2, [], .inl (-7)),
  (114, .ireturn, 1, [], .inl 0),
  (115, .iconst 0, 1, [], .inl (0)),
  (116, .istore 6, 2, [], .inl 0),
  (118, .iload 6, 2, [], .inl 0),
  (120, .iload 5, 2, [], .inl 0),
  (122, .if_icmp .ge 30, 3, [152], .inl 0),
  (125, .aload_n 0, 1, [], .inl 0),
  (126, .getfield 20, 3, [12, 4, 31042, 0, 0], .inl 0),
  (129, .iload 6, 2, [], .inl 0),
  (131, .aload_n 0, 1, [], .inl 0),
  (132, .getfield 16, 3, [12, 3, 123194, 0, 0], .inl 0),
  (135, .bipush 60, 2, [], .inl (60)),
  (137, .iload_n 1, 1, [], .inl 0),
  (138, .imul, 1, [], .inl 0),
  (139, .iload_n 2, 1, [], .inl 0),
  (140, .iadd, 1, [], .inl 0),
  (141, .iload 6, 2, [], .inl 0),
  (143, .iadd, 1, [], .inl 0),
  (144, .laload, 1, [], .inl 0),
  (145, .lastore, 1, [], .inl 0),
  (146, .iinc 6 1, 3, [], .inl (1)),
  (149, .goto (-31), 3, [118], .inl 0),
  (152, .iconst 0, 1, [], .inl (0)),
  (153, .istore 6, 2, [], .inl 0),
  (155, .iload 6, 2, [], .inl 0),
  (157, .iload 5, 2, [], .inl 0),
  (159, .if_icmp .ge 31, 3, [190], .inl 0),
  (162, .aload_n 0, 1, [], .inl 0),
  (163, .getfield 16, 3, [12, 3, 123194, 0, 0], .inl 0),
  (166, .bipush 60, 2, [], .inl (60)),
  (168, .iload_n 3, 1, [], .inl 0),
  (169, .imul, 1, [], .inl 0),
  (170, .iload 4, 2, [], .inl 0),
  (172, .iadd, 1, [], .inl 0),
  (173, .iload 6, 2, [], .inl 0),
  (175, .iadd, 1, [], .inl 0),
  (176, .aload_n 0, 1, [], .inl 0),
  (177, .getfield 20, 3, [12, 4, 31042, 0, 0], .inl 0),
  (180, .iload 6, 2, [], .inl 0),
  (182, .laload, 1, [], .inl 0),
  (183, .lastore, 1, [], .inl 0),
  (184, .iinc 6 1, 3, [], .inl (1)),
  (187, .goto (-32), 3, [155], .inl 0),
  (190, .iconst 0, 1, [], .inl (0)),
  (191, .ireturn, 1, [], .inl 0)]
/-- M.feed -/
def tb210 : List (Nat × Instr × Nat × List Nat × (Int32 ⊕ Int64)) := [(0, .aload_n 0, 1, [], .inl 0),
  (1, .iconst 0, 1, [], .inl (0)),
  (2, .putfield 90, 3, [12, 0, 0], .inl 0),
  (5, .aload_n 0, 1, [], .inl 0),
  (6, .getfield 107, 3, [12, 6, 0], .inl 0),
  (9, .bipush 20, 2, [], .inl (20)),
  (11, .iadd, 1, [], .inl 0),
  (12, .sipush 700, 3, [], .inl (700)),
  (15, .if_icmp .le 5, 3, [20], .inl 0),
  (18, .iconst (-1), 1, [], .inl (-1)),
  (19, .ireturn, 1, [], .inl 0),
  (20, .aload_n 0, 1, [], .inl 0),
  (21, .iload_n 1, 1, [], .inl 0),
  (22, .invokevirtual 110, 3, [211, 2, 0, 12], .inl 0),
  (25, .aload_n 0, 1, [], .inl 0),
  (26, .iload_n 2, 1, [], .inl 0),
  (27, .invokevirtual 110, 3, [211, 2, 0, 12], .inl 0),
  (30, .aload_n 0, 1, [], .inl 0),
  (31, .iload_n 3, 1, [], .inl 0),
  (32, .invokevirtual 110, 3, [211, 2, 0, 12], .inl 0),
  (35, .aload_n 0, 1, [], .inl 0),
  (36, .iload 4, 2, [], .inl 0),
  (38, .invokevirtual 110, 3, [211, 2, 0, 12], .inl 0),
  (41, .aload_n 0, 1, [], .inl 0),
  (42, .iload 5, 2, [], .inl 0),
  (44, .invokevirtual 110, 3, [211, 2, 0, 12], .inl 0),
  (47, .aload_n 0, 1, [], .inl 0),
  (48, .getfield 107, 3, [12, 6, 0], .inl 0),
  (51, .ireturn, 1, [], .inl 0)]
/-- M.four -/
def tb211 : List (Nat × Instr × Nat × List Nat × (Int32 ⊕ Int64)) := [(0, .bipush 24, 2, [], .inl (24)),
  (2, .istore_n 2, 1, [], .inl 0),
  (3, .iload_n 2, 1, [], .inl 0),
  (4, .ifCond .lt 32, 3, [36], .inl 0),
  (7, .aload_n 0, 1, [], .inl 0),
  (8, .getfield 23, 3, [12, 5, 358731, 0, 0], .inl 0),
  (11, .aload_n 0, 1, [], .inl 0),
  (12, .getfield 107, 3, [12, 6, 0], .inl 0),
  (15, .iload_n 1, 1, [], .inl 0),
  (16, .iload_n 2, 1, [], .inl 0),
  (17, .ishr, 1, [], .inl 0),
  (18, .i2b, 1, [], .inl 0),
  (19, .bastore, 1, [], .inl 0),
  (20, .aload_n 0, 1, [], .inl 0),
  (21, .dup, 1, [], .inl 0),
  (22, .getfield 107, 3, [12, 6, 0], .inl 0),
  (25, .iconst 1, 1, [], .inl (1)),
  (26, .iadd, 1, [], .inl 0),
  (27, .putfield 107, 3, [12, 6, 0], .inl 0),
  (30, .iinc 2 (-8), 3, [], .inl (-8)),
  (33, .goto (-30), 3, [3], .inl 0),
  (36, .return_, 1, [], .inl 0)]
/-- M.end -/
def tb212 : List (Nat × Instr × Nat × List Nat × (Int32 ⊕ Int64)) := [(0, .aload_n 0, 1, [], .inl 0),
  (1, .iconst 0, 1, [], .inl (0)),
  (2, .putfield 90, 3, [12, 0, 0], .inl 0),
  (5, .iload_n 1, 1, [], .inl 0),
  (6, .i2l, 1, [], .inl 0),
  (7, .lconst 0, 1, [], .inr (0)),
  (8, .aload_n 0, 1, [], .inl 0),
  (9, .getfield 107, 3, [12, 6, 0], .inl 0),
  (12, .i2l, 1, [], .inl 0),
  (13, .invokestatic 95, 3, [204, 3, 1], .inl 0),
  (16, .ifCond .ne 5, 3, [21], .inl 0),
  (19, .iconst (-1), 1, [], .inl (-1)),
  (20, .ireturn, 1, [], .inl 0),
  (21, .aload_n 0, 1, [], .inl 0),
  (22, .iload_n 1, 1, [], .inl 0),
  (23, .putfield 107, 3, [12, 6, 0], .inl 0),
  (26, .iload_n 1, 1, [], .inl 0),
  (27, .ireturn, 1, [], .inl 0)]
/-- M.isByte -/
def tb213 : List (Nat × Instr × Nat × List Nat × (Int32 ⊕ Int64)) := [(0, .iload_n 1, 1, [], .inl 0),
  (1, .aload_n 0, 1, [], .inl 0),
  (2, .getfield 107, 3, [12, 6, 0], .inl 0),
  (5, .if_icmp .ge 27, 3, [32], .inl 0),
  (8, .aload_n 0, 1, [], .inl 0),
  (9, .getfield 23, 3, [12, 5, 358731, 0, 0], .inl 0),
  (12, .iload_n 1, 1, [], .inl 0),
  (13, .baload, 1, [], .inl 0),
  (14, .iload_n 2, 1, [], .inl 0),
  (15, .if_icmp .lt 17, 3, [32], .inl 0),
  (18, .aload_n 0, 1, [], .inl 0),
  (19, .getfield 23, 3, [12, 5, 358731, 0, 0], .inl 0),
  (22, .iload_n 1, 1, [], .inl 0),
  (23, .baload, 1, [], .inl 0),
  (24, .iload_n 3, 1, [], .inl 0),
  (25, .if_icmp .gt 7, 3, [32], .inl 0),
  (28, .iconst 1, 1, [], .inl (1)),
  (29, .goto 4, 3, [33], .inl 0),
  (32, .iconst 0, 1, [], .inl (0)),
  (33, .ireturn, 1, [1], .inl 0)]
/-- M.next -/
def tb214 : List (Nat × Instr × Nat × List Nat × (Int32 ⊕ Int64)) := [(0, .aload_n 0, 1, [], .inl 0),
  (1, .aload_n 0, 1, [], .inl 0),
  (2, .getfield 114, 3, [12, 7, 0], .inl 0),
  (5, .bipush 32, 2, [], .inl (32)),
  (7, .bipush 32, 2, [], .inl (32)),
  (9, .invokevirtual 117, 3, [213, 4, 1, 12], .inl 0),
  (12, .ifCond .ne 18, 3, [30], .inl 0),
  (15, .aload_n 0, 1, [], .inl 0),
  (16, .aload_n 0, 1, [], .inl 0),
  (17, .getfield 114, 3, [12, 7, 0], .inl 0),
  (20, .bipush 10, 2, [], .inl (10)),
  (22, .bipush 10, 2, [], .inl (10)),
  (24, .invokevirtual 117, 3, [213, 4, 1, 12], .inl 0),
  (27, .ifCond .eq 16, 3, [43], .inl 0),
  (30, .aload_n 0, 1, [], .inl 0),
  (31, .dup, 1, [], .inl 0),
  (32, .getfield 114, 3, [12, 7, 0], .inl 0),
  (35, .iconst 1, 1, [], .inl (1)),
  (36, .iadd, 1, [], .inl 0),
  (37, .putfield 114, 3, [12, 7, 0], .inl 0),
  (40, .goto (-40), 3, [0], .inl 0),
  (43, .aload_n 0, 1, [], .inl 0),
  (44, .aload_n 0, 1, [], .inl 0),
  (45, .getfield 114, 3, [12, 7, 0], .inl 0),
  (48, .putfield 121, 3, [12, 9, 0], .inl 0),
  (51, .aload_n 0, 1, [], .inl 0),
  (52, .iconst 0, 1, [], .inl (0)),
  (53, .putfield 124, 3, [12, 10, 0], .inl 0),
  (56, .aload_n 0, 1, [], .inl 0),
  (57, .lconst 0, 1, [], .inr (0)),
  (58, .putfield 127, 3, [12, 11, 1], .inl 0),
  (61, .aload_n 0, 1, [], .inl 0),
  (62, .getfield 114, 3, [12, 7, 0], .inl 0),
  (65, .aload_n 0, 1, [], .inl 0),
  (66, .getfield 107, 3, [12, 6, 0], .inl 0),
  (69, .if_icmp .ne 11, 3, [80], .inl 0),
  (72, .aload_n 0, 1, [], .inl 0),
  (73, .iconst 0, 1, [], .inl (0)),
  (74, .putfield 131, 3, [12, 8, 0], .inl 0),
  (77, .goto 230, 3, [307], .inl 0),
  (80, .aload_n 0, 1, [], .inl 0),
  (81, .aload_n 0, 1, [], .inl 0),
  (82, .getfield 114, 3, [12, 7, 0], .inl 0),
  (85, .bipush 97, 2, [], .inl (97)),
  (87, .bipush 122, 2, [], .inl (122)),
  (89, .invokevirtual 117, 3, [213, 4, 1, 12], .inl 0),
  (92, .ifCond .eq 96, 3, [188], .inl 0),
  (95, .aload_n 0, 1, [], .inl 0),
  (96, .iconst 1, 1, [], .inl (1)),
  (97, .putfield 131, 3, [12, 8, 0], .inl 0),
  (100, .iconst 0, 1, [], .inl (0)),
  (101, .istore_n 1, 1, [], .inl 0),
  (102, .aload_n 0, 1, [], .inl 0),
  (103, .aload_n 0, 1, [], .inl 0),
  (104, .getfield 114, 3, [12, 7, 0], .inl 0),
  (107, .bipush 97, 2, [], .inl (97)),
  (109, .bipush 122, 2, [], .inl (122)),
  (111, .invokevirtual 117, 3, [213, 4, 1, 12], .inl 0),
  (114, .ifCond .eq 71, 3, [185], .inl 0),
  (117, .aload_n 0, 1, [], .inl 0),
  (118, .iload_n 1, 1, [], .inl 0),
  (119, .bipush 11, 2, [], .inl (11)),
  (121, .if_icmp .le 9, 3, [130], .inl 0),
  (124, .ldc2_w 134, 3, [], .inr (-1)),
  (127, .goto 26, 3, [153], .inl 0),
  (130, .ldc2_w 136, 3, [], .inr (27)),
  (133, .aload_n 0, 1, [], .inl 0),
  (134, .getfield 127, 3, [12, 11, 1], .inl 0),
  (137, .lmul, 1, [], .inl 0),
  (138, .aload_n 0, 1, [], .inl 0),
  (139, .getfield 23, 3, [12, 5, 358731, 0, 0], .inl 0),
  (142, .aload_n 0, 1, [], .inl 0),
  (143, .getfield 114, 3, [12, 7, 0], .inl 0),
  (146, .baload, 1, [], .inl 0),
  (147, .i2l, 1, [], .inl 0),
  (148, .ladd, 1, [], .inl 0),
  (149, .ldc2_w 138, 3, [], .inr (96)),
  (152, .lsub, 1, [], .inl 0),
  (153, .putfield 127, 3, [12, 11, 1], .inl 0),
  (156, .iload_n 1, 1, [], .inl 0),
  (157, .bipush 11, 2, [], .inl (11)),
  (159, .if_icmp .le 10, 3, [169], .inl 0),
  (162, .aload_n 0, 1, [], .inl 0),
  (163, .ldc2_w 134, 3, [], .inr (-1)),
  (166, .putfield 127, 3, [12, 11, 1], .inl 0),
  (169, .aload_n 0, 1, [], .inl 0),
  (170, .dup, 1, [], .inl 0),
  (171, .getfield 114, 3, [12, 7, 0], .inl 0),
  (174, .iconst 1, 1, [], .inl (1)),
  (175, .iadd, 1, [], .inl 0),
  (176, .putfield 114, 3, [12, 7, 0], .inl 0),
  (179, .iinc 1 1, 3, [], .inl (1)),
  (182, .goto (-80), 3, [102], .inl 0),
  (185, .goto 122, 3, [307], .inl 0),
  (188, .aload_n 0, 1, [], .inl 0),
  (189, .aload_n 0, 1, [], .inl 0),
  (190, .getfield 114, 3, [12, 7, 0], .inl 0),
  (193, .bipush 48, 2, [], .inl (48)),
  (195, .bipush 57, 2, [], .inl (57)),
  (197, .invokevirtual 117, 3, [213, 4, 1, 12], .inl 0),
  (200, .ifCond .eq 74, 3, [274], .inl 0),
  (203, .aload_n 0, 1, [], .inl 0),
  (204, .iconst 2, 1, [], .inl (2)),
  (205, .putfield 131, 3, [12, 8, 0], .inl 0),
  (208, .aload_n 0, 1, [], .inl 0),
  (209, .aload_n 0, 1, [], .inl 0),
  (210, .getfield 114, 3, [12, 7, 0], .inl 0),
  (213, .bipush 48, 2, [], .inl (48)),
  (215, .bipush 57, 2, [], .inl (57)),
  (217, .invokevirtual 117, 3, [213, 4, 1, 12], .inl 0),
  (220, .ifCond .eq 87, 3, [307], .inl 0),
  (223, .aload_n 0, 1, [], .inl 0),
  (224, .aload_n 0, 1, [], .inl 0),
  (225, .getfield 124, 3, [12, 10, 0], .inl 0),
  (228, .ldc 140, 2, [], .inl (100000)),
  (230, .if_icmp .le 8, 3, [238], .inl 0),
  (233, .ldc 141, 2, [], .inl (1000000)),
  (235, .goto 23, 3, [258], .inl 0),
  (238, .bipush 10, 2, [], .inl (10)),
  (240, .aload_n 0, 1, [], .inl 0),
  (241, .getfield 124, 3, [12, 10, 0], .inl 0),
  (244, .imul, 1, [], .inl 0),
  (245, .aload_n 0, 1, [], .inl 0),
  (246, .getfield 23, 3, [12, 5, 358731, 0, 0], .inl 0),
  (249, .aload_n 0, 1, [], .inl 0),
  (250, .getfield 114, 3, [12, 7, 0], .inl 0),
  (253, .baload, 1, [], .inl 0),
  (254, .iadd, 1, [], .inl 0),
  (255, .bipush 48, 2, [], .inl (48)),
  (257, .isub, 1, [], .inl 0),
  (258, .putfield 124, 3, [12, 10, 0], .inl 0),
  (261, .aload_n 0, 1, [], .inl 0),
  (262, .dup, 1, [], .inl 0),
  (263, .getfield 114, 3, [12, 7, 0], .inl 0),
  (266, .iconst 1, 1, [], .inl (1)),
  (267, .iadd, 1, [], .inl 0),
  (268, .putfield 114, 3, [12, 7, 0], .inl 0),
  (271, .goto (-63), 3, [208], .inl 0),
  (274, .aload_n 0, 1, [], .inl 0),
  (275, .aload_n 0, 1, [], .inl 0),
  (276, .getfield 23, 3, [12, 5, 358731, 0, 0], .inl 0),
  (279, .aload_n 0, 1, [], .inl 0),
  (280, .getfield 114, 3, [12, 7, 0], .inl 0),
  (283, .baload, 1, [], .inl 0),
  (284, .bipush 59, 2, [], .inl (59)),
  (286, .if_icmp .ne 7, 3, [293], .inl 0),
  (289, .iconst 3, 1, [], .inl (3)),
  (290, .goto 4, 3, [294], .inl 0),
  (293, .iconst 4, 1, [], .inl (4)),
  (294, .putfield 131, 3, [12, 8, 0], .inl 0),
  (297, .aload_n 0, 1, [], .inl 0),
  (298, .dup, 1, [], .inl 0),
  (299, .getfield 114, 3, [12, 7, 0], .inl 0),
  (302, .iconst 1, 1, [], .inl (1)),
  (303, .iadd, 1, [], .inl 0),
  (304, .putfield 114, 3, [12, 7, 0], .inl 0),
  (307, .return_, 1, [], .inl 0)]
/-- M.isGood -/
def tb215 : List (Nat × Instr × Nat × List Nat × (Int32 ⊕ Int64)) := [(0, .aload_n 0, 1, [], .inl 0),
  (1, .getfield 142, 3, [12, 12, 0], .inl 0),
  (4, .ifCond .ne 7, 3, [11], .inl 0),
  (7, .iconst 1, 1, [], .inl (1)),
  (8, .goto 4, 3, [12], .inl 0),
  (11, .iconst 0, 1, [], .inl (0)),
  (12, .ireturn, 1, [1], .inl 0)]
/-- M.fails -/
def tb216 : List (Nat × Instr × Nat × List Nat × (Int32 ⊕ Int64)) := [(0, .aload_n 0, 1, [], .inl 0),
  (1, .getfield 142, 3, [12, 12, 0], .inl 0),
  (4, .ifCond .eq 4, 3, [8], .inl 0),
  (7, .return_, 1, [], .inl 0),
  (8, .aload_n 0, 1, [], .inl 0),
  (9, .iload_n 1, 1, [], .inl 0),
  (10, .putfield 142, 3, [12, 12, 0], .inl 0),
  (13, .aload_n 0, 1, [], .inl 0),
  (14, .aload_n 0, 1, [], .inl 0),
  (15, .getfield 121, 3, [12, 9, 0], .inl 0),
  (18, .putfield 145, 3, [12, 13, 0], .inl 0),
  (21, .return_, 1, [], .inl 0)]
/-- M.is -/
def tb217 : List (Nat × Instr × Nat × List Nat × (Int32 ⊕ Int64)) := [(0, .aload_n 0, 1, [], .inl 0),
  (1, .getfield 142, 3, [12, 12, 0], .inl 0),
  (4, .ifCond .ne 24, 3, [28], .inl 0),
  (7, .aload_n 0, 1, [], .inl 0),
  (8, .getfield 131, 3, [12, 8, 0], .inl 0),
  (11, .iconst 1, 1, [], .inl (1)),
  (12, .if_icmp .ne 16, 3, [28], .inl 0),
  (15, .aload_n 0, 1, [], .inl 0),
  (16, .getfield 127, 3, [12, 11, 1], .inl 0),
  (19, .lload_n 1, 1, [], .inl 0),
  (20, .lcmp, 1, [], .inl 0),
  (21, .ifCond .ne 7, 3, [28], .inl 0),
  (24, .iconst 1, 1, [], .inl (1)),
  (25, .goto 4, 3, [29], .inl 0),
  (28, .iconst 0, 1, [], .inl (0)),
  (29, .ireturn, 1, [1], .inl 0)]
/-- M.takes -/
def tb218 : List (Nat × Instr × Nat × List Nat × (Int32 ⊕ Int64)) := [(0, .aload_n 0, 1, [], .inl 0),
  (1, .lload_n 1, 1, [], .inl 0),
  (2, .invokevirtual 148, 3, [217, 2, 1, 12], .inl 0),
  (5, .ifCond .ne 5, 3, [10], .inl 0),
  (8, .iconst 0, 1, [], .inl (0)),
  (9, .ireturn, 1, [1], .inl 0),
  (10, .aload_n 0, 1, [], .inl 0),
  (11, .invokevirtual 152, 3, [214, 1, 0, 12], .inl 0),
  (14, .iconst 1, 1, [], .inl (1)),
  (15, .ireturn, 1, [1], .inl 0)]
/-- M.asks -/
def tb219 : List (Nat × Instr × Nat × List Nat × (Int32 ⊕ Int64)) := [(0, .aload_n 0, 1, [], .inl 0),
  (1, .lload_n 1, 1, [], .inl 0),
  (2, .invokevirtual 155, 3, [218, 2, 1, 12], .inl 0),
  (5, .ifCond .ne 8, 3, [13], .inl 0),
  (8, .aload_n 0, 1, [], .inl 0),
  (9, .iconst 1, 1, [], .inl (1)),
  (10, .invokevirtual 158, 3, [216, 2, 0, 12], .inl 0),
  (13, .return_, 1, [], .inl 0)]
/-- M.number -/
def tb220 : List (Nat × Instr × Nat × List Nat × (Int32 ⊕ Int64)) := [(0, .aload_n 0, 1, [], .inl 0),
  (1, .getfield 142, 3, [12, 12, 0], .inl 0),
  (4, .ifCond .eq 5, 3, [9], .inl 0),
  (7, .iload_n 1, 1, [], .inl 0),
  (8, .ireturn, 1, [], .inl 0),
  (9, .aload_n 0, 1, [], .inl 0),
  (10, .getfield 131, 3, [12, 8, 0], .inl 0),
  (13, .iconst 2, 1, [], .inl (2)),
  (14, .if_icmp .eq 10, 3, [24], .inl 0),
  (17, .aload_n 0, 1, [], .inl 0),
  (18, .iconst 1, 1, [], .inl (1)),
  (19, .invokevirtual 158, 3, [216, 2, 0, 12], .inl 0),
  (22, .iload_n 1, 1, [], .inl 0),
  (23, .ireturn, 1, [], .inl 0),
  (24, .aload_n 0, 1, [], .inl 0),
  (25, .getfield 124, 3, [12, 10, 0], .inl 0),
  (28, .i2l, 1, [], .inl 0),
  (29, .iload_n 1, 1, [], .inl 0),
  (30, .i2l, 1, [], .inl 0),
  (31, .iload_n 2, 1, [], .inl 0),
  (32, .i2l, 1, [], .inl 0),
  (33, .invokestatic 95, 3, [204, 3, 1], .inl 0),
  (36, .ifCond .ne 10, 3, [46], .inl 0),
  (39, .aload_n 0, 1, [], .inl 0),
  (40, .iconst 2, 1, [], .inl (2)),
  (41, .invokevirtual 158, 3, [216, 2, 0, 12], .inl 0),
  (44, .iload_n 1, 1, [], .inl 0),
  (45, .ireturn, 1, [], .inl 0),
  (46, .aload_n 0, 1, [], .inl 0),
  (47, .getfield 124, 3, [12, 10, 0], .inl 0),
  (50, .istore_n 3, 1, [], .inl 0),
  (51, .aload_n 0, 1, [], .inl 0),
  (52, .invokevirtual 152, 3, [214, 1, 0, 12], .inl 0),
  (55, .iload_n 3, 1, [], .inl 0),
  (56, .ireturn, 1, [], .inl 0)]
/-- M.number2 -/
def tb221 : List (Nat × Instr × Nat × List Nat × (Int32 ⊕ Int64)) := [(0, .aload_n 0, 1, [], .inl 0),
  (1, .lload_n 1, 1, [], .inl 0),
  (2, .invokevirtual 161, 3, [219, 2, 0, 12], .inl 0),
  (5, .aload_n 0, 1, [], .inl 0),
  (6, .iload_n 3, 1, [], .inl 0),
  (7, .iload 4, 2, [], .inl 0),
  (9, .invokevirtual 165, 3, [220, 3, 1, 12], .inl 0),
  (12, .ireturn, 1, [], .inl 0)]
/-- M.ends -/
def tb222 : List (Nat × Instr × Nat × List Nat × (Int32 ⊕ Int64)) := [(0, .aload_n 0, 1, [], .inl 0),
  (1, .getfield 131, 3, [12, 8, 0], .inl 0),
  (4, .iconst 3, 1, [], .inl (3)),
  (5, .if_icmp .eq 8, 3, [13], .inl 0),
  (8, .aload_n 0, 1, [], .inl 0),
  (9, .iconst 1, 1, [], .inl (1)),
  (10, .invokevirtual 158, 3, [216, 2, 0, 12], .inl 0),
  (13, .aload_n 0, 1, [], .inl 0),
  (14, .getfield 142, 3, [12, 12, 0], .inl 0),
  (17, .ifCond .ne 7, 3, [24], .inl 0),
  (20, .aload_n 0, 1, [], .inl 0),
  (21, .invokevirtual 152, 3, [214, 1, 0, 12], .inl 0),
  (24, .return_, 1, [], .inl 0)]
/-- M.begins -/
def tb223 : List (Nat × Instr × Nat × List Nat × (Int32 ⊕ Int64)) := [(0, .aload_n 0, 1, [], .inl 0),
  (1, .iconst 0, 1, [], .inl (0)),
  (2, .putfield 142, 3, [12, 12, 0], .inl 0),
  (5, .aload_n 0, 1, [], .inl 0),
  (6, .iconst (-1), 1, [], .inl (-1)),
  (7, .putfield 145, 3, [12, 13, 0], .inl 0),
  (10, .aload_n 0, 1, [], .inl 0),
  (11, .iconst 0, 1, [], .inl (0)),
  (12, .putfield 114, 3, [12, 7, 0], .inl 0),
  (15, .aload_n 0, 1, [], .inl 0),
  (16, .invokevirtual 152, 3, [214, 1, 0, 12], .inl 0),
  (19, .return_, 1, [], .inl 0)]
/-- M.isOver -/
def tb224 : List (Nat × Instr × Nat × List Nat × (Int32 ⊕ Int64)) := [(0, .aload_n 0, 1, [], .inl 0),
  (1, .iconst 0, 1, [], .inl (0)),
  (2, .putfield 107, 3, [12, 6, 0], .inl 0),
  (5, .aload_n 0, 1, [], .inl 0),
  (6, .aload_n 0, 1, [], .inl 0),
  (7, .getfield 142, 3, [12, 12, 0], .inl 0),
  (10, .putfield 169, 3, [12, 14, 0], .inl 0),
  (13, .aload_n 0, 1, [], .inl 0),
  (14, .aload_n 0, 1, [], .inl 0),
  (15, .getfield 142, 3, [12, 12, 0], .inl 0),
  (18, .ifCond .ne 7, 3, [25], .inl 0),
  (21, .iconst (-1), 1, [], .inl (-1)),
  (22, .goto 7, 3, [29], .inl 0),
  (25, .aload_n 0, 1, [], .inl 0),
  (26, .getfield 145, 3, [12, 13, 0], .inl 0),
  (29, .putfield 27, 3, [12, 15, 0], .inl 0),
  (32, .return_, 1, [], .inl 0)]
/-- M.fault -/
def tb225 : List (Nat × Instr × Nat × List Nat × (Int32 ⊕ Int64)) := [(0, .aload_n 0, 1, [], .inl 0),
  (1, .iconst 0, 1, [], .inl (0)),
  (2, .putfield 90, 3, [12, 0, 0], .inl 0),
  (5, .iload_n 1, 1, [], .inl 0),
  (6, .ifCond .ne 10, 3, [16], .inl 0),
  (9, .aload_n 0, 1, [], .inl 0),
  (10, .getfield 169, 3, [12, 14, 0], .inl 0),
  (13, .goto 16, 3, [29], .inl 0),
  (16, .iload_n 1, 1, [], .inl 0),
  (17, .iconst 1, 1, [], .inl (1)),
  (18, .if_icmp .ne 10, 3, [28], .inl 0),
  (21, .aload_n 0, 1, [], .inl 0),
  (22, .getfield 27, 3, [12, 15, 0], .inl 0),
  (25, .goto 4, 3, [29], .inl 0),
  (28, .iconst (-1), 1, [], .inl (-1)),
  (29, .ireturn, 1, [], .inl 0)]
/-- M.hasRead -/
def tb226 : List (Nat × Instr × Nat × List Nat × (Int32 ⊕ Int64)) := [(0, .aload_n 0, 1, [], .inl 0),
  (1, .getfield 34, 3, [12, 17, 23385, 0, 0], .inl 0),
  (4, .bipush 36, 2, [], .inl (36)),
  (6, .iload_n 1, 1, [], .inl 0),
  (7, .iadd, 1, [], .inl 0),
  (8, .iaload, 1, [], .inl 0),
  (9, .ireturn, 1, [], .inl 0)]
/-- M.tells -/
def tb227 : List (Nat × Instr × Nat × List Nat × (Int32 ⊕ Int64)) := [(0, .aload_n 0, 1, [], .inl 0),
  (1, .getfield 34, 3, [12, 17, 23385, 0, 0], .inl 0),
  (4, .bipush 36, 2, [], .inl (36)),
  (6, .iload_n 1, 1, [], .inl 0),
  (7, .iadd, 1, [], .inl 0),
  (8, .iload_n 2, 1, [], .inl 0),
  (9, .iastore, 1, [], .inl 0),
  (10, .return_, 1, [], .inl 0)]
/-- M.isTaken -/
def tb228 : List (Nat × Instr × Nat × List Nat × (Int32 ⊕ Int64)) := [(0, .iconst 0, 1, [], .inl (0)),
  (1, .istore 6, 2, [], .inl 0),
  (3, .iload 6, 2, [], .inl 0),
  (5, .iload_n 3, 1, [], .inl 0),
  (6, .if_icmp .ge 39, 3, [45], .inl 0),
  (9, .aload_n 1, 1, [], .inl 0),
  (10, .iconst 2, 1, [], .inl (2)),
  (11, .iload_n 2, 1, [], .inl 0),
  (12, .iload 6, 2, [], .inl 0),
  (14, .iadd, 1, [], .inl 0),
  (15, .imul, 1, [], .inl 0),
  (16, .iaload, 1, [], .inl 0),
  (17, .iload 4, 2, [], .inl 0),
  (19, .if_icmp .ne 20, 3, [39], .inl 0),
  (22, .aload_n 1, 1, [], .inl 0),
  (23, .iconst 2, 1, [], .inl (2)),
  (24, .iload_n 2, 1, [], .inl 0),
  (25, .iload 6, 2, [], .inl 0),
  (27, .iadd, 1, [], .inl 0),
  (28, .imul, 1, [], .inl 0),
  (29, .iconst 1, 1, [], .inl (1)),
  (30, .iadd, 1, [], .inl 0),
  (31, .iaload, 1, [], .inl 0),
  (32, .iload 5, 2, [], .inl 0),
  (34, .if_icmp .ne 5, 3, [39], .inl 0),
  (37, .iconst 1, 1, [], .inl (1)),
  (38, .ireturn, 1, [1], .inl 0),
  (39, .iinc 6 1, 3, [], .inl (1)),
  (42, .goto (-39), 3, [3], .inl 0),
  (45, .iconst 0, 1, [], .inl (0)),
  (46, .ireturn, 1, [1], .inl 0)]
/-- M.pointHere -/
def tb229 : List (Nat × Instr × Nat × List Nat × (Int32 ⊕ Int64)) := [(0, .aload_n 0, 1, [], .inl 0),
  (1, .iconst 0, 1, [], .inl (0)),
  (2, .bipush 30, 2, [], .inl (30)),
  (4, .invokevirtual 165, 3, [220, 3, 1, 12], .inl 0),
  (7, .istore_n 3, 1, [], .inl 0),
  (8, .aload_n 0, 1, [], .inl 0),
  (9, .getfield 142, 3, [12, 12, 0], .inl 0),
  (12, .ifCond .ne 30, 3, [42], .inl 0),
  (15, .aload_n 0, 1, [], .inl 0),
  (16, .getfield 131, 3, [12, 8, 0], .inl 0),
  (19, .iconst 2, 1, [], .inl (2)),
  (20, .if_icmp .ne 22, 3, [42], .inl 0),
  (23, .aload_n 0, 1, [], .inl 0),
  (24, .getfield 124, 3, [12, 10, 0], .inl 0),
  (27, .i2l, 1, [], .inl 0),
  (28, .lconst 0, 1, [], .inr (0)),
  (29, .ldc2_w 172, 3, [], .inr (30)),
  (32, .invokestatic 95, 3, [204, 3, 1], .inl 0),
  (35, .ifCond .eq 7, 3, [42], .inl 0),
  (38, .iconst 1, 1, [], .inl (1)),
  (39, .goto 4, 3, [43], .inl 0),
  (42, .iconst 0, 1, [], .inl (0)),
  (43, .istore 4, 2, [], .inl 0),
  (45, .iload 4, 2, [], .inl 0),
  (47, .ifCond .eq 77, 3, [124], .inl 0),
  (50, .aload_n 0, 1, [], .inl 0),
  (51, .aload_n 0, 1, [], .inl 0),
  (52, .getfield 37, 3, [12, 18, 31073, 0, 0], .inl 0),
  (55, .bipush 24, 2, [], .inl (24)),
  (57, .aload_n 0, 1, [], .inl 0),
  (58, .iconst 3, 1, [], .inl (3)),
  (59, .invokevirtual 174, 3, [226, 2, 1, 12], .inl 0),
  (62, .iload_n 3, 1, [], .inl 0),
  (63, .aload_n 0, 1, [], .inl 0),
  (64, .getfield 124, 3, [12, 10, 0], .inl 0),
  (67, .invokevirtual 178, 3, [228, 6, 1, 12], .inl 0),
  (70, .ifCond .ne 49, 3, [119], .inl 0),
  (73, .aload_n 0, 1, [], .inl 0),
  (74, .aload_n 0, 1, [], .inl 0),
  (75, .getfield 40, 3, [12, 19, 36201, 0, 0], .inl 0),
  (78, .bipush 28, 2, [], .inl (28)),
  (80, .aload_n 0, 1, [], .inl 0),
  (81, .iconst 4, 1, [], .inl (4)),
  (82, .invokevirtual 174, 3, [226, 2, 1, 12], .inl 0),
  (85, .iload_n 3, 1, [], .inl 0),
  (86, .aload_n 0, 1, [], .inl 0),
  (87, .getfield 124, 3, [12, 10, 0], .inl 0),
  (90, .invokevirtual 178, 3, [228, 6, 1, 12], .inl 0),
  (93, .ifCond .ne 26, 3, [119], .inl 0),
  (96, .aload_n 0, 1, [], .inl 0),
  (97, .aload_n 0, 1, [], .inl 0),
  (98, .getfield 46, 3, [12, 21, 31097, 0, 0], .inl 0),
  (101, .bipush 24, 2, [], .inl (24)),
  (103, .aload_n 0, 1, [], .inl 0),
  (104, .iconst 5, 1, [], .inl (5)),
  (105, .invokevirtual 174, 3, [226, 2, 1, 12], .inl 0),
  (108, .iload_n 3, 1, [], .inl 0),
  (109, .aload_n 0, 1, [], .inl 0),
  (110, .getfield 124, 3, [12, 10, 0], .inl 0),
  (113, .invokevirtual 178, 3, [228, 6, 1, 12], .inl 0),
  (116, .ifCond .eq 8, 3, [124], .inl 0),
  (119, .aload_n 0, 1, [], .inl 0),
  (120, .iconst 2, 1, [], .inl (2)),
  (121, .invokevirtual 158, 3, [216, 2, 0, 12], .inl 0),
  (124, .aload_n 1, 1, [], .inl 0),
  (125, .iconst 2, 1, [], .inl (2)),
  (126, .iload_n 2, 1, [], .inl 0),
  (127, .imul, 1, [], .inl 0),
  (128, .iload_n 3, 1, [], .inl 0),
  (129, .iastore, 1, [], .inl 0),
  (130, .aload_n 1, 1, [], .inl 0),
  (131, .iconst 2, 1, [], .inl (2)),
  (132, .iload_n 2, 1, [], .inl 0),
  (133, .imul, 1, [], .inl 0),
  (134, .iconst 1, 1, [], .inl (1)),
  (135, .iadd, 1, [], .inl 0),
  (136, .aload_n 0, 1, [], .inl 0),
  (137, .iconst 0, 1, [], .inl (0)),
  (138, .bipush 30, 2, [], .inl (30)),
  (140, .invokevirtual 165, 3, [220, 3, 1, 12], .inl 0),
  (143, .iastore, 1, [], .inl 0),
  (144, .return_, 1, [], .inl 0)]
/-- M.placeHere -/
def tb230 : List (Nat × Instr × Nat × List Nat × (Int32 ⊕ Int64)) := [(0, .aload_n 0, 1, [], .inl 0),
  (1, .iconst 0, 1, [], .inl (0)),
  (2, .aload_n 0, 1, [], .inl 0),
  (3, .iconst 3, 1, [], .inl (3)),
  (4, .invokevirtual 174, 3, [226, 2, 1, 12], .inl 0),
  (7, .iconst 1, 1, [], .inl (1)),
  (8, .isub, 1, [], .inl 0),
  (9, .invokevirtual 165, 3, [220, 3, 1, 12], .inl 0),
  (12, .ireturn, 1, [], .inl 0)]
/-- M.wayLine -/
def tb231 : List (Nat × Instr × Nat × List Nat × (Int32 ⊕ Int64)) := [(0, .iconst 2, 1, [], .inl (2)),
  (1, .bipush 40, 2, [], .inl (40)),
  (3, .aload_n 0, 1, [], .inl 0),
  (4, .bipush 6, 2, [], .inl (6)),
  (6, .invokevirtual 174, 3, [226, 2, 1, 12], .inl 0),
  (9, .iadd, 1, [], .inl 0),
  (10, .imul, 1, [], .inl 0),
  (11, .istore_n 1, 1, [], .inl 0),
  (12, .aload_n 0, 1, [], .inl 0),
  (13, .getfield 49, 3, [12, 22, 51585, 0, 0], .inl 0),
  (16, .iload_n 1, 1, [], .inl 0),
  (17, .aload_n 0, 1, [], .inl 0),
  (18, .invokevirtual 182, 3, [230, 1, 1, 12], .inl 0),
  (21, .iastore, 1, [], .inl 0),
  (22, .aload_n 0, 1, [], .inl 0),
  (23, .getfield 142, 3, [12, 12, 0], .inl 0),
  (26, .ifCond .ne 29, 3, [55], .inl 0),
  (29, .aload_n 0, 1, [], .inl 0),
  (30, .getfield 131, 3, [12, 8, 0], .inl 0),
  (33, .iconst 2, 1, [], .inl (2)),
  (34, .if_icmp .ne 21, 3, [55], .inl 0),
  (37, .aload_n 0, 1, [], .inl 0),
  (38, .getfield 124, 3, [12, 10, 0], .inl 0),
  (41, .aload_n 0, 1, [], .inl 0),
  (42, .getfield 49, 3, [12, 22, 51585, 0, 0], .inl 0),
  (45, .iload_n 1, 1, [], .inl 0),
  (46, .iaload, 1, [], .inl 0),
  (47, .if_icmp .ne 8, 3, [55], .inl 0),
  (50, .aload_n 0, 1, [], .inl 0),
  (51, .iconst 2, 1, [], .inl (2)),
  (52, .invokevirtual 158, 3, [216, 2, 0, 12], .inl 0),
  (55, .aload_n 0, 1, [], .inl 0),
  (56, .getfield 49, 3, [12, 22, 51585, 0, 0], .inl 0),
  (59, .iload_n 1, 1, [], .inl 0),
  (60, .iconst 1, 1, [], .inl (1)),
  (61, .iadd, 1, [], .inl 0),
  (62, .aload_n 0, 1, [], .inl 0),
  (63, .invokevirtual 182, 3, [230, 1, 1, 12], .inl 0),
  (66, .iastore, 1, [], .inl 0),
  (67, .aload_n 0, 1, [], .inl 0),
  (68, .bipush 6, 2, [], .inl (6)),
  (70, .aload_n 0, 1, [], .inl 0),
  (71, .bipush 6, 2, [], .inl (6)),
  (73, .invokevirtual 174, 3, [226, 2, 1, 12], .inl 0),
  (76, .iconst 1, 1, [], .inl (1)),
  (77, .iadd, 1, [], .inl 0),
  (78, .invokevirtual 186, 3, [227, 3, 0, 12], .inl 0),
  (81, .return_, 1, [], .inl 0)]
/-- M.lookerLine -/
def tb232 : List (Nat × Instr × Nat × List Nat × (Int32 ⊕ Int64)) := [(0, .iconst 2, 1, [], .inl (2)),
  (1, .bipush 24, 2, [], .inl (24)),
  (3, .aload_n 0, 1, [], .inl 0),
  (4, .bipush 7, 2, [], .inl (7)),
  (6, .invokevirtual 174, 3, [226, 2, 1, 12], .inl 0),
  (9, .iadd, 1, [], .inl 0),
  (10, .imul, 1, [], .inl 0),
  (11, .istore_n 1, 1, [], .inl 0),
  (12, .aload_n 0, 1, [], .inl 0),
  (13, .ldc2_w 190, 3, [], .inr (47)),
  (16, .invokevirtual 161, 3, [219, 2, 0, 12], .inl 0),
  (19, .iconst 0, 1, [], .inl (0)),
  (20, .istore_n 2, 1, [], .inl 0),
  (21, .iload_n 2, 1, [], .inl 0),
  (22, .aload_n 0, 1, [], .inl 0),
  (23, .bipush 7, 2, [], .inl (7)),
  (25, .invokevirtual 174, 3, [226, 2, 1, 12], .inl 0),
  (28, .if_icmp .ge 47, 3, [75], .inl 0),
  (31, .aload_n 0, 1, [], .inl 0),
  (32, .getfield 142, 3, [12, 12, 0], .inl 0),
  (35, .ifCond .ne 34, 3, [69], .inl 0),
  (38, .aload_n 0, 1, [], .inl 0),
  (39, .getfield 131, 3, [12, 8, 0], .inl 0),
  (42, .iconst 2, 1, [], .inl (2)),
  (43, .if_icmp .ne 26, 3, [69], .inl 0),
  (46, .aload_n 0, 1, [], .inl 0),
  (47, .getfield 124, 3, [12, 10, 0], .inl 0),
  (50, .aload_n 0, 1, [], .inl 0),
  (51, .getfield 52, 3, [12, 23, 31113, 0, 0], .inl 0),
  (54, .iconst 2, 1, [], .inl (2)),
  (55, .bipush 24, 2, [], .inl (24)),
  (57, .iload_n 2, 1, [], .inl 0),
  (58, .iadd, 1, [], .inl 0),
  (59, .imul, 1, [], .inl 0),
  (60, .iaload, 1, [], .inl 0),
  (61, .if_icmp .ne 8, 3, [69], .inl 0),
  (64, .aload_n 0, 1, [], .inl 0),
  (65, .iconst 2, 1, [], .inl (2)),
  (66, .invokevirtual 158, 3, [216, 2, 0, 12], .inl 0),
  (69, .iinc 2 1, 3, [], .inl (1)),
  (72, .goto (-51), 3, [21], .inl 0),
  (75, .aload_n 0, 1, [], .inl 0),
  (76, .getfield 52, 3, [12, 23, 31113, 0, 0], .inl 0),
  (79, .iload_n 1, 1, [], .inl 0),
  (80, .aload_n 0, 1, [], .inl 0),
  (81, .invokevirtual 182, 3, [230, 1, 1, 12], .inl 0),
  (84, .iastore, 1, [], .inl 0),
  (85, .aload_n 0, 1, [], .inl 0),
  (86, .getfield 52, 3, [12, 23, 31113, 0, 0], .inl 0),
  (89, .iload_n 1, 1, [], .inl 0),
  (90, .iconst 1, 1, [], .inl (1)),
  (91, .iadd, 1, [], .inl 0),
  (92, .aload_n 0, 1, [], .inl 0),
  (93, .ldc2_w 192, 3, [], .inr (4558591)),
  (96, .iconst 0, 1, [], .inl (0)),
  (97, .aload_n 0, 1, [], .inl 0),
  (98, .iconst 4, 1, [], .inl (4)),
  (99, .invokevirtual 174, 3, [226, 2, 1, 12], .inl 0),
  (102, .iconst 1, 1, [], .inl (1)),
  (103, .isub, 1, [], .inl 0),
  (104, .invokevirtual 194, 3, [221, 4, 1, 12], .inl 0),
  (107, .iastore, 1, [], .inl 0),
  (108, .aload_n 0, 1, [], .inl 0),
  (109, .bipush 7, 2, [], .inl (7)),
  (111, .aload_n 0, 1, [], .inl 0),
  (112, .bipush 7, 2, [], .inl (7)),
  (114, .invokevirtual 174, 3, [226, 2, 1, 12], .inl 0),
  (117, .iconst 1, 1, [], .inl (1)),
  (118, .iadd, 1, [], .inl 0),
  (119, .invokevirtual 186, 3, [227, 3, 0, 12], .inl 0),
  (122, .return_, 1, [], .inl 0)]
/-- M.isRoom -/
def tb233 : List (Nat × Instr × Nat × List Nat × (Int32 ⊕ Int64)) := [(0, .iload_n 1, 1, [], .inl 0),
  (1, .ifCond .eq 17, 3, [18], .inl 0),
  (4, .aload_n 0, 1, [], .inl 0),
  (5, .iload_n 2, 1, [], .inl 0),
  (6, .invokevirtual 174, 3, [226, 2, 1, 12], .inl 0),
  (9, .iload_n 3, 1, [], .inl 0),
  (10, .if_icmp .ne 8, 3, [18], .inl 0),
  (13, .aload_n 0, 1, [], .inl 0),
  (14, .iconst 3, 1, [], .inl (3)),
  (15, .invokevirtual 158, 3, [216, 2, 0, 12], .inl 0),
  (18, .iload_n 1, 1, [], .inl 0),
  (19, .ifCond .eq 14, 3, [33], .inl 0),
  (22, .aload_n 0, 1, [], .inl 0),
  (23, .getfield 142, 3, [12, 12, 0], .inl 0),
  (26, .ifCond .ne 7, 3, [33], .inl 0),
  (29, .aload_n 0, 1, [], .inl 0),
  (30, .invokevirtual 152, 3, [214, 1, 0, 12], .inl 0),
  (33, .iload_n 1, 1, [], .inl 0),
  (34, .ifCond .eq 14, 3, [48], .inl 0),
  (37, .aload_n 0, 1, [], .inl 0),
  (38, .getfield 142, 3, [12, 12, 0], .inl 0),
  (41, .ifCond .ne 7, 3, [48], .inl 0),
  (44, .iconst 1, 1, [], .inl (1)),
  (45, .goto 4, 3, [49], .inl 0),
  (48, .iconst 0, 1, [], .inl (0)),
  (49, .ireturn, 1, [1], .inl 0)]
/-- M.lineHere -/
def tb234 : List (Nat × Instr × Nat × List Nat × (Int32 ⊕ Int64)) := [(0, .aload_n 0, 1, [], .inl 0),
  (1, .aload_n 0, 1, [], .inl 0),
  (2, .ldc2_w 197, 3, [], .inr (8740067)),
  (5, .invokevirtual 148, 3, [217, 2, 1, 12], .inl 0),
  (8, .iconst 3, 1, [], .inl (3)),
  (9, .bipush 6, 2, [], .inl (6)),
  (11, .invokevirtual 199, 3, [233, 4, 1, 12], .inl 0),
  (14, .ifCond .eq 34, 3, [48], .inl 0),
  (17, .aload_n 0, 1, [], .inl 0),
  (18, .aload_n 0, 1, [], .inl 0),
  (19, .getfield 37, 3, [12, 18, 31073, 0, 0], .inl 0),
  (22, .bipush 24, 2, [], .inl (24)),
  (24, .aload_n 0, 1, [], .inl 0),
  (25, .iconst 3, 1, [], .inl (3)),
  (26, .invokevirtual 174, 3, [226, 2, 1, 12], .inl 0),
  (29, .iadd, 1, [], .inl 0),
  (30, .invokevirtual 203, 3, [229, 3, 0, 12], .inl 0),
  (33, .aload_n 0, 1, [], .inl 0),
  (34, .iconst 3, 1, [], .inl (3)),
  (35, .aload_n 0, 1, [], .inl 0),
  (36, .iconst 3, 1, [], .inl (3)),
  (37, .invokevirtual 174, 3, [226, 2, 1, 12], .inl 0),
  (40, .iconst 1, 1, [], .inl (1)),
  (41, .iadd, 1, [], .inl 0),
  (42, .invokevirtual 186, 3, [227, 3, 0, 12], .inl 0),
  (45, .goto 207, 3, [252], .inl 0),
  (48, .aload_n 0, 1, [], .inl 0),
  (49, .getfield 142, 3, [12, 12, 0], .inl 0),
  (52, .ifCond .ne 69, 3, [121], .inl 0),
  (55, .aload_n 0, 1, [], .inl 0),
  (56, .aload_n 0, 1, [], .inl 0),
  (57, .ldc2_w 207, 3, [], .inr (257105)),
  (60, .invokevirtual 148, 3, [217, 2, 1, 12], .inl 0),
  (63, .iconst 4, 1, [], .inl (4)),
  (64, .bipush 7, 2, [], .inl (7)),
  (66, .invokevirtual 199, 3, [233, 4, 1, 12], .inl 0),
  (69, .ifCond .eq 52, 3, [121], .inl 0),
  (72, .bipush 28, 2, [], .inl (28)),
  (74, .aload_n 0, 1, [], .inl 0),
  (75, .iconst 4, 1, [], .inl (4)),
  (76, .invokevirtual 174, 3, [226, 2, 1, 12], .inl 0),
  (79, .iadd, 1, [], .inl 0),
  (80, .istore_n 1, 1, [], .inl 0),
  (81, .aload_n 0, 1, [], .inl 0),
  (82, .aload_n 0, 1, [], .inl 0),
  (83, .getfield 40, 3, [12, 19, 36201, 0, 0], .inl 0),
  (86, .iload_n 1, 1, [], .inl 0),
  (87, .invokevirtual 203, 3, [229, 3, 0, 12], .inl 0),
  (90, .aload_n 0, 1, [], .inl 0),
  (91, .getfield 43, 3, [12, 20, 18289, 0, 0], .inl 0),
  (94, .iload_n 1, 1, [], .inl 0),
  (95, .aload_n 0, 1, [], .inl 0),
  (96, .ldc2_w 209, 3, [], .inr (12532058)),
  (99, .iconst 0, 1, [], .inl (0)),
  (100, .bipush 99, 2, [], .inl (99)),
  (102, .invokevirtual 194, 3, [221, 4, 1, 12], .inl 0),
  (105, .iastore, 1, [], .inl 0),
  (106, .aload_n 0, 1, [], .inl 0),
  (107, .iconst 4, 1, [], .inl (4)),
  (108, .aload_n 0, 1, [], .inl 0),
  (109, .iconst 4, 1, [], .inl (4)),
  (110, .invokevirtual 174, 3, [226, 2, 1, 12], .inl 0),
  (113, .iconst 1, 1, [], .inl (1)),
  (114, .iadd, 1, [], .inl 0),
  (115, .invokevirtual 186, 3, [227, 3, 0, 12], .inl 0),
  (118, .goto 134, 3, [252], .inl 0),
  (121, .aload_n 0, 1, [], .inl 0),
  (122, .getfield 142, 3, [12, 12, 0], .inl 0),
  (125, .ifCond .ne 51, 3, [176], .inl 0),
  (128, .aload_n 0, 1, [], .inl 0),
  (129, .aload_n 0, 1, [], .inl 0),
  (130, .ldc2_w 211, 3, [], .inr (127418)),
  (133, .invokevirtual 148, 3, [217, 2, 1, 12], .inl 0),
  (136, .iconst 5, 1, [], .inl (5)),
  (137, .bipush 6, 2, [], .inl (6)),
  (139, .invokevirtual 199, 3, [233, 4, 1, 12], .inl 0),
  (142, .ifCond .eq 34, 3, [176], .inl 0),
  (145, .aload_n 0, 1, [], .inl 0),
  (146, .aload_n 0, 1, [], .inl 0),
  (147, .getfield 46, 3, [12, 21, 31097, 0, 0], .inl 0),
  (150, .bipush 24, 2, [], .inl (24)),
  (152, .aload_n 0, 1, [], .inl 0),
  (153, .iconst 5, 1, [], .inl (5)),
  (154, .invokevirtual 174, 3, [226, 2, 1, 12], .inl 0),
  (157, .iadd, 1, [], .inl 0),
  (158, .invokevirtual 203, 3, [229, 3, 0, 12], .inl 0),
  (161, .aload_n 0, 1, [], .inl 0),
  (162, .iconst 5, 1, [], .inl (5)),
  (163, .aload_n 0, 1, [], .inl 0),
  (164, .iconst 5, 1, [], .inl (5)),
  (165, .invokevirtual 174, 3, [226, 2, 1, 12], .inl 0),
  (168, .iconst 1, 1, [], .inl (1)),
  (169, .iadd, 1, [], .inl 0),
  (170, .invokevirtual 186, 3, [227, 3, 0, 12], .inl 0),
  (173, .goto 79, 3, [252], .inl 0),
  (176, .aload_n 0, 1, [], .inl 0),
  (177, .getfield 142, 3, [12, 12, 0], .inl 0),
  (180, .ifCond .ne 28, 3, [208], .inl 0),
  (183, .aload_n 0, 1, [], .inl 0),
  (184, .aload_n 0, 1, [], .inl 0),
  (185, .ldc2_w 213, 3, [], .inr (16819)),
  (188, .invokevirtual 148, 3, [217, 2, 1, 12], .inl 0),
  (191, .bipush 6, 2, [], .inl (6)),
  (193, .bipush 10, 2, [], .inl (10)),
  (195, .invokevirtual 199, 3, [233, 4, 1, 12], .inl 0),
  (198, .ifCond .eq 10, 3, [208], .inl 0),
  (201, .aload_n 0, 1, [], .inl 0),
  (202, .invokevirtual 215, 3, [231, 1, 0, 12], .inl 0),
  (205, .goto 47, 3, [252], .inl 0),
  (208, .aload_n 0, 1, [], .inl 0),
  (209, .getfield 142, 3, [12, 12, 0], .inl 0),
  (212, .ifCond .ne 28, 3, [240], .inl 0),
  (215, .aload_n 0, 1, [], .inl 0),
  (216, .aload_n 0, 1, [], .inl 0),
  (217, .ldc2_w 218, 3, [], .inr (180461916)),
  (220, .invokevirtual 148, 3, [217, 2, 1, 12], .inl 0),
  (223, .bipush 7, 2, [], .inl (7)),
  (225, .bipush 6, 2, [], .inl (6)),
  (227, .invokevirtual 199, 3, [233, 4, 1, 12], .inl 0),
  (230, .ifCond .eq 10, 3, [240], .inl 0),
  (233, .aload_n 0, 1, [], .inl 0),
  (234, .invokevirtual 220, 3, [232, 1, 0, 12], .inl 0),
  (237, .goto 15, 3, [252], .inl 0),
  (240, .aload_n 0, 1, [], .inl 0),
  (241, .getfield 142, 3, [12, 12, 0], .inl 0),
  (244, .ifCond .ne 8, 3, [252], .inl 0),
  (247, .aload_n 0, 1, [], .inl 0),
  (248, .iconst 1, 1, [], .inl (1)),
  (249, .invokevirtual 158, 3, [216, 2, 0, 12], .inl 0),
  (252, .return_, 1, [], .inl 0)]
/-- M.clears -/
def tb235 : List (Nat × Instr × Nat × List Nat × (Int32 ⊕ Int64)) := [(0, .aload_n 0, 1, [], .inl 0),
  (1, .getfield 31, 3, [12, 16, 2897, 0, 0], .inl 0),
  (4, .iconst 4, 1, [], .inl (4)),
  (5, .iconst 0, 1, [], .inl (0)),
  (6, .iastore, 1, [], .inl 0),
  (7, .iconst 0, 1, [], .inl (0)),
  (8, .istore_n 1, 1, [], .inl 0),
  (9, .iload_n 1, 1, [], .inl 0),
  (10, .bipush 9, 2, [], .inl (9)),
  (12, .if_icmp .ge 15, 3, [27], .inl 0),
  (15, .aload_n 0, 1, [], .inl 0),
  (16, .iload_n 1, 1, [], .inl 0),
  (17, .iconst 0, 1, [], .inl (0)),
  (18, .invokevirtual 186, 3, [227, 3, 0, 12], .inl 0),
  (21, .iinc 1 1, 3, [], .inl (1)),
  (24, .goto (-15), 3, [9], .inl 0),
  (27, .return_, 1, [], .inl 0)]
/-- M.roof -/
def tb236 : List (Nat × Instr × Nat × List Nat × (Int32 ⊕ Int64)) := [(0, .aload_n 0, 1, [], .inl 0),
  (1, .iconst 0, 1, [], .inl (0)),
  (2, .putfield 90, 3, [12, 0, 0], .inl 0),
  (5, .aload_n 0, 1, [], .inl 0),
  (6, .invokevirtual 223, 3, [235, 1, 0, 12], .inl 0),
  (9, .aload_n 0, 1, [], .inl 0),
  (10, .invokevirtual 226, 3, [223, 1, 0, 12], .inl 0),
  (13, .aload_n 0, 1, [], .inl 0),
  (14, .invokevirtual 229, 3, [215, 1, 1, 12], .inl 0),
  (17, .ifCond .eq 101, 3, [118], .inl 0),
  (20, .aload_n 0, 1, [], .inl 0),
  (21, .getfield 131, 3, [12, 8, 0], .inl 0),
  (24, .ifCond .eq 94, 3, [118], .inl 0),
  (27, .aload_n 0, 1, [], .inl 0),
  (28, .getfield 31, 3, [12, 16, 2897, 0, 0], .inl 0),
  (31, .iconst 4, 1, [], .inl (4)),
  (32, .iaload, 1, [], .inl 0),
  (33, .ifCond .ne 57, 3, [90], .inl 0),
  (36, .aload_n 0, 1, [], .inl 0),
  (37, .ldc2_w 233, 3, [], .inr (365640)),
  (40, .invokevirtual 161, 3, [219, 2, 0, 12], .inl 0),
  (43, .aload_n 0, 1, [], .inl 0),
  (44, .iconst 0, 1, [], .inl (0)),
  (45, .aload_n 0, 1, [], .inl 0),
  (46, .ldc2_w 235, 3, [], .inr (13385674)),
  (49, .iconst 1, 1, [], .inl (1)),
  (50, .bipush 12, 2, [], .inl (12)),
  (52, .invokevirtual 194, 3, [221, 4, 1, 12], .inl 0),
  (55, .invokevirtual 186, 3, [227, 3, 0, 12], .inl 0),
  (58, .aload_n 0, 1, [], .inl 0),
  (59, .iconst 1, 1, [], .inl (1)),
  (60, .aload_n 0, 1, [], .inl 0),
  (61, .ldc2_w 237, 3, [], .inr (8798)),
  (64, .iconst 0, 1, [], .inl (0)),
  (65, .iconst 3, 1, [], .inl (3)),
  (66, .invokevirtual 194, 3, [221, 4, 1, 12], .inl 0),
  (69, .invokevirtual 186, 3, [227, 3, 0, 12], .inl 0),
  (72, .aload_n 0, 1, [], .inl 0),
  (73, .iconst 2, 1, [], .inl (2)),
  (74, .aload_n 0, 1, [], .inl 0),
  (75, .ldc2_w 239, 3, [], .inr (298288)),
  (78, .iconst 0, 1, [], .inl (0)),
  (79, .bipush 10, 2, [], .inl (10)),
  (81, .invokevirtual 194, 3, [221, 4, 1, 12], .inl 0),
  (84, .invokevirtual 186, 3, [227, 3, 0, 12], .inl 0),
  (87, .goto 7, 3, [94], .inl 0),
  (90, .aload_n 0, 1, [], .inl 0),
  (91, .invokevirtual 241, 3, [234, 1, 0, 12], .inl 0),
  (94, .aload_n 0, 1, [], .inl 0),
  (95, .invokevirtual 229, 3, [215, 1, 1, 12], .inl 0),
  (98, .ifCond .eq 7, 3, [105], .inl 0),
  (101, .aload_n 0, 1, [], .inl 0),
  (102, .invokevirtual 244, 3, [222, 1, 0, 12], .inl 0),
  (105, .aload_n 0, 1, [], .inl 0),
  (106, .getfield 31, 3, [12, 16, 2897, 0, 0], .inl 0),
  (109, .iconst 4, 1, [], .inl (4)),
  (110, .dup2, 1, [], .inl 0),
  (111, .iaload, 1, [], .inl 0),
  (112, .iconst 1, 1, [], .inl (1)),
  (113, .iadd, 1, [], .inl 0),
  (114, .iastore, 1, [], .inl 0),
  (115, .goto (-102), 3, [13], .inl 0),
  (118, .aload_n 0, 1, [], .inl 0),
  (119, .invokevirtual 247, 3, [224, 1, 0, 12], .inl 0),
  (122, .aload_n 0, 1, [], .inl 0),
  (123, .getfield 142, 3, [12, 12, 0], .inl 0),
  (126, .ifCond .eq 6, 3, [132], .inl 0),
  (129, .bipush (-4), 2, [], .inl (-4)),
  (131, .ireturn, 1, [], .inl 0),
  (132, .aload_n 0, 1, [], .inl 0),
  (133, .iconst 4, 1, [], .inl (4)),
  (134, .iconst 0, 1, [], .inl (0)),
  (135, .invokevirtual 250, 3, [238, 3, 0, 12], .inl 0),
  (138, .aload_n 0, 1, [], .inl 0),
  (139, .getfield 31, 3, [12, 16, 2897, 0, 0], .inl 0),
  (142, .iconst 0, 1, [], .inl (0)),
  (143, .iaload, 1, [], .inl 0),
  (144, .ireturn, 1, [], .inl 0)]
/-- M.copyRow -/
def tb237 : List (Nat × Instr × Nat × List Nat × (Int32 ⊕ Int64)) := [(0, .iconst 0, 1, [], .inl (0)),
  (1, .istore 4, 2, [], .inl 0),
  (3, .iload 4, 2, [], .inl 0),
  (5, .iload_n 1, 1, [], .inl 0),
  (6, .if_icmp .ge 25, 3, [31], .inl 0),
  (9, .aload_n 0, 1, [], .inl 0),
  (10, .iload_n 1, 1, [], .inl 0),
  (11, .iload_n 3, 1, [], .inl 0),
  (12, .imul, 1, [], .inl 0),
  (13, .iload 4, 2, [], .inl 0),
  (15, .iadd, 1, [], .inl 0),
  (16, .aload_n 0, 1, [], .inl 0),
  (17, .iload_n 1, 1, [], .inl 0),
  (18, .iload_n 2, 1, [], .inl 0),
  (19, .imul, 1, [], .inl 0),
  (20, .iload 4, 2, [], .inl 0),
  (22, .iadd, 1, [], .inl 0),
  (23, .iaload, 1, [], .inl 0),
  (24, .iastore, 1, [], .inl 0),
  (25, .iinc 4 1, 3, [], .inl (1)),
  (28, .goto (-25), 3, [3], .inl 0),
  (31, .return_, 1, [], .inl 0)]
/-- M.copyRoof -/
def tb238 : List (Nat × Instr × Nat × List Nat × (Int32 ⊕ Int64)) := [(0, .aload_n 0, 1, [], .inl 0),
  (1, .getfield 31, 3, [12, 16, 2897, 0, 0], .inl 0),
  (4, .iconst 1, 1, [], .inl (1)),
  (5, .iload_n 1, 1, [], .inl 0),
  (6, .iload_n 2, 1, [], .inl 0),
  (7, .invokestatic 253, 3, [237, 4, 0], .inl 0),
  (10, .aload_n 0, 1, [], .inl 0),
  (11, .getfield 34, 3, [12, 17, 23385, 0, 0], .inl 0),
  (14, .bipush 9, 2, [], .inl (9)),
  (16, .iload_n 1, 1, [], .inl 0),
  (17, .iload_n 2, 1, [], .inl 0),
  (18, .invokestatic 253, 3, [237, 4, 0], .inl 0),
  (21, .aload_n 0, 1, [], .inl 0),
  (22, .getfield 37, 3, [12, 18, 31073, 0, 0], .inl 0),
  (25, .bipush 12, 2, [], .inl (12)),
  (27, .iload_n 1, 1, [], .inl 0),
  (28, .iload_n 2, 1, [], .inl 0),
  (29, .invokestatic 253, 3, [237, 4, 0], .inl 0),
  (32, .aload_n 0, 1, [], .inl 0),
  (33, .getfield 40, 3, [12, 19, 36201, 0, 0], .inl 0),
  (36, .bipush 14, 2, [], .inl (14)),
  (38, .iload_n 1, 1, [], .inl 0),
  (39, .iload_n 2, 1, [], .inl 0),
  (40, .invokestatic 253, 3, [237, 4, 0], .inl 0),
  (43, .aload_n 0, 1, [], .inl 0),
  (44, .getfield 43, 3, [12, 20, 18289, 0, 0], .inl 0),
  (47, .bipush 7, 2, [], .inl (7)),
  (49, .iload_n 1, 1, [], .inl 0),
  (50, .iload_n 2, 1, [], .inl 0),
  (51, .invokestatic 253, 3, [237, 4, 0], .inl 0),
  (54, .aload_n 0, 1, [], .inl 0),
  (55, .getfield 46, 3, [12, 21, 31097, 0, 0], .inl 0),
  (58, .bipush 12, 2, [], .inl (12)),
  (60, .iload_n 1, 1, [], .inl 0),
  (61, .iload_n 2, 1, [], .inl 0),
  (62, .invokestatic 253, 3, [237, 4, 0], .inl 0),
  (65, .aload_n 0, 1, [], .inl 0),
  (66, .getfield 49, 3, [12, 22, 51585, 0, 0], .inl 0),
  (69, .bipush 20, 2, [], .inl (20)),
  (71, .iload_n 1, 1, [], .inl 0),
  (72, .iload_n 2, 1, [], .inl 0),
  (73, .invokestatic 253, 3, [237, 4, 0], .inl 0),
  (76, .aload_n 0, 1, [], .inl 0),
  (77, .getfield 52, 3, [12, 23, 31113, 0, 0], .inl 0),
  (80, .bipush 12, 2, [], .inl (12)),
  (82, .iload_n 1, 1, [], .inl 0),
  (83, .iload_n 2, 1, [], .inl 0),
  (84, .invokestatic 253, 3, [237, 4, 0], .inl 0),
  (87, .aload_n 0, 1, [], .inl 0),
  (88, .getfield 55, 3, [12, 24, 307601, 0, 0], .inl 0),
  (91, .bipush 120, 2, [], .inl (120)),
  (93, .iload_n 1, 1, [], .inl 0),
  (94, .iload_n 2, 1, [], .inl 0),
  (95, .invokestatic 253, 3, [237, 4, 0], .inl 0),
  (98, .return_, 1, [], .inl 0)]
/-- M.isRoof -/
def tb239 : List (Nat × Instr × Nat × List Nat × (Int32 ⊕ Int64)) := [(0, .aload_n 0, 1, [], .inl 0),
  (1, .getfield 31, 3, [12, 16, 2897, 0, 0], .inl 0),
  (4, .iconst 0, 1, [], .inl (0)),
  (5, .iaload, 1, [], .inl 0),
  (6, .ifCond .le 7, 3, [13], .inl 0),
  (9, .iconst 1, 1, [], .inl (1)),
  (10, .goto 4, 3, [14], .inl 0),
  (13, .iconst 0, 1, [], .inl (0)),
  (14, .ireturn, 1, [1], .inl 0)]
/-- M.places -/
def tb240 : List (Nat × Instr × Nat × List Nat × (Int32 ⊕ Int64)) := [(0, .aload_n 0, 1, [], .inl 0),
  (1, .getfield 34, 3, [12, 17, 23385, 0, 0], .inl 0),
  (4, .iconst 3, 1, [], .inl (3)),
  (5, .iaload, 1, [], .inl 0),
  (6, .ireturn, 1, [], .inl 0)]
/-- M.marks -/
def tb241 : List (Nat × Instr × Nat × List Nat × (Int32 ⊕ Int64)) := [(0, .aload_n 0, 1, [], .inl 0),
  (1, .getfield 34, 3, [12, 17, 23385, 0, 0], .inl 0),
  (4, .iconst 4, 1, [], .inl (4)),
  (5, .iaload, 1, [], .inl 0),
  (6, .ireturn, 1, [], .inl 0)]
/-- M.men -/
def tb242 : List (Nat × Instr × Nat × List Nat × (Int32 ⊕ Int64)) := [(0, .aload_n 0, 1, [], .inl 0),
  (1, .getfield 34, 3, [12, 17, 23385, 0, 0], .inl 0),
  (4, .bipush 7, 2, [], .inl (7)),
  (6, .iaload, 1, [], .inl 0),
  (7, .ireturn, 1, [], .inl 0)]
/-- M.years -/
def tb243 : List (Nat × Instr × Nat × List Nat × (Int32 ⊕ Int64)) := [(0, .aload_n 0, 1, [], .inl 0),
  (1, .getfield 34, 3, [12, 17, 23385, 0, 0], .inl 0),
  (4, .iconst 0, 1, [], .inl (0)),
  (5, .iaload, 1, [], .inl 0),
  (6, .ireturn, 1, [], .inl 0)]
/-- M.isPlace -/
def tb244 : List (Nat × Instr × Nat × List Nat × (Int32 ⊕ Int64)) := [(0, .lload_n 1, 1, [], .inl 0),
  (1, .lconst 0, 1, [], .inr (0)),
  (2, .aload_n 0, 1, [], .inl 0),
  (3, .invokevirtual 257, 3, [240, 1, 1, 12], .inl 0),
  (6, .i2l, 1, [], .inl 0),
  (7, .lconst 1, 1, [], .inr (1)),
  (8, .lsub, 1, [], .inl 0),
  (9, .invokestatic 95, 3, [204, 3, 1], .inl 0),
  (12, .ireturn, 1, [1], .inl 0)]
/-- M.isMark -/
def tb245 : List (Nat × Instr × Nat × List Nat × (Int32 ⊕ Int64)) := [(0, .lload_n 1, 1, [], .inl 0),
  (1, .lconst 0, 1, [], .inr (0)),
  (2, .aload_n 0, 1, [], .inl 0),
  (3, .invokevirtual 260, 3, [241, 1, 1, 12], .inl 0),
  (6, .i2l, 1, [], .inl 0),
  (7, .lconst 1, 1, [], .inr (1)),
  (8, .lsub, 1, [], .inl 0),
  (9, .invokestatic 95, 3, [204, 3, 1], .inl 0),
  (12, .ireturn, 1, [1], .inl 0)]
/-- M.isFlue -/
def tb246 : List (Nat × Instr × Nat × List Nat × (Int32 ⊕ Int64)) := [(0, .iload_n 1, 1, [], .inl 0),
  (1, .i2l, 1, [], .inl 0),
  (2, .lconst 0, 1, [], .inr (0)),
  (3, .aload_n 0, 1, [], .inl 0),
  (4, .getfield 34, 3, [12, 17, 23385, 0, 0], .inl 0),
  (7, .iconst 5, 1, [], .inl (5)),
  (8, .iaload, 1, [], .inl 0),
  (9, .i2l, 1, [], .inl 0),
  (10, .lconst 1, 1, [], .inr (1)),
  (11, .lsub, 1, [], .inl 0),
  (12, .invokestatic 95, 3, [204, 3, 1], .inl 0),
  (15, .ireturn, 1, [1], .inl 0)]
/-- M.isMan -/
def tb247 : List (Nat × Instr × Nat × List Nat × (Int32 ⊕ Int64)) := [(0, .iload_n 1, 1, [], .inl 0),
  (1, .i2l, 1, [], .inl 0),
  (2, .lconst 0, 1, [], .inr (0)),
  (3, .aload_n 0, 1, [], .inl 0),
  (4, .invokevirtual 263, 3, [242, 1, 1, 12], .inl 0),
  (7, .i2l, 1, [], .inl 0),
  (8, .lconst 1, 1, [], .inr (1)),
  (9, .lsub, 1, [], .inl 0),
  (10, .invokestatic 95, 3, [204, 3, 1], .inl 0),
  (13, .ireturn, 1, [1], .inl 0)]
/-- M.isYear -/
def tb248 : List (Nat × Instr × Nat × List Nat × (Int32 ⊕ Int64)) := [(0, .aload_n 0, 1, [], .inl 0),
  (1, .invokevirtual 266, 3, [239, 1, 1, 12], .inl 0),
  (4, .ifCond .eq 20, 3, [24], .inl 0),
  (7, .lload_n 1, 1, [], .inl 0),
  (8, .lconst 0, 1, [], .inr (0)),
  (9, .aload_n 0, 1, [], .inl 0),
  (10, .invokevirtual 269, 3, [243, 1, 1, 12], .inl 0),
  (13, .i2l, 1, [], .inl 0),
  (14, .invokestatic 95, 3, [204, 3, 1], .inl 0),
  (17, .ifCond .eq 7, 3, [24], .inl 0),
  (20, .iconst 1, 1, [], .inl (1)),
  (21, .goto 4, 3, [25], .inl 0),
  (24, .iconst 0, 1, [], .inl (0)),
  (25, .ireturn, 1, [1], .inl 0)]
/-- M.isAhead -/
def tb249 : List (Nat × Instr × Nat × List Nat × (Int32 ⊕ Int64)) := [(0, .iload_n 1, 1, [], .inl 0),
  (1, .i2l, 1, [], .inl 0),
  (2, .lconst 0, 1, [], .inr (0)),
  (3, .aload_n 0, 1, [], .inl 0),
  (4, .invokevirtual 269, 3, [243, 1, 1, 12], .inl 0),
  (7, .i2l, 1, [], .inl 0),
  (8, .lconst 1, 1, [], .inr (1)),
  (9, .lsub, 1, [], .inl 0),
  (10, .invokestatic 95, 3, [204, 3, 1], .inl 0),
  (13, .ireturn, 1, [1], .inl 0)]
/-- M.areTwo -/
def tb250 : List (Nat × Instr × Nat × List Nat × (Int32 ⊕ Int64)) := [(0, .aload_n 0, 1, [], .inl 0),
  (1, .iload_n 1, 1, [], .inl 0),
  (2, .invokevirtual 272, 3, [247, 2, 1, 12], .inl 0),
  (5, .ifCond .eq 20, 3, [25], .inl 0),
  (8, .aload_n 0, 1, [], .inl 0),
  (9, .iload_n 2, 1, [], .inl 0),
  (10, .invokevirtual 272, 3, [247, 2, 1, 12], .inl 0),
  (13, .ifCond .eq 12, 3, [25], .inl 0),
  (16, .iload_n 1, 1, [], .inl 0),
  (17, .iload_n 2, 1, [], .inl 0),
  (18, .if_icmp .eq 7, 3, [25], .inl 0),
  (21, .iconst 1, 1, [], .inl (1)),
  (22, .goto 4, 3, [26], .inl 0),
  (25, .iconst 0, 1, [], .inl (0)),
  (26, .ireturn, 1, [1], .inl 0)]
/-- M.isHalf -/
def tb251 : List (Nat × Instr × Nat × List Nat × (Int32 ⊕ Int64)) := [(0, .iload_n 0, 1, [], .inl 0),
  (1, .i2l, 1, [], .inl 0),
  (2, .lconst 0, 1, [], .inr (0)),
  (3, .lconst 1, 1, [], .inr (1)),
  (4, .invokestatic 95, 3, [204, 3, 1], .inl 0),
  (7, .ireturn, 1, [1], .inl 0)]
/-- M.isBit -/
def tb252 : List (Nat × Instr × Nat × List Nat × (Int32 ⊕ Int64)) := [(0, .iload_n 0, 1, [], .inl 0),
  (1, .iload_n 1, 1, [], .inl 0),
  (2, .ishr, 1, [], .inl 0),
  (3, .iconst 1, 1, [], .inl (1)),
  (4, .iand, 1, [], .inl 0),
  (5, .iconst 1, 1, [], .inl (1)),
  (6, .if_icmp .ne 7, 3, [13], .inl 0),
  (9, .iconst 1, 1, [], .inl (1)),
  (10, .goto 4, 3, [14], .inl 0),
  (13, .iconst 0, 1, [], .inl (0)),
  (14, .ireturn, 1, [1], .inl 0)]
/-- M.sizeOf -/
def tb253 : List (Nat × Instr × Nat × List Nat × (Int32 ⊕ Int64)) := [(0, .iconst 0, 1, [], .inl (0)),
  (1, .istore_n 1, 1, [], .inl 0),
  (2, .iload_n 0, 1, [], .inl 0),
  (3, .istore_n 2, 1, [], .inl 0),
  (4, .iload_n 2, 1, [], .inl 0),
  (5, .ifCond .eq 15, 3, [20], .inl 0),
  (8, .iinc 1 1, 3, [], .inl (1)),
  (11, .iload_n 2, 1, [], .inl 0),
  (12, .iload_n 2, 1, [], .inl 0),
  (13, .iconst 1, 1, [], .inl (1)),
  (14, .isub, 1, [], .inl 0),
  (15, .iand, 1, [], .inl 0),
  (16, .istore_n 2, 1, [], .inl 0),
  (17, .goto (-13), 3, [4], .inl 0),
  (20, .iload_n 1, 1, [], .inl 0),
  (21, .ireturn, 1, [], .inl 0)]
/-- M.lessOf -/
def tb254 : List (Nat × Instr × Nat × List Nat × (Int32 ⊕ Int64)) := [(0, .iload_n 0, 1, [], .inl 0),
  (1, .iload_n 1, 1, [], .inl 0),
  (2, .if_icmp .ge 7, 3, [9], .inl 0),
  (5, .iload_n 0, 1, [], .inl 0),
  (6, .goto 4, 3, [10], .inl 0),
  (9, .iload_n 1, 1, [], .inl 0),
  (10, .ireturn, 1, [], .inl 0)]
/-- M.moreOf -/
def tb255 : List (Nat × Instr × Nat × List Nat × (Int32 ⊕ Int64)) := [(0, .iload_n 0, 1, [], .inl 0),
  (1, .iload_n 1, 1, [], .inl 0),
  (2, .if_icmp .le 7, 3, [9], .inl 0),
  (5, .iload_n 0, 1, [], .inl 0),
  (6, .goto 4, 3, [10], .inl 0),
  (9, .iload_n 1, 1, [], .inl 0),
  (10, .ireturn, 1, [], .inl 0)]
/-- M.isBetween -/
def tb256 : List (Nat × Instr × Nat × List Nat × (Int32 ⊕ Int64)) := [(0, .aload_n 0, 1, [], .inl 0),
  (1, .getfield 46, 3, [12, 21, 31097, 0, 0], .inl 0),
  (4, .iconst 2, 1, [], .inl (2)),
  (5, .iload_n 1, 1, [], .inl 0),
  (6, .imul, 1, [], .inl 0),
  (7, .iaload, 1, [], .inl 0),
  (8, .aload_n 0, 1, [], .inl 0),
  (9, .getfield 37, 3, [12, 18, 31073, 0, 0], .inl 0),
  (12, .iconst 2, 1, [], .inl (2)),
  (13, .iload_n 2, 1, [], .inl 0),
  (14, .imul, 1, [], .inl 0),
  (15, .iaload, 1, [], .inl 0),
  (16, .isub, 1, [], .inl 0),
  (17, .istore 4, 2, [], .inl 0),
  (19, .aload_n 0, 1, [], .inl 0),
  (20, .getfield 46, 3, [12, 21, 31097, 0, 0], .inl 0),
  (23, .iconst 2, 1, [], .inl (2)),
  (24, .iload_n 1, 1, [], .inl 0),
  (25, .imul, 1, [], .inl 0),
  (26, .iconst 1, 1, [], .inl (1)),
  (27, .iadd, 1, [], .inl 0),
  (28, .iaload, 1, [], .inl 0),
  (29, .aload_n 0, 1, [], .inl 0),
  (30, .getfield 37, 3, [12, 18, 31073, 0, 0], .inl 0),
  (33, .iconst 2, 1, [], .inl (2)),
  (34, .iload_n 2, 1, [], .inl 0),
  (35, .imul, 1, [], .inl 0),
  (36, .iconst 1, 1, [], .inl (1)),
  (37, .iadd, 1, [], .inl 0),
  (38, .iaload, 1, [], .inl 0),
  (39, .isub, 1, [], .inl 0),
  (40, .istore 5, 2, [], .inl 0),
  (42, .aload_n 0, 1, [], .inl 0),
  (43, .getfield 40, 3, [12, 19, 36201, 0, 0], .inl 0),
  (46, .iconst 2, 1, [], .inl (2)),
  (47, .iload_n 3, 1, [], .inl 0),
  (48, .imul, 1, [], .inl 0),
  (49, .iaload, 1, [], .inl 0),
  (50, .aload_n 0, 1, [], .inl 0),
  (51, .getfield 37, 3, [12, 18, 31073, 0, 0], .inl 0),
  (54, .iconst 2, 1, [], .inl (2)),
  (55, .iload_n 2, 1, [], .inl 0),
  (56, .imul, 1, [], .inl 0),
  (57, .iaload, 1, [], .inl 0),
  (58, .isub, 1, [], .inl 0),
  (59, .istore 6, 2, [], .inl 0),
  (61, .aload_n 0, 1, [], .inl 0),
  (62, .getfield 40, 3, [12, 19, 36201, 0, 0], .inl 0),
  (65, .iconst 2, 1, [], .inl (2)),
  (66, .iload_n 3, 1, [], .inl 0),
  (67, .imul, 1, [], .inl 0),
  (68, .iconst 1, 1, [], .inl (1)),
  (69, .iadd, 1, [], .inl 0),
  (70, .iaload, 1, [], .inl 0),
  (71, .aload_n 0, 1, [], .inl 0),
  (72, .getfield 37, 3, [12, 18, 31073, 0, 0], .inl 0),
  (75, .iconst 2, 1, [], .inl (2)),
  (76, .iload_n 2, 1, [], .inl 0),
  (77, .imul, 1, [], .inl 0),
  (78, .iconst 1, 1, [], .inl (1)),
  (79, .iadd, 1, [], .inl 0),
  (80, .iaload, 1, [], .inl 0),
  (81, .isub, 1, [], .inl 0),
  (82, .istore 7, 2, [], .inl 0),
  (84, .iload 4, 2, [], .inl 0),
  (86, .iload 7, 2, [], .inl 0),
  (88, .imul, 1, [], .inl 0),
  (89, .iload 5, 2, [], .inl 0),
  (91, .iload 6, 2, [], .inl 0),
  (93, .imul, 1, [], .inl 0),
  (94, .if_icmp .eq 5, 3, [99], .inl 0),
  (97, .iconst 0, 1, [], .inl (0)),
  (98, .ireturn, 1, [1], .inl 0),
  (99, .iload 4, 2, [], .inl 0),
  (101, .i2l, 1, [], .inl 0),
  (102, .iconst 0, 1, [], .inl (0)),
  (103, .iload 6, 2, [], .inl 0),
  (105, .invokestatic 275, 3, [254, 2, 1], .inl 0),
  (108, .i2l, 1, [], .inl 0),
  (109, .iconst 0, 1, [], .inl (0)),
  (110, .iload 6, 2, [], .inl 0),
  (112, .invokestatic 278, 3, [255, 2, 1], .inl 0),
  (115, .i2l, 1, [], .inl 0),
  (116, .invokestatic 95, 3, [204, 3, 1], .inl 0),
  (119, .ifCond .eq 30, 3, [149], .inl 0),
  (122, .iload 5, 2, [], .inl 0),
  (124, .i2l, 1, [], .inl 0),
  (125, .iconst 0, 1, [], .inl (0)),
  (126, .iload 7, 2, [], .inl 0),
  (128, .invokestatic 275, 3, [254, 2, 1], .inl 0),
  (131, .i2l, 1, [], .inl 0),
  (132, .iconst 0, 1, [], .inl (0)),
  (133, .iload 7, 2, [], .inl 0),
  (135, .invokestatic 278, 3, [255, 2, 1], .inl 0),
  (138, .i2l, 1, [], .inl 0),
  (139, .invokestatic 95, 3, [204, 3, 1], .inl 0),
  (142, .ifCond .eq 7, 3, [149], .inl 0),
  (145, .iconst 1, 1, [], .inl (1)),
  (146, .goto 4, 3, [150], .inl 0),
  (149, .iconst 0, 1, [], .inl (0)),
  (150, .ireturn, 1, [1], .inl 0)]
/-- M.hidesOf -/
def tb257 : List (Nat × Instr × Nat × List Nat × (Int32 ⊕ Int64)) := [(0, .iconst 0, 1, [], .inl (0)),
  (1, .istore_n 3, 1, [], .inl 0),
  (2, .iload_n 3, 1, [], .inl 0),
  (3, .aload_n 0, 1, [], .inl 0),
  (4, .getfield 34, 3, [12, 17, 23385, 0, 0], .inl 0),
  (7, .iconst 5, 1, [], .inl (5)),
  (8, .iaload, 1, [], .inl 0),
  (9, .if_icmp .ge 32, 3, [41], .inl 0),
  (12, .aload_n 0, 1, [], .inl 0),
  (13, .getfield 281, 3, [12, 26, 0], .inl 0),
  (16, .iload_n 3, 1, [], .inl 0),
  (17, .invokestatic 284, 3, [252, 2, 1], .inl 0),
  (20, .ifCond .ne 15, 3, [35], .inl 0),
  (23, .aload_n 0, 1, [], .inl 0),
  (24, .iload_n 3, 1, [], .inl 0),
  (25, .iload_n 1, 1, [], .inl 0),
  (26, .iload_n 2, 1, [], .inl 0),
  (27, .invokevirtual 288, 3, [256, 4, 1, 12], .inl 0),
  (30, .ifCond .eq 5, 3, [35], .inl 0),
  (33, .iload_n 3, 1, [], .inl 0),
  (34, .ireturn, 1, [], .inl 0),
  (35, .iinc 3 1, 3, [], .inl (1)),
  (38, .goto (-36), 3, [2], .inl 0),
  (41, .iconst (-1), 1, [], .inl (-1)),
  (42, .ireturn, 1, [], .inl 0)]
/-- M.laysSees -/
def tb258 : List (Nat × Instr × Nat × List Nat × (Int32 ⊕ Int64)) := [(0, .iconst 0, 1, [], .inl (0)),
  (1, .istore_n 1, 1, [], .inl 0),
  (2, .iload_n 1, 1, [], .inl 0),
  (3, .aload_n 0, 1, [], .inl 0),
  (4, .invokevirtual 257, 3, [240, 1, 1, 12], .inl 0),
  (7, .if_icmp .ge 58, 3, [65], .inl 0),
  (10, .aload_n 0, 1, [], .inl 0),
  (11, .getfield 62, 3, [12, 27, 3489, 0, 0], .inl 0),
  (14, .iload_n 1, 1, [], .inl 0),
  (15, .iconst 0, 1, [], .inl (0)),
  (16, .iastore, 1, [], .inl 0),
  (17, .iconst 0, 1, [], .inl (0)),
  (18, .istore_n 2, 1, [], .inl 0),
  (19, .iload_n 2, 1, [], .inl 0),
  (20, .aload_n 0, 1, [], .inl 0),
  (21, .invokevirtual 260, 3, [241, 1, 1, 12], .inl 0),
  (24, .if_icmp .ge 35, 3, [59], .inl 0),
  (27, .aload_n 0, 1, [], .inl 0),
  (28, .getfield 62, 3, [12, 27, 3489, 0, 0], .inl 0),
  (31, .iload_n 1, 1, [], .inl 0),
  (32, .dup2, 1, [], .inl 0),
  (33, .iaload, 1, [], .inl 0),
  (34, .aload_n 0, 1, [], .inl 0),
  (35, .iload_n 1, 1, [], .inl 0),
  (36, .iload_n 2, 1, [], .inl 0),
  (37, .invokevirtual 291, 3, [257, 3, 1, 12], .inl 0),
  (40, .iconst (-1), 1, [], .inl (-1)),
  (41, .if_icmp .ne 9, 3, [50], .inl 0),
  (44, .iconst 1, 1, [], .inl (1)),
  (45, .iload_n 2, 1, [], .inl 0),
  (46, .ishl, 1, [], .inl 0),
  (47, .goto 4, 3, [51], .inl 0),
  (50, .iconst 0, 1, [], .inl (0)),
  (51, .ior, 1, [], .inl 0),
  (52, .iastore, 1, [], .inl 0),
  (53, .iinc 2 1, 3, [], .inl (1)),
  (56, .goto (-37), 3, [19], .inl 0),
  (59, .iinc 1 1, 3, [], .inl (1)),
  (62, .goto (-60), 3, [2, 2], .inl 0),
  (65, .return_, 1, [], .inl 0)]
/-- M.laysFlues -/
def tb259 : List (Nat × Instr × Nat × List Nat × (Int32 ⊕ Int64)) := [(0, .aload_n 0, 1, [], .inl 0),
  (1, .iconst 0, 1, [], .inl (0)),
  (2, .putfield 281, 3, [12, 26, 0], .inl 0),
  (5, .iconst 0, 1, [], .inl (0)),
  (6, .istore_n 1, 1, [], .inl 0),
  (7, .iload_n 1, 1, [], .inl 0),
  (8, .aload_n 0, 1, [], .inl 0),
  (9, .getfield 34, 3, [12, 17, 23385, 0, 0], .inl 0),
  (12, .bipush 8, 2, [], .inl (8)),
  (14, .iaload, 1, [], .inl 0),
  (15, .if_icmp .ge 40, 3, [55], .inl 0),
  (18, .aload_n 0, 1, [], .inl 0),
  (19, .getfield 55, 3, [12, 24, 307601, 0, 0], .inl 0),
  (22, .iconst 4, 1, [], .inl (4)),
  (23, .iload_n 1, 1, [], .inl 0),
  (24, .imul, 1, [], .inl 0),
  (25, .iaload, 1, [], .inl 0),
  (26, .iconst (-1), 1, [], .inl (-1)),
  (27, .if_icmp .eq 22, 3, [49], .inl 0),
  (30, .aload_n 0, 1, [], .inl 0),
  (31, .dup, 1, [], .inl 0),
  (32, .getfield 281, 3, [12, 26, 0], .inl 0),
  (35, .iconst 1, 1, [], .inl (1)),
  (36, .aload_n 0, 1, [], .inl 0),
  (37, .getfield 55, 3, [12, 24, 307601, 0, 0], .inl 0),
  (40, .iconst 4, 1, [], .inl (4)),
  (41, .iload_n 1, 1, [], .inl 0),
  (42, .imul, 1, [], .inl 0),
  (43, .iaload, 1, [], .inl 0),
  (44, .ishl, 1, [], .inl 0),
  (45, .ior, 1, [], .inl 0),
  (46, .putfield 281, 3, [12, 26, 0], .inl 0),
  (49, .iinc 1 1, 3, [], .inl (1)),
  (52, .goto (-45), 3, [7], .inl 0),
  (55, .return_, 1, [], .inl 0)]
/-- M.worthOf -/
def tb260 : List (Nat × Instr × Nat × List Nat × (Int32 ⊕ Int64)) := [(0, .iconst 0, 1, [], .inl (0)),
  (1, .istore_n 2, 1, [], .inl 0),
  (2, .iconst 0, 1, [], .inl (0)),
  (3, .istore_n 3, 1, [], .inl 0),
  (4, .iload_n 3, 1, [], .inl 0),
  (5, .aload_n 0, 1, [], .inl 0),
  (6, .invokevirtual 260, 3, [241, 1, 1, 12], .inl 0),
  (9, .if_icmp .ge 30, 3, [39], .inl 0),
  (12, .iload_n 2, 1, [], .inl 0),
  (13, .iload_n 1, 1, [], .inl 0),
  (14, .iload_n 3, 1, [], .inl 0),
  (15, .invokestatic 284, 3, [252, 2, 1], .inl 0),
  (18, .ifCond .eq 12, 3, [30], .inl 0),
  (21, .aload_n 0, 1, [], .inl 0),
  (22, .getfield 43, 3, [12, 20, 18289, 0, 0], .inl 0),
  (25, .iload_n 3, 1, [], .inl 0),
  (26, .iaload, 1, [], .inl 0),
  (27, .goto 4, 3, [31], .inl 0),
  (30, .iconst 0, 1, [], .inl (0)),
  (31, .iadd, 1, [], .inl 0),
  (32, .istore_n 2, 1, [], .inl 0),
  (33, .iinc 3 1, 3, [], .inl (1)),
  (36, .goto (-32), 3, [4], .inl 0),
  (39, .iload_n 2, 1, [], .inl 0),
  (40, .ireturn, 1, [], .inl 0)]
/-- M.placeWorth -/
def tb261 : List (Nat × Instr × Nat × List Nat × (Int32 ⊕ Int64)) := [(0, .aload_n 0, 1, [], .inl 0),
  (1, .aload_n 0, 1, [], .inl 0),
  (2, .getfield 62, 3, [12, 27, 3489, 0, 0], .inl 0),
  (5, .iload_n 1, 1, [], .inl 0),
  (6, .iaload, 1, [], .inl 0),
  (7, .invokevirtual 294, 3, [260, 2, 1, 12], .inl 0),
  (10, .ireturn, 1, [], .inl 0)]
/-- M.lays -/
def tb262 : List (Nat × Instr × Nat × List Nat × (Int32 ⊕ Int64)) := [(0, .aload_n 0, 1, [], .inl 0),
  (1, .aload_n 0, 1, [], .inl 0),
  (2, .getfield 34, 3, [12, 17, 23385, 0, 0], .inl 0),
  (5, .iconst 1, 1, [], .inl (1)),
  (6, .iaload, 1, [], .inl 0),
  (7, .putfield 297, 3, [12, 28, 0], .inl 0),
  (10, .aload_n 0, 1, [], .inl 0),
  (11, .sipush 4095, 3, [], .inl (4095)),
  (14, .putfield 300, 3, [12, 29, 0], .inl 0),
  (17, .iconst 0, 1, [], .inl (0)),
  (18, .istore_n 1, 1, [], .inl 0),
  (19, .iload_n 1, 1, [], .inl 0),
  (20, .aload_n 0, 1, [], .inl 0),
  (21, .invokevirtual 263, 3, [242, 1, 1, 12], .inl 0),
  (24, .if_icmp .ge 23, 3, [47], .inl 0),
  (27, .aload_n 0, 1, [], .inl 0),
  (28, .getfield 65, 3, [12, 30, 3497, 0, 0], .inl 0),
  (31, .iload_n 1, 1, [], .inl 0),
  (32, .aload_n 0, 1, [], .inl 0),
  (33, .getfield 52, 3, [12, 23, 31113, 0, 0], .inl 0),
  (36, .iconst 2, 1, [], .inl (2)),
  (37, .iload_n 1, 1, [], .inl 0),
  (38, .imul, 1, [], .inl 0),
  (39, .iaload, 1, [], .inl 0),
  (40, .iastore, 1, [], .inl 0),
  (41, .iinc 1 1, 3, [], .inl (1)),
  (44, .goto (-25), 3, [19], .inl 0),
  (47, .aload_n 0, 1, [], .inl 0),
  (48, .invokevirtual 303, 3, [259, 1, 0, 12], .inl 0),
  (51, .aload_n 0, 1, [], .inl 0),
  (52, .invokevirtual 306, 3, [258, 1, 0, 12], .inl 0),
  (55, .return_, 1, [], .inl 0)]
/-- M.hopeOf -/
def tb263 : List (Nat × Instr × Nat × List Nat × (Int32 ⊕ Int64)) := [(0, .aload_n 0, 1, [], .inl 0),
  (1, .getfield 52, 3, [12, 23, 31113, 0, 0], .inl 0),
  (4, .iconst 2, 1, [], .inl (2)),
  (5, .iload_n 1, 1, [], .inl 0),
  (6, .imul, 1, [], .inl 0),
  (7, .iconst 1, 1, [], .inl (1)),
  (8, .iadd, 1, [], .inl 0),
  (9, .iaload, 1, [], .inl 0),
  (10, .ireturn, 1, [], .inl 0)]
/-- M.isGlad -/
def tb264 : List (Nat × Instr × Nat × List Nat × (Int32 ⊕ Int64)) := [(0, .aload_n 0, 1, [], .inl 0),
  (1, .getfield 62, 3, [12, 27, 3489, 0, 0], .inl 0),
  (4, .iload_n 2, 1, [], .inl 0),
  (5, .iaload, 1, [], .inl 0),
  (6, .aload_n 0, 1, [], .inl 0),
  (7, .iload_n 1, 1, [], .inl 0),
  (8, .invokevirtual 309, 3, [263, 2, 1, 12], .inl 0),
  (11, .invokestatic 284, 3, [252, 2, 1], .inl 0),
  (14, .ireturn, 1, [1], .inl 0)]
/-- M.exchanges -/
def tb265 : List (Nat × Instr × Nat × List Nat × (Int32 ⊕ Int64)) := [(0, .iconst 0, 1, [], .inl (0)),
  (1, .istore_n 2, 1, [], .inl 0),
  (2, .iload_n 2, 1, [], .inl 0),
  (3, .aload_n 0, 1, [], .inl 0),
  (4, .getfield 34, 3, [12, 17, 23385, 0, 0], .inl 0),
  (7, .bipush 8, 2, [], .inl (8)),
  (9, .iaload, 1, [], .inl 0),
  (10, .if_icmp .ge 91, 3, [101], .inl 0),
  (13, .aload_n 0, 1, [], .inl 0),
  (14, .getfield 55, 3, [12, 24, 307601, 0, 0], .inl 0),
  (17, .iconst 4, 1, [], .inl (4)),
  (18, .iload_n 2, 1, [], .inl 0),
  (19, .imul, 1, [], .inl 0),
  (20, .iaload, 1, [], .inl 0),
  (21, .iconst (-1), 1, [], .inl (-1)),
  (22, .if_icmp .ne 73, 3, [95], .inl 0),
  (25, .aload_n 0, 1, [], .inl 0),
  (26, .getfield 55, 3, [12, 24, 307601, 0, 0], .inl 0),
  (29, .iconst 4, 1, [], .inl (4)),
  (30, .iload_n 2, 1, [], .inl 0),
  (31, .imul, 1, [], .inl 0),
  (32, .iconst 3, 1, [], .inl (3)),
  (33, .iadd, 1, [], .inl 0),
  (34, .iaload, 1, [], .inl 0),
  (35, .iload_n 1, 1, [], .inl 0),
  (36, .if_icmp .eq 6, 3, [42], .inl 0),
  (39, .goto 56, 3, [95], .inl 0),
  (42, .aload_n 0, 1, [], .inl 0),
  (43, .getfield 55, 3, [12, 24, 307601, 0, 0], .inl 0),
  (46, .iconst 4, 1, [], .inl (4)),
  (47, .iload_n 2, 1, [], .inl 0),
  (48, .imul, 1, [], .inl 0),
  (49, .iconst 1, 1, [], .inl (1)),
  (50, .iadd, 1, [], .inl 0),
  (51, .iaload, 1, [], .inl 0),
  (52, .istore_n 3, 1, [], .inl 0),
  (53, .aload_n 0, 1, [], .inl 0),
  (54, .getfield 55, 3, [12, 24, 307601, 0, 0], .inl 0),
  (57, .iconst 4, 1, [], .inl (4)),
  (58, .iload_n 2, 1, [], .inl 0),
  (59, .imul, 1, [], .inl 0),
  (60, .iconst 2, 1, [], .inl (2)),
  (61, .iadd, 1, [], .inl 0),
  (62, .iaload, 1, [], .inl 0),
  (63, .istore 4, 2, [], .inl 0),
  (65, .aload_n 0, 1, [], .inl 0),
  (66, .getfield 68, 3, [12, 31, 3505, 0, 0], .inl 0),
  (69, .iload_n 3, 1, [], .inl 0),
  (70, .iaload, 1, [], .inl 0),
  (71, .istore 5, 2, [], .inl 0),
  (73, .aload_n 0, 1, [], .inl 0),
  (74, .getfield 68, 3, [12, 31, 3505, 0, 0], .inl 0),
  (77, .iload_n 3, 1, [], .inl 0),
  (78, .aload_n 0, 1, [], .inl 0),
  (79, .getfield 68, 3, [12, 31, 3505, 0, 0], .inl 0),
  (82, .iload 4, 2, [], .inl 0),
  (84, .iaload, 1, [], .inl 0),
  (85, .iastore, 1, [], .inl 0),
  (86, .aload_n 0, 1, [], .inl 0),
  (87, .getfield 68, 3, [12, 31, 3505, 0, 0], .inl 0),
  (90, .iload 4, 2, [], .inl 0),
  (92, .iload 5, 2, [], .inl 0),
  (94, .iastore, 1, [], .inl 0),
  (95, .iinc 2 1, 3, [], .inl (1)),
  (98, .goto (-96), 3, [2], .inl 0),
  (101, .return_, 1, [], .inl 0)]
/-- M.oneBy -/
def tb266 : List (Nat × Instr × Nat × List Nat × (Int32 ⊕ Int64)) := [(0, .iconst (-1), 1, [], .inl (-1)),
  (1, .istore_n 3, 1, [], .inl 0),
  (2, .iconst 0, 1, [], .inl (0)),
  (3, .istore 4, 2, [], .inl 0),
  (5, .iload 4, 2, [], .inl 0),
  (7, .aload_n 0, 1, [], .inl 0),
  (8, .invokevirtual 263, 3, [242, 1, 1, 12], .inl 0),
  (11, .if_icmp .ge 51, 3, [62], .inl 0),
  (14, .iload 4, 2, [], .inl 0),
  (16, .iload_n 1, 1, [], .inl 0),
  (17, .if_icmp .eq 39, 3, [56], .inl 0),
  (20, .iload_n 3, 1, [], .inl 0),
  (21, .iconst (-1), 1, [], .inl (-1)),
  (22, .if_icmp .eq 31, 3, [53], .inl 0),
  (25, .iload_n 2, 1, [], .inl 0),
  (26, .aload_n 0, 1, [], .inl 0),
  (27, .aload_n 0, 1, [], .inl 0),
  (28, .getfield 68, 3, [12, 31, 3505, 0, 0], .inl 0),
  (31, .iload 4, 2, [], .inl 0),
  (33, .iaload, 1, [], .inl 0),
  (34, .invokevirtual 312, 3, [261, 2, 1, 12], .inl 0),
  (37, .imul, 1, [], .inl 0),
  (38, .iload_n 2, 1, [], .inl 0),
  (39, .aload_n 0, 1, [], .inl 0),
  (40, .aload_n 0, 1, [], .inl 0),
  (41, .getfield 68, 3, [12, 31, 3505, 0, 0], .inl 0),
  (44, .iload_n 3, 1, [], .inl 0),
  (45, .iaload, 1, [], .inl 0),
  (46, .invokevirtual 312, 3, [261, 2, 1, 12], .inl 0),
  (49, .imul, 1, [], .inl 0),
  (50, .if_icmp .le 6, 3, [56], .inl 0),
  (53, .iload 4, 2, [], .inl 0),
  (55, .istore_n 3, 1, [], .inl 0),
  (56, .iinc 4 1, 3, [], .inl (1)),
  (59, .goto (-54), 3, [5], .inl 0),
  (62, .iload_n 3, 1, [], .inl 0),
  (63, .ireturn, 1, [], .inl 0)]
/-- M.changes -/
def tb267 : List (Nat × Instr × Nat × List Nat × (Int32 ⊕ Int64)) := [(0, .aload_n 0, 1, [], .inl 0),
  (1, .iconst (-1), 1, [], .inl (-1)),
  (2, .iconst 1, 1, [], .inl (1)),
  (3, .invokevirtual 315, 3, [266, 3, 1, 12], .inl 0),
  (6, .istore_n 1, 1, [], .inl 0),
  (7, .iload_n 1, 1, [], .inl 0),
  (8, .iconst (-1), 1, [], .inl (-1)),
  (9, .if_icmp .ne 7, 3, [16], .inl 0),
  (12, .iconst (-1), 1, [], .inl (-1)),
  (13, .goto 9, 3, [22], .inl 0),
  (16, .aload_n 0, 1, [], .inl 0),
  (17, .iload_n 1, 1, [], .inl 0),
  (18, .iconst (-1), 1, [], .inl (-1)),
  (19, .invokevirtual 315, 3, [266, 3, 1, 12], .inl 0),
  (22, .istore_n 2, 1, [], .inl 0),
  (23, .iload_n 2, 1, [], .inl 0),
  (24, .iconst (-1), 1, [], .inl (-1)),
  (25, .if_icmp .ne 4, 3, [29], .inl 0),
  (28, .return_, 1, [], .inl 0),
  (29, .aload_n 0, 1, [], .inl 0),
  (30, .getfield 68, 3, [12, 31, 3505, 0, 0], .inl 0),
  (33, .iload_n 1, 1, [], .inl 0),
  (34, .iaload, 1, [], .inl 0),
  (35, .istore_n 3, 1, [], .inl 0),
  (36, .aload_n 0, 1, [], .inl 0),
  (37, .getfield 68, 3, [12, 31, 3505, 0, 0], .inl 0),
  (40, .iload_n 1, 1, [], .inl 0),
  (41, .aload_n 0, 1, [], .inl 0),
  (42, .getfield 68, 3, [12, 31, 3505, 0, 0], .inl 0),
  (45, .iload_n 2, 1, [], .inl 0),
  (46, .iaload, 1, [], .inl 0),
  (47, .iastore, 1, [], .inl 0),
  (48, .aload_n 0, 1, [], .inl 0),
  (49, .getfield 68, 3, [12, 31, 3505, 0, 0], .inl 0),
  (52, .iload_n 2, 1, [], .inl 0),
  (53, .iload_n 3, 1, [], .inl 0),
  (54, .iastore, 1, [], .inl 0),
  (55, .return_, 1, [], .inl 0)]
/-- M.nextPlace -/
def tb268 : List (Nat × Instr × Nat × List Nat × (Int32 ⊕ Int64)) := [(0, .iconst 1, 1, [], .inl (1)),
  (1, .istore_n 3, 1, [], .inl 0),
  (2, .iload_n 3, 1, [], .inl 0),
  (3, .aload_n 0, 1, [], .inl 0),
  (4, .invokevirtual 257, 3, [240, 1, 1, 12], .inl 0),
  (7, .if_icmp .gt 33, 3, [40], .inl 0),
  (10, .iload_n 2, 1, [], .inl 0),
  (11, .iload_n 1, 1, [], .inl 0),
  (12, .iload_n 3, 1, [], .inl 0),
  (13, .iadd, 1, [], .inl 0),
  (14, .aload_n 0, 1, [], .inl 0),
  (15, .invokevirtual 257, 3, [240, 1, 1, 12], .inl 0),
  (18, .irem, 1, [], .inl 0),
  (19, .invokestatic 284, 3, [252, 2, 1], .inl 0),
  (22, .ifCond .eq 12, 3, [34], .inl 0),
  (25, .iload_n 1, 1, [], .inl 0),
  (26, .iload_n 3, 1, [], .inl 0),
  (27, .iadd, 1, [], .inl 0),
  (28, .aload_n 0, 1, [], .inl 0),
  (29, .invokevirtual 257, 3, [240, 1, 1, 12], .inl 0),
  (32, .irem, 1, [], .inl 0),
  (33, .ireturn, 1, [], .inl 0),
  (34, .iinc 3 1, 3, [], .inl (1)),
  (37, .goto (-35), 3, [2], .inl 0),
  (40, .iload_n 1, 1, [], .inl 0),
  (41, .ireturn, 1, [], .inl 0)]
/-- M.moves -/
def tb269 : List (Nat × Instr × Nat × List Nat × (Int32 ⊕ Int64)) := [(0, .aload_n 0, 1, [], .inl 0),
  (1, .getfield 297, 3, [12, 28, 0], .inl 0),
  (4, .iconst 2, 1, [], .inl (2)),
  (5, .if_icmp .ne 8, 3, [13], .inl 0),
  (8, .aload_n 0, 1, [], .inl 0),
  (9, .invokevirtual 318, 3, [267, 1, 0, 12], .inl 0),
  (12, .return_, 1, [], .inl 0),
  (13, .iconst 1, 1, [], .inl (1)),
  (14, .aload_n 0, 1, [], .inl 0),
  (15, .invokevirtual 257, 3, [240, 1, 1, 12], .inl 0),
  (18, .ishl, 1, [], .inl 0),
  (19, .iconst 1, 1, [], .inl (1)),
  (20, .isub, 1, [], .inl 0),
  (21, .istore_n 1, 1, [], .inl 0),
  (22, .aload_n 0, 1, [], .inl 0),
  (23, .getfield 297, 3, [12, 28, 0], .inl 0),
  (26, .iconst 3, 1, [], .inl (3)),
  (27, .if_icmp .ne 7, 3, [34], .inl 0),
  (30, .iconst 0, 1, [], .inl (0)),
  (31, .goto 4, 3, [35], .inl 0),
  (34, .iload_n 1, 1, [], .inl 0),
  (35, .istore_n 2, 1, [], .inl 0),
  (36, .iconst 0, 1, [], .inl (0)),
  (37, .istore_n 3, 1, [], .inl 0),
  (38, .iload_n 3, 1, [], .inl 0),
  (39, .aload_n 0, 1, [], .inl 0),
  (40, .invokevirtual 263, 3, [242, 1, 1, 12], .inl 0),
  (43, .if_icmp .ge 42, 3, [85], .inl 0),
  (46, .aload_n 0, 1, [], .inl 0),
  (47, .getfield 297, 3, [12, 28, 0], .inl 0),
  (50, .iconst 3, 1, [], .inl (3)),
  (51, .if_icmp .ne 28, 3, [79], .inl 0),
  (54, .aload_n 0, 1, [], .inl 0),
  (55, .iload_n 3, 1, [], .inl 0),
  (56, .aload_n 0, 1, [], .inl 0),
  (57, .getfield 68, 3, [12, 31, 3505, 0, 0], .inl 0),
  (60, .iload_n 3, 1, [], .inl 0),
  (61, .iaload, 1, [], .inl 0),
  (62, .invokevirtual 321, 3, [264, 3, 1, 12], .inl 0),
  (65, .ifCond .ne 14, 3, [79], .inl 0),
  (68, .iload_n 2, 1, [], .inl 0),
  (69, .iconst 1, 1, [], .inl (1)),
  (70, .aload_n 0, 1, [], .inl 0),
  (71, .getfield 68, 3, [12, 31, 3505, 0, 0], .inl 0),
  (74, .iload_n 3, 1, [], .inl 0),
  (75, .iaload, 1, [], .inl 0),
  (76, .ishl, 1, [], .inl 0),
  (77, .ior, 1, [], .inl 0),
  (78, .istore_n 2, 1, [], .inl 0),
  (79, .iinc 3 1, 3, [], .inl (1)),
  (82, .goto (-44), 3, [38], .inl 0),
  (85, .iconst 0, 1, [], .inl (0)),
  (86, .istore_n 3, 1, [], .inl 0),
  (87, .iload_n 3, 1, [], .inl 0),
  (88, .aload_n 0, 1, [], .inl 0),
  (89, .invokevirtual 263, 3, [242, 1, 1, 12], .inl 0),
  (92, .if_icmp .ge 81, 3, [173], .inl 0),
  (95, .aload_n 0, 1, [], .inl 0),
  (96, .getfield 297, 3, [12, 28, 0], .inl 0),
  (99, .iconst 1, 1, [], .inl (1)),
  (100, .if_icmp .ne 30, 3, [130], .inl 0),
  (103, .aload_n 0, 1, [], .inl 0),
  (104, .getfield 68, 3, [12, 31, 3505, 0, 0], .inl 0),
  (107, .iload_n 3, 1, [], .inl 0),
  (108, .aload_n 0, 1, [], .inl 0),
  (109, .getfield 68, 3, [12, 31, 3505, 0, 0], .inl 0),
  (112, .iload_n 3, 1, [], .inl 0),
  (113, .iaload, 1, [], .inl 0),
  (114, .aload_n 0, 1, [], .inl 0),
  (115, .invokevirtual 257, 3, [240, 1, 1, 12], .inl 0),
  (118, .iadd, 1, [], .inl 0),
  (119, .iconst 1, 1, [], .inl (1)),
  (120, .isub, 1, [], .inl 0),
  (121, .aload_n 0, 1, [], .inl 0),
  (122, .invokevirtual 257, 3, [240, 1, 1, 12], .inl 0),
  (125, .irem, 1, [], .inl 0),
  (126, .iastore, 1, [], .inl 0),
  (127, .goto 40, 3, [167], .inl 0),
  (130, .aload_n 0, 1, [], .inl 0),
  (131, .getfield 297, 3, [12, 28, 0], .inl 0),
  (134, .ifCond .eq 16, 3, [150], .inl 0),
  (137, .iload_n 2, 1, [], .inl 0),
  (138, .aload_n 0, 1, [], .inl 0),
  (139, .getfield 68, 3, [12, 31, 3505, 0, 0], .inl 0),
  (142, .iload_n 3, 1, [], .inl 0),
  (143, .iaload, 1, [], .inl 0),
  (144, .invokestatic 284, 3, [252, 2, 1], .inl 0),
  (147, .ifCond .eq 20, 3, [167], .inl 0),
  (150, .aload_n 0, 1, [], .inl 0),
  (151, .getfield 68, 3, [12, 31, 3505, 0, 0], .inl 0),
  (154, .iload_n 3, 1, [], .inl 0),
  (155, .aload_n 0, 1, [], .inl 0),
  (156, .aload_n 0, 1, [], .inl 0),
  (157, .getfield 68, 3, [12, 31, 3505, 0, 0], .inl 0),
  (160, .iload_n 3, 1, [], .inl 0),
  (161, .iaload, 1, [], .inl 0),
  (162, .iload_n 2, 1, [], .inl 0),
  (163, .invokevirtual 324, 3, [268, 3, 1, 12], .inl 0),
  (166, .iastore, 1, [], .inl 0),
  (167, .iinc 3 1, 3, [], .inl (1)),
  (170, .goto (-83), 3, [87], .inl 0),
  (173, .return_, 1, [], .inl 0)]
/-- M.runs -/
def tb270 : List (Nat × Instr × Nat × List Nat × (Int32 ⊕ Int64)) := [(0, .iconst 0, 1, [], .inl (0)),
  (1, .istore_n 1, 1, [], .inl 0),
  (2, .iload_n 1, 1, [], .inl 0),
  (3, .aload_n 0, 1, [], .inl 0),
  (4, .invokevirtual 263, 3, [242, 1, 1, 12], .inl 0),
  (7, .if_icmp .ge 21, 3, [28], .inl 0),
  (10, .aload_n 0, 1, [], .inl 0),
  (11, .getfield 68, 3, [12, 31, 3505, 0, 0], .inl 0),
  (14, .iload_n 1, 1, [], .inl 0),
  (15, .aload_n 0, 1, [], .inl 0),
  (16, .getfield 65, 3, [12, 30, 3497, 0, 0], .inl 0),
  (19, .iload_n 1, 1, [], .inl 0),
  (20, .iaload, 1, [], .inl 0),
  (21, .iastore, 1, [], .inl 0),
  (22, .iinc 1 1, 3, [], .inl (1)),
  (25, .goto (-23), 3, [2], .inl 0),
  (28, .iconst 0, 1, [], .inl (0)),
  (29, .istore_n 1, 1, [], .inl 0),
  (30, .iload_n 1, 1, [], .inl 0),
  (31, .aload_n 0, 1, [], .inl 0),
  (32, .invokevirtual 269, 3, [243, 1, 1, 12], .inl 0),
  (35, .if_icmp .gt 78, 3, [113], .inl 0),
  (38, .iload_n 1, 1, [], .inl 0),
  (39, .aload_n 0, 1, [], .inl 0),
  (40, .invokevirtual 269, 3, [243, 1, 1, 12], .inl 0),
  (43, .if_icmp .ge 8, 3, [51], .inl 0),
  (46, .aload_n 0, 1, [], .inl 0),
  (47, .iload_n 1, 1, [], .inl 0),
  (48, .invokevirtual 327, 3, [265, 2, 0, 12], .inl 0),
  (51, .iconst 0, 1, [], .inl (0)),
  (52, .istore_n 2, 1, [], .inl 0),
  (53, .iload_n 2, 1, [], .inl 0),
  (54, .aload_n 0, 1, [], .inl 0),
  (55, .invokevirtual 263, 3, [242, 1, 1, 12], .inl 0),
  (58, .if_icmp .ge 26, 3, [84], .inl 0),
  (61, .aload_n 0, 1, [], .inl 0),
  (62, .getfield 71, 3, [12, 32, 40377, 0, 0], .inl 0),
  (65, .bipush 6, 2, [], .inl (6)),
  (67, .iload_n 1, 1, [], .inl 0),
  (68, .imul, 1, [], .inl 0),
  (69, .iload_n 2, 1, [], .inl 0),
  (70, .iadd, 1, [], .inl 0),
  (71, .aload_n 0, 1, [], .inl 0),
  (72, .getfield 68, 3, [12, 31, 3505, 0, 0], .inl 0),
  (75, .iload_n 2, 1, [], .inl 0),
  (76, .iaload, 1, [], .inl 0),
  (77, .iastore, 1, [], .inl 0),
  (78, .iinc 2 1, 3, [], .inl (1)),
  (81, .goto (-28), 3, [53], .inl 0),
  (84, .iload_n 1, 1, [], .inl 0),
  (85, .aload_n 0, 1, [], .inl 0),
  (86, .invokevirtual 269, 3, [243, 1, 1, 12], .inl 0),
  (89, .if_icmp .ge 18, 3, [107], .inl 0),
  (92, .aload_n 0, 1, [], .inl 0),
  (93, .getfield 300, 3, [12, 29, 0], .inl 0),
  (96, .iload_n 1, 1, [], .inl 0),
  (97, .invokestatic 284, 3, [252, 2, 1], .inl 0),
  (100, .ifCond .eq 7, 3, [107], .inl 0),
  (103, .aload_n 0, 1, [], .inl 0),
  (104, .invokevirtual 330, 3, [269, 1, 0, 12], .inl 0),
  (107, .iinc 1 1, 3, [], .inl (1)),
  (110, .goto (-80), 3, [30, 2], .inl 0),
  (113, .return_, 1, [], .inl 0)]
/-- M.laysNow -/
def tb271 : List (Nat × Instr × Nat × List Nat × (Int32 ⊕ Int64)) := [(0, .aload_n 0, 1, [], .inl 0),
  (1, .invokevirtual 333, 3, [262, 1, 0, 12], .inl 0),
  (4, .aload_n 0, 1, [], .inl 0),
  (5, .invokevirtual 336, 3, [270, 1, 0, 12], .inl 0),
  (8, .return_, 1, [], .inl 0)]
/-- M.seesAt -/
def tb272 : List (Nat × Instr × Nat × List Nat × (Int32 ⊕ Int64)) := [(0, .aload_n 0, 1, [], .inl 0),
  (1, .getfield 62, 3, [12, 27, 3489, 0, 0], .inl 0),
  (4, .aload_n 0, 1, [], .inl 0),
  (5, .getfield 71, 3, [12, 32, 40377, 0, 0], .inl 0),
  (8, .bipush 6, 2, [], .inl (6)),
  (10, .iload_n 2, 1, [], .inl 0),
  (11, .imul, 1, [], .inl 0),
  (12, .iload_n 1, 1, [], .inl 0),
  (13, .iadd, 1, [], .inl 0),
  (14, .iaload, 1, [], .inl 0),
  (15, .iaload, 1, [], .inl 0),
  (16, .ireturn, 1, [], .inl 0)]
/-- M.joyOf -/
def tb273 : List (Nat × Instr × Nat × List Nat × (Int32 ⊕ Int64)) := [(0, .aload_n 0, 1, [], .inl 0),
  (1, .iload_n 2, 1, [], .inl 0),
  (2, .ifCond .ne 12, 3, [14], .inl 0),
  (5, .aload_n 0, 1, [], .inl 0),
  (6, .iload_n 1, 1, [], .inl 0),
  (7, .iconst 0, 1, [], .inl (0)),
  (8, .invokevirtual 339, 3, [272, 3, 1, 12], .inl 0),
  (11, .goto 20, 3, [31], .inl 0),
  (14, .aload_n 0, 1, [], .inl 0),
  (15, .iload_n 1, 1, [], .inl 0),
  (16, .iload_n 2, 1, [], .inl 0),
  (17, .invokevirtual 339, 3, [272, 3, 1, 12], .inl 0),
  (20, .aload_n 0, 1, [], .inl 0),
  (21, .iload_n 1, 1, [], .inl 0),
  (22, .iload_n 2, 1, [], .inl 0),
  (23, .iconst 1, 1, [], .inl (1)),
  (24, .isub, 1, [], .inl 0),
  (25, .invokevirtual 339, 3, [272, 3, 1, 12], .inl 0),
  (28, .iconst (-1), 1, [], .inl (-1)),
  (29, .ixor, 1, [], .inl 0),
  (30, .iand, 1, [], .inl 0),
  (31, .invokevirtual 294, 3, [260, 2, 1, 12], .inl 0),
  (34, .ireturn, 1, [], .inl 0)]
/-- M.lifeOf -/
def tb274 : List (Nat × Instr × Nat × List Nat × (Int32 ⊕ Int64)) := [(0, .iconst 0, 1, [], .inl (0)),
  (1, .istore_n 2, 1, [], .inl 0),
  (2, .iconst 0, 1, [], .inl (0)),
  (3, .istore_n 3, 1, [], .inl 0),
  (4, .iload_n 3, 1, [], .inl 0),
  (5, .aload_n 0, 1, [], .inl 0),
  (6, .invokevirtual 269, 3, [243, 1, 1, 12], .inl 0),
  (9, .if_icmp .gt 18, 3, [27], .inl 0),
  (12, .iload_n 2, 1, [], .inl 0),
  (13, .aload_n 0, 1, [], .inl 0),
  (14, .iload_n 1, 1, [], .inl 0),
  (15, .iload_n 3, 1, [], .inl 0),
  (16, .invokevirtual 342, 3, [273, 3, 1, 12], .inl 0),
  (19, .iadd, 1, [], .inl 0),
  (20, .istore_n 2, 1, [], .inl 0),
  (21, .iinc 3 1, 3, [], .inl (1)),
  (24, .goto (-20), 3, [4], .inl 0),
  (27, .iload_n 2, 1, [], .inl 0),
  (28, .ireturn, 1, [], .inl 0)]
/-- M.joyAll -/
def tb275 : List (Nat × Instr × Nat × List Nat × (Int32 ⊕ Int64)) := [(0, .iconst 0, 1, [], .inl (0)),
  (1, .istore_n 1, 1, [], .inl 0),
  (2, .iconst 0, 1, [], .inl (0)),
  (3, .istore_n 2, 1, [], .inl 0),
  (4, .iload_n 2, 1, [], .inl 0),
  (5, .aload_n 0, 1, [], .inl 0),
  (6, .invokevirtual 263, 3, [242, 1, 1, 12], .inl 0),
  (9, .if_icmp .ge 17, 3, [26], .inl 0),
  (12, .iload_n 1, 1, [], .inl 0),
  (13, .aload_n 0, 1, [], .inl 0),
  (14, .iload_n 2, 1, [], .inl 0),
  (15, .invokevirtual 345, 3, [274, 2, 1, 12], .inl 0),
  (18, .iadd, 1, [], .inl 0),
  (19, .istore_n 1, 1, [], .inl 0),
  (20, .iinc 2 1, 3, [], .inl (1)),
  (23, .goto (-19), 3, [4], .inl 0),
  (26, .iload_n 1, 1, [], .inl 0),
  (27, .ireturn, 1, [], .inl 0)]
/-- M.gladAt -/
def tb276 : List (Nat × Instr × Nat × List Nat × (Int32 ⊕ Int64)) := [(0, .iconst 0, 1, [], .inl (0)),
  (1, .istore_n 2, 1, [], .inl 0),
  (2, .iconst 0, 1, [], .inl (0)),
  (3, .istore_n 3, 1, [], .inl 0),
  (4, .iload_n 3, 1, [], .inl 0),
  (5, .aload_n 0, 1, [], .inl 0),
  (6, .invokevirtual 263, 3, [242, 1, 1, 12], .inl 0),
  (9, .if_icmp .ge 38, 3, [47], .inl 0),
  (12, .iload_n 2, 1, [], .inl 0),
  (13, .aload_n 0, 1, [], .inl 0),
  (14, .iload_n 3, 1, [], .inl 0),
  (15, .aload_n 0, 1, [], .inl 0),
  (16, .getfield 71, 3, [12, 32, 40377, 0, 0], .inl 0),
  (19, .bipush 6, 2, [], .inl (6)),
  (21, .iload_n 1, 1, [], .inl 0),
  (22, .imul, 1, [], .inl 0),
  (23, .iload_n 3, 1, [], .inl 0),
  (24, .iadd, 1, [], .inl 0),
  (25, .iaload, 1, [], .inl 0),
  (26, .invokevirtual 321, 3, [264, 3, 1, 12], .inl 0),
  (29, .ifCond .eq 9, 3, [38], .inl 0),
  (32, .iconst 1, 1, [], .inl (1)),
  (33, .iload_n 3, 1, [], .inl 0),
  (34, .ishl, 1, [], .inl 0),
  (35, .goto 4, 3, [39], .inl 0),
  (38, .iconst 0, 1, [], .inl (0)),
  (39, .ior, 1, [], .inl 0),
  (40, .istore_n 2, 1, [], .inl 0),
  (41, .iinc 3 1, 3, [], .inl (1)),
  (44, .goto (-40), 3, [4], .inl 0),
  (47, .iload_n 2, 1, [], .inl 0),
  (48, .ireturn, 1, [], .inl 0)]
/-- M.drillOf -/
def tb277 : List (Nat × Instr × Nat × List Nat × (Int32 ⊕ Int64)) := [(0, .iconst 0, 1, [], .inl (0)),
  (1, .istore_n 2, 1, [], .inl 0),
  (2, .iload_n 2, 1, [], .inl 0),
  (3, .aload_n 0, 1, [], .inl 0),
  (4, .invokevirtual 269, 3, [243, 1, 1, 12], .inl 0),
  (7, .if_icmp .gt 23, 3, [30], .inl 0),
  (10, .aload_n 0, 1, [], .inl 0),
  (11, .iload_n 2, 1, [], .inl 0),
  (12, .invokevirtual 348, 3, [276, 2, 1, 12], .inl 0),
  (15, .iload_n 1, 1, [], .inl 0),
  (16, .invokestatic 284, 3, [252, 2, 1], .inl 0),
  (19, .ifCond .eq 5, 3, [24], .inl 0),
  (22, .iload_n 2, 1, [], .inl 0),
  (23, .ireturn, 1, [], .inl 0),
  (24, .iinc 2 1, 3, [], .inl (1)),
  (27, .goto (-25), 3, [2], .inl 0),
  (30, .iconst (-1), 1, [], .inl (-1)),
  (31, .ireturn, 1, [], .inl 0)]
/-- M.place -/
def tb278 : List (Nat × Instr × Nat × List Nat × (Int32 ⊕ Int64)) := [(0, .aload_n 0, 1, [], .inl 0),
  (1, .iconst 0, 1, [], .inl (0)),
  (2, .putfield 90, 3, [12, 0, 0], .inl 0),
  (5, .aload_n 0, 1, [], .inl 0),
  (6, .iload_n 1, 1, [], .inl 0),
  (7, .i2l, 1, [], .inl 0),
  (8, .invokevirtual 351, 3, [244, 2, 1, 12], .inl 0),
  (11, .ifCond .eq 23, 3, [34], .inl 0),
  (14, .iload_n 2, 1, [], .inl 0),
  (15, .invokestatic 354, 3, [251, 1, 1], .inl 0),
  (18, .ifCond .eq 16, 3, [34], .inl 0),
  (21, .aload_n 0, 1, [], .inl 0),
  (22, .getfield 37, 3, [12, 18, 31073, 0, 0], .inl 0),
  (25, .iconst 2, 1, [], .inl (2)),
  (26, .iload_n 1, 1, [], .inl 0),
  (27, .imul, 1, [], .inl 0),
  (28, .iload_n 2, 1, [], .inl 0),
  (29, .iadd, 1, [], .inl 0),
  (30, .iaload, 1, [], .inl 0),
  (31, .goto 5, 3, [36], .inl 0),
  (34, .bipush (-2), 2, [], .inl (-2)),
  (36, .ireturn, 1, [], .inl 0)]
/-- M.mark -/
def tb279 : List (Nat × Instr × Nat × List Nat × (Int32 ⊕ Int64)) := [(0, .aload_n 0, 1, [], .inl 0),
  (1, .iconst 0, 1, [], .inl (0)),
  (2, .putfield 90, 3, [12, 0, 0], .inl 0),
  (5, .aload_n 0, 1, [], .inl 0),
  (6, .iload_n 1, 1, [], .inl 0),
  (7, .i2l, 1, [], .inl 0),
  (8, .invokevirtual 357, 3, [245, 2, 1, 12], .inl 0),
  (11, .ifCond .eq 15, 3, [26], .inl 0),
  (14, .iload_n 2, 1, [], .inl 0),
  (15, .i2l, 1, [], .inl 0),
  (16, .lconst 0, 1, [], .inr (0)),
  (17, .ldc2_w 360, 3, [], .inr (2)),
  (20, .invokestatic 95, 3, [204, 3, 1], .inl 0),
  (23, .ifCond .ne 6, 3, [29], .inl 0),
  (26, .bipush (-2), 2, [], .inl (-2)),
  (28, .ireturn, 1, [], .inl 0),
  (29, .iload_n 2, 1, [], .inl 0),
  (30, .iconst 2, 1, [], .inl (2)),
  (31, .if_icmp .ne 12, 3, [43], .inl 0),
  (34, .aload_n 0, 1, [], .inl 0),
  (35, .getfield 43, 3, [12, 20, 18289, 0, 0], .inl 0),
  (38, .iload_n 1, 1, [], .inl 0),
  (39, .iaload, 1, [], .inl 0),
  (40, .goto 13, 3, [53], .inl 0),
  (43, .aload_n 0, 1, [], .inl 0),
  (44, .getfield 40, 3, [12, 19, 36201, 0, 0], .inl 0),
  (47, .iconst 2, 1, [], .inl (2)),
  (48, .iload_n 1, 1, [], .inl 0),
  (49, .imul, 1, [], .inl 0),
  (50, .iload_n 2, 1, [], .inl 0),
  (51, .iadd, 1, [], .inl 0),
  (52, .iaload, 1, [], .inl 0),
  (53, .ireturn, 1, [], .inl 0)]
/-- M.flue -/
def tb280 : List (Nat × Instr × Nat × List Nat × (Int32 ⊕ Int64)) := [(0, .aload_n 0, 1, [], .inl 0),
  (1, .iconst 0, 1, [], .inl (0)),
  (2, .putfield 90, 3, [12, 0, 0], .inl 0),
  (5, .aload_n 0, 1, [], .inl 0),
  (6, .iload_n 1, 1, [], .inl 0),
  (7, .invokevirtual 362, 3, [246, 2, 1, 12], .inl 0),
  (10, .ifCond .eq 15, 3, [25], .inl 0),
  (13, .iload_n 2, 1, [], .inl 0),
  (14, .i2l, 1, [], .inl 0),
  (15, .lconst 0, 1, [], .inr (0)),
  (16, .ldc2_w 360, 3, [], .inr (2)),
  (19, .invokestatic 95, 3, [204, 3, 1], .inl 0),
  (22, .ifCond .ne 6, 3, [28], .inl 0),
  (25, .bipush (-2), 2, [], .inl (-2)),
  (27, .ireturn, 1, [], .inl 0),
  (28, .aload_n 0, 1, [], .inl 0),
  (29, .invokevirtual 303, 3, [259, 1, 0, 12], .inl 0),
  (32, .iload_n 2, 1, [], .inl 0),
  (33, .iconst 2, 1, [], .inl (2)),
  (34, .if_icmp .ge 16, 3, [50], .inl 0),
  (37, .aload_n 0, 1, [], .inl 0),
  (38, .getfield 46, 3, [12, 21, 31097, 0, 0], .inl 0),
  (41, .iconst 2, 1, [], .inl (2)),
  (42, .iload_n 1, 1, [], .inl 0),
  (43, .imul, 1, [], .inl 0),
  (44, .iload_n 2, 1, [], .inl 0),
  (45, .iadd, 1, [], .inl 0),
  (46, .iaload, 1, [], .inl 0),
  (47, .goto 19, 3, [66], .inl 0),
  (50, .aload_n 0, 1, [], .inl 0),
  (51, .getfield 281, 3, [12, 26, 0], .inl 0),
  (54, .iload_n 1, 1, [], .inl 0),
  (55, .invokestatic 284, 3, [252, 2, 1], .inl 0),
  (58, .ifCond .eq 7, 3, [65], .inl 0),
  (61, .iconst 0, 1, [], .inl (0)),
  (62, .goto 4, 3, [66], .inl 0),
  (65, .iconst 1, 1, [], .inl (1)),
  (66, .ireturn, 1, [], .inl 0)]
/-- M.looker -/
def tb281 : List (Nat × Instr × Nat × List Nat × (Int32 ⊕ Int64)) := [(0, .aload_n 0, 1, [], .inl 0),
  (1, .iconst 0, 1, [], .inl (0)),
  (2, .putfield 90, 3, [12, 0, 0], .inl 0),
  (5, .aload_n 0, 1, [], .inl 0),
  (6, .iload_n 1, 1, [], .inl 0),
  (7, .invokevirtual 272, 3, [247, 2, 1, 12], .inl 0),
  (10, .ifCond .eq 23, 3, [33], .inl 0),
  (13, .iload_n 2, 1, [], .inl 0),
  (14, .invokestatic 354, 3, [251, 1, 1], .inl 0),
  (17, .ifCond .eq 16, 3, [33], .inl 0),
  (20, .aload_n 0, 1, [], .inl 0),
  (21, .getfield 52, 3, [12, 23, 31113, 0, 0], .inl 0),
  (24, .iconst 2, 1, [], .inl (2)),
  (25, .iload_n 1, 1, [], .inl 0),
  (26, .imul, 1, [], .inl 0),
  (27, .iload_n 2, 1, [], .inl 0),
  (28, .iadd, 1, [], .inl 0),
  (29, .iaload, 1, [], .inl 0),
  (30, .goto 5, 3, [35], .inl 0),
  (33, .bipush (-2), 2, [], .inl (-2)),
  (35, .ireturn, 1, [], .inl 0)]
/-- M.isWay -/
def tb282 : List (Nat × Instr × Nat × List Nat × (Int32 ⊕ Int64)) := [(0, .iconst 0, 1, [], .inl (0)),
  (1, .istore_n 3, 1, [], .inl 0),
  (2, .iload_n 3, 1, [], .inl 0),
  (3, .aload_n 0, 1, [], .inl 0),
  (4, .getfield 34, 3, [12, 17, 23385, 0, 0], .inl 0),
  (7, .bipush 6, 2, [], .inl (6)),
  (9, .iaload, 1, [], .inl 0),
  (10, .if_icmp .ge 63, 3, [73], .inl 0),
  (13, .aload_n 0, 1, [], .inl 0),
  (14, .getfield 49, 3, [12, 22, 51585, 0, 0], .inl 0),
  (17, .iconst 2, 1, [], .inl (2)),
  (18, .iload_n 3, 1, [], .inl 0),
  (19, .imul, 1, [], .inl 0),
  (20, .iaload, 1, [], .inl 0),
  (21, .iload_n 1, 1, [], .inl 0),
  (22, .if_icmp .ne 17, 3, [39], .inl 0),
  (25, .aload_n 0, 1, [], .inl 0),
  (26, .getfield 49, 3, [12, 22, 51585, 0, 0], .inl 0),
  (29, .iconst 2, 1, [], .inl (2)),
  (30, .iload_n 3, 1, [], .inl 0),
  (31, .imul, 1, [], .inl 0),
  (32, .iconst 1, 1, [], .inl (1)),
  (33, .iadd, 1, [], .inl 0),
  (34, .iaload, 1, [], .inl 0),
  (35, .iload_n 2, 1, [], .inl 0),
  (36, .if_icmp .eq 29, 3, [65], .inl 0),
  (39, .aload_n 0, 1, [], .inl 0),
  (40, .getfield 49, 3, [12, 22, 51585, 0, 0], .inl 0),
  (43, .iconst 2, 1, [], .inl (2)),
  (44, .iload_n 3, 1, [], .inl 0),
  (45, .imul, 1, [], .inl 0),
  (46, .iaload, 1, [], .inl 0),
  (47, .iload_n 2, 1, [], .inl 0),
  (48, .if_icmp .ne 19, 3, [67], .inl 0),
  (51, .aload_n 0, 1, [], .inl 0),
  (52, .getfield 49, 3, [12, 22, 51585, 0, 0], .inl 0),
  (55, .iconst 2, 1, [], .inl (2)),
  (56, .iload_n 3, 1, [], .inl 0),
  (57, .imul, 1, [], .inl 0),
  (58, .iconst 1, 1, [], .inl (1)),
  (59, .iadd, 1, [], .inl 0),
  (60, .iaload, 1, [], .inl 0),
  (61, .iload_n 1, 1, [], .inl 0),
  (62, .if_icmp .ne 5, 3, [67], .inl 0),
  (65, .iconst 1, 1, [], .inl (1)),
  (66, .ireturn, 1, [1], .inl 0),
  (67, .iinc 3 1, 3, [], .inl (1)),
  (70, .goto (-68), 3, [2], .inl 0),
  (73, .iconst 0, 1, [], .inl (0)),
  (74, .ireturn, 1, [1], .inl 0)]
/-- M.ways -/
def tb283 : List (Nat × Instr × Nat × List Nat × (Int32 ⊕ Int64)) := [(0, .aload_n 0, 1, [], .inl 0),
  (1, .iconst 0, 1, [], .inl (0)),
  (2, .putfield 90, 3, [12, 0, 0], .inl 0),
  (5, .aload_n 0, 1, [], .inl 0),
  (6, .iload_n 1, 1, [], .inl 0),
  (7, .i2l, 1, [], .inl 0),
  (8, .invokevirtual 351, 3, [244, 2, 1, 12], .inl 0),
  (11, .ifCond .ne 6, 3, [17], .inl 0),
  (14, .bipush (-2), 2, [], .inl (-2)),
  (16, .ireturn, 1, [], .inl 0),
  (17, .iconst 0, 1, [], .inl (0)),
  (18, .istore_n 2, 1, [], .inl 0),
  (19, .iconst 0, 1, [], .inl (0)),
  (20, .istore_n 3, 1, [], .inl 0),
  (21, .iload_n 3, 1, [], .inl 0),
  (22, .aload_n 0, 1, [], .inl 0),
  (23, .invokevirtual 257, 3, [240, 1, 1, 12], .inl 0),
  (26, .if_icmp .ge 28, 3, [54], .inl 0),
  (29, .iload_n 2, 1, [], .inl 0),
  (30, .aload_n 0, 1, [], .inl 0),
  (31, .iload_n 1, 1, [], .inl 0),
  (32, .iload_n 3, 1, [], .inl 0),
  (33, .invokevirtual 365, 3, [282, 3, 1, 12], .inl 0),
  (36, .ifCond .eq 9, 3, [45], .inl 0),
  (39, .iconst 1, 1, [], .inl (1)),
  (40, .iload_n 3, 1, [], .inl 0),
  (41, .ishl, 1, [], .inl 0),
  (42, .goto 4, 3, [46], .inl 0),
  (45, .iconst 0, 1, [], .inl (0)),
  (46, .ior, 1, [], .inl 0),
  (47, .istore_n 2, 1, [], .inl 0),
  (48, .iinc 3 1, 3, [], .inl (1)),
  (51, .goto (-30), 3, [21], .inl 0),
  (54, .iload_n 2, 1, [], .inl 0),
  (55, .ireturn, 1, [], .inl 0)]
/-- M.sees -/
def tb284 : List (Nat × Instr × Nat × List Nat × (Int32 ⊕ Int64)) := [(0, .aload_n 0, 1, [], .inl 0),
  (1, .iconst 0, 1, [], .inl (0)),
  (2, .putfield 90, 3, [12, 0, 0], .inl 0),
  (5, .aload_n 0, 1, [], .inl 0),
  (6, .iload_n 1, 1, [], .inl 0),
  (7, .i2l, 1, [], .inl 0),
  (8, .invokevirtual 351, 3, [244, 2, 1, 12], .inl 0),
  (11, .ifCond .ne 6, 3, [17], .inl 0),
  (14, .bipush (-2), 2, [], .inl (-2)),
  (16, .ireturn, 1, [], .inl 0),
  (17, .aload_n 0, 1, [], .inl 0),
  (18, .invokevirtual 333, 3, [262, 1, 0, 12], .inl 0),
  (21, .aload_n 0, 1, [], .inl 0),
  (22, .getfield 62, 3, [12, 27, 3489, 0, 0], .inl 0),
  (25, .iload_n 1, 1, [], .inl 0),
  (26, .iaload, 1, [], .inl 0),
  (27, .ireturn, 1, [], .inl 0)]
/-- M.fromOf -/
def tb285 : List (Nat × Instr × Nat × List Nat × (Int32 ⊕ Int64)) := [(0, .iconst 0, 1, [], .inl (0)),
  (1, .istore_n 2, 1, [], .inl 0),
  (2, .iconst 0, 1, [], .inl (0)),
  (3, .istore_n 3, 1, [], .inl 0),
  (4, .iload_n 3, 1, [], .inl 0),
  (5, .aload_n 0, 1, [], .inl 0),
  (6, .invokevirtual 257, 3, [240, 1, 1, 12], .inl 0),
  (9, .if_icmp .ge 32, 3, [41], .inl 0),
  (12, .iload_n 2, 1, [], .inl 0),
  (13, .aload_n 0, 1, [], .inl 0),
  (14, .getfield 62, 3, [12, 27, 3489, 0, 0], .inl 0),
  (17, .iload_n 3, 1, [], .inl 0),
  (18, .iaload, 1, [], .inl 0),
  (19, .iload_n 1, 1, [], .inl 0),
  (20, .invokestatic 284, 3, [252, 2, 1], .inl 0),
  (23, .ifCond .eq 9, 3, [32], .inl 0),
  (26, .iconst 1, 1, [], .inl (1)),
  (27, .iload_n 3, 1, [], .inl 0),
  (28, .ishl, 1, [], .inl 0),
  (29, .goto 4, 3, [33], .inl 0),
  (32, .iconst 0, 1, [], .inl (0)),
  (33, .ior, 1, [], .inl 0),
  (34, .istore_n 2, 1, [], .inl 0),
  (35, .iinc 3 1, 3, [], .inl (1)),
  (38, .goto (-34), 3, [4], .inl 0),
  (41, .iload_n 2, 1, [], .inl 0),
  (42, .ireturn, 1, [], .inl 0)]
/-- M.from -/
def tb286 : List (Nat × Instr × Nat × List Nat × (Int32 ⊕ Int64)) := [(0, .aload_n 0, 1, [], .inl 0),
  (1, .iconst 0, 1, [], .inl (0)),
  (2, .putfield 90, 3, [12, 0, 0], .inl 0),
  (5, .aload_n 0, 1, [], .inl 0),
  (6, .iload_n 1, 1, [], .inl 0),
  (7, .i2l, 1, [], .inl 0),
  (8, .invokevirtual 357, 3, [245, 2, 1, 12], .inl 0),
  (11, .ifCond .ne 6, 3, [17], .inl 0),
  (14, .bipush (-2), 2, [], .inl (-2)),
  (16, .ireturn, 1, [], .inl 0),
  (17, .aload_n 0, 1, [], .inl 0),
  (18, .invokevirtual 333, 3, [262, 1, 0, 12], .inl 0),
  (21, .aload_n 0, 1, [], .inl 0),
  (22, .iload_n 1, 1, [], .inl 0),
  (23, .invokevirtual 368, 3, [285, 2, 1, 12], .inl 0),
  (26, .ireturn, 1, [], .inl 0)]
/-- M.hides -/
def tb287 : List (Nat × Instr × Nat × List Nat × (Int32 ⊕ Int64)) := [(0, .aload_n 0, 1, [], .inl 0),
  (1, .iconst 0, 1, [], .inl (0)),
  (2, .putfield 90, 3, [12, 0, 0], .inl 0),
  (5, .aload_n 0, 1, [], .inl 0),
  (6, .iload_n 1, 1, [], .inl 0),
  (7, .i2l, 1, [], .inl 0),
  (8, .invokevirtual 351, 3, [244, 2, 1, 12], .inl 0),
  (11, .ifCond .eq 12, 3, [23], .inl 0),
  (14, .aload_n 0, 1, [], .inl 0),
  (15, .iload_n 2, 1, [], .inl 0),
  (16, .i2l, 1, [], .inl 0),
  (17, .invokevirtual 357, 3, [245, 2, 1, 12], .inl 0),
  (20, .ifCond .ne 6, 3, [26], .inl 0),
  (23, .bipush (-2), 2, [], .inl (-2)),
  (25, .ireturn, 1, [], .inl 0),
  (26, .aload_n 0, 1, [], .inl 0),
  (27, .invokevirtual 303, 3, [259, 1, 0, 12], .inl 0),
  (30, .aload_n 0, 1, [], .inl 0),
  (31, .iload_n 1, 1, [], .inl 0),
  (32, .iload_n 2, 1, [], .inl 0),
  (33, .invokevirtual 291, 3, [257, 3, 1, 12], .inl 0),
  (36, .ireturn, 1, [], .inl 0)]
/-- M.worth -/
def tb288 : List (Nat × Instr × Nat × List Nat × (Int32 ⊕ Int64)) := [(0, .aload_n 0, 1, [], .inl 0),
  (1, .iconst 0, 1, [], .inl (0)),
  (2, .putfield 90, 3, [12, 0, 0], .inl 0),
  (5, .aload_n 0, 1, [], .inl 0),
  (6, .iload_n 1, 1, [], .inl 0),
  (7, .i2l, 1, [], .inl 0),
  (8, .invokevirtual 351, 3, [244, 2, 1, 12], .inl 0),
  (11, .ifCond .ne 6, 3, [17], .inl 0),
  (14, .bipush (-2), 2, [], .inl (-2)),
  (16, .ireturn, 1, [], .inl 0),
  (17, .aload_n 0, 1, [], .inl 0),
  (18, .invokevirtual 333, 3, [262, 1, 0, 12], .inl 0),
  (21, .aload_n 0, 1, [], .inl 0),
  (22, .iload_n 1, 1, [], .inl 0),
  (23, .invokevirtual 312, 3, [261, 2, 1, 12], .inl 0),
  (26, .ireturn, 1, [], .inl 0)]
/-- M.blind -/
def tb289 : List (Nat × Instr × Nat × List Nat × (Int32 ⊕ Int64)) := [(0, .aload_n 0, 1, [], .inl 0),
  (1, .iconst 0, 1, [], .inl (0)),
  (2, .putfield 90, 3, [12, 0, 0], .inl 0),
  (5, .aload_n 0, 1, [], .inl 0),
  (6, .invokevirtual 266, 3, [239, 1, 1, 12], .inl 0),
  (9, .ifCond .ne 6, 3, [15], .inl 0),
  (12, .bipush (-2), 2, [], .inl (-2)),
  (14, .ireturn, 1, [], .inl 0),
  (15, .aload_n 0, 1, [], .inl 0),
  (16, .invokevirtual 333, 3, [262, 1, 0, 12], .inl 0),
  (19, .iconst 0, 1, [], .inl (0)),
  (20, .istore_n 1, 1, [], .inl 0),
  (21, .iconst 0, 1, [], .inl (0)),
  (22, .istore_n 2, 1, [], .inl 0),
  (23, .iload_n 2, 1, [], .inl 0),
  (24, .aload_n 0, 1, [], .inl 0),
  (25, .invokevirtual 257, 3, [240, 1, 1, 12], .inl 0),
  (28, .if_icmp .ge 28, 3, [56], .inl 0),
  (31, .iload_n 1, 1, [], .inl 0),
  (32, .aload_n 0, 1, [], .inl 0),
  (33, .getfield 62, 3, [12, 27, 3489, 0, 0], .inl 0),
  (36, .iload_n 2, 1, [], .inl 0),
  (37, .iaload, 1, [], .inl 0),
  (38, .ifCond .ne 9, 3, [47], .inl 0),
  (41, .iconst 1, 1, [], .inl (1)),
  (42, .iload_n 2, 1, [], .inl 0),
  (43, .ishl, 1, [], .inl 0),
  (44, .goto 4, 3, [48], .inl 0),
  (47, .iconst 0, 1, [], .inl (0)),
  (48, .ior, 1, [], .inl 0),
  (49, .istore_n 1, 1, [], .inl 0),
  (50, .iinc 2 1, 3, [], .inl (1)),
  (53, .goto (-30), 3, [23], .inl 0),
  (56, .iload_n 1, 1, [], .inl 0),
  (57, .ireturn, 1, [], .inl 0)]
/-- M.lost -/
def tb290 : List (Nat × Instr × Nat × List Nat × (Int32 ⊕ Int64)) := [(0, .aload_n 0, 1, [], .inl 0),
  (1, .iconst 0, 1, [], .inl (0)),
  (2, .putfield 90, 3, [12, 0, 0], .inl 0),
  (5, .aload_n 0, 1, [], .inl 0),
  (6, .invokevirtual 266, 3, [239, 1, 1, 12], .inl 0),
  (9, .ifCond .ne 6, 3, [15], .inl 0),
  (12, .bipush (-2), 2, [], .inl (-2)),
  (14, .ireturn, 1, [], .inl 0),
  (15, .aload_n 0, 1, [], .inl 0),
  (16, .invokevirtual 333, 3, [262, 1, 0, 12], .inl 0),
  (19, .iconst 0, 1, [], .inl (0)),
  (20, .istore_n 1, 1, [], .inl 0),
  (21, .iconst 0, 1, [], .inl (0)),
  (22, .istore_n 2, 1, [], .inl 0),
  (23, .iload_n 2, 1, [], .inl 0),
  (24, .aload_n 0, 1, [], .inl 0),
  (25, .invokevirtual 260, 3, [241, 1, 1, 12], .inl 0),
  (28, .if_icmp .ge 27, 3, [55], .inl 0),
  (31, .iload_n 1, 1, [], .inl 0),
  (32, .aload_n 0, 1, [], .inl 0),
  (33, .iload_n 2, 1, [], .inl 0),
  (34, .invokevirtual 368, 3, [285, 2, 1, 12], .inl 0),
  (37, .ifCond .ne 9, 3, [46], .inl 0),
  (40, .iconst 1, 1, [], .inl (1)),
  (41, .iload_n 2, 1, [], .inl 0),
  (42, .ishl, 1, [], .inl 0),
  (43, .goto 4, 3, [47], .inl 0),
  (46, .iconst 0, 1, [], .inl (0)),
  (47, .ior, 1, [], .inl 0),
  (48, .istore_n 1, 1, [], .inl 0),
  (49, .iinc 2 1, 3, [], .inl (1)),
  (52, .goto (-29), 3, [23], .inl 0),
  (55, .iload_n 1, 1, [], .inl 0),
  (56, .ireturn, 1, [], .inl 0)]
/-- M.best -/
def tb291 : List (Nat × Instr × Nat × List Nat × (Int32 ⊕ Int64)) := [(0, .aload_n 0, 1, [], .inl 0),
  (1, .iconst 0, 1, [], .inl (0)),
  (2, .putfield 90, 3, [12, 0, 0], .inl 0),
  (5, .aload_n 0, 1, [], .inl 0),
  (6, .invokevirtual 266, 3, [239, 1, 1, 12], .inl 0),
  (9, .ifCond .ne 6, 3, [15], .inl 0),
  (12, .bipush (-2), 2, [], .inl (-2)),
  (14, .ireturn, 1, [], .inl 0),
  (15, .aload_n 0, 1, [], .inl 0),
  (16, .invokevirtual 333, 3, [262, 1, 0, 12], .inl 0),
  (19, .iconst (-1), 1, [], .inl (-1)),
  (20, .istore_n 1, 1, [], .inl 0),
  (21, .iconst 0, 1, [], .inl (0)),
  (22, .istore_n 2, 1, [], .inl 0),
  (23, .iload_n 2, 1, [], .inl 0),
  (24, .aload_n 0, 1, [], .inl 0),
  (25, .invokevirtual 257, 3, [240, 1, 1, 12], .inl 0),
  (28, .if_icmp .ge 29, 3, [57], .inl 0),
  (31, .iload_n 1, 1, [], .inl 0),
  (32, .iconst (-1), 1, [], .inl (-1)),
  (33, .if_icmp .eq 16, 3, [49], .inl 0),
  (36, .aload_n 0, 1, [], .inl 0),
  (37, .iload_n 2, 1, [], .inl 0),
  (38, .invokevirtual 312, 3, [261, 2, 1, 12], .inl 0),
  (41, .aload_n 0, 1, [], .inl 0),
  (42, .iload_n 1, 1, [], .inl 0),
  (43, .invokevirtual 312, 3, [261, 2, 1, 12], .inl 0),
  (46, .if_icmp .le 5, 3, [51], .inl 0),
  (49, .iload_n 2, 1, [], .inl 0),
  (50, .istore_n 1, 1, [], .inl 0),
  (51, .iinc 2 1, 3, [], .inl (1)),
  (54, .goto (-31), 3, [23], .inl 0),
  (57, .iload_n 1, 1, [], .inl 0),
  (58, .ireturn, 1, [], .inl 0)]
/-- M.at -/
def tb292 : List (Nat × Instr × Nat × List Nat × (Int32 ⊕ Int64)) := [(0, .aload_n 0, 1, [], .inl 0),
  (1, .iconst 0, 1, [], .inl (0)),
  (2, .putfield 90, 3, [12, 0, 0], .inl 0),
  (5, .aload_n 0, 1, [], .inl 0),
  (6, .iload_n 1, 1, [], .inl 0),
  (7, .invokevirtual 272, 3, [247, 2, 1, 12], .inl 0),
  (10, .ifCond .eq 12, 3, [22], .inl 0),
  (13, .aload_n 0, 1, [], .inl 0),
  (14, .iload_n 2, 1, [], .inl 0),
  (15, .i2l, 1, [], .inl 0),
  (16, .invokevirtual 371, 3, [248, 2, 1, 12], .inl 0),
  (19, .ifCond .ne 6, 3, [25], .inl 0),
  (22, .bipush (-2), 2, [], .inl (-2)),
  (24, .ireturn, 1, [], .inl 0),
  (25, .aload_n 0, 1, [], .inl 0),
  (26, .invokevirtual 374, 3, [271, 1, 0, 12], .inl 0),
  (29, .aload_n 0, 1, [], .inl 0),
  (30, .getfield 71, 3, [12, 32, 40377, 0, 0], .inl 0),
  (33, .bipush 6, 2, [], .inl (6)),
  (35, .iload_n 2, 1, [], .inl 0),
  (36, .imul, 1, [], .inl 0),
  (37, .iload_n 1, 1, [], .inl 0),
  (38, .iadd, 1, [], .inl 0),
  (39, .iaload, 1, [], .inl 0),
  (40, .ireturn, 1, [], .inl 0)]
/-- M.who -/
def tb293 : List (Nat × Instr × Nat × List Nat × (Int32 ⊕ Int64)) := [(0, .aload_n 0, 1, [], .inl 0),
  (1, .iconst 0, 1, [], .inl (0)),
  (2, .putfield 90, 3, [12, 0, 0], .inl 0),
  (5, .aload_n 0, 1, [], .inl 0),
  (6, .iload_n 1, 1, [], .inl 0),
  (7, .i2l, 1, [], .inl 0),
  (8, .invokevirtual 351, 3, [244, 2, 1, 12], .inl 0),
  (11, .ifCond .eq 12, 3, [23], .inl 0),
  (14, .aload_n 0, 1, [], .inl 0),
  (15, .iload_n 2, 1, [], .inl 0),
  (16, .i2l, 1, [], .inl 0),
  (17, .invokevirtual 371, 3, [248, 2, 1, 12], .inl 0),
  (20, .ifCond .ne 6, 3, [26], .inl 0),
  (23, .bipush (-2), 2, [], .inl (-2)),
  (25, .ireturn, 1, [], .inl 0),
  (26, .aload_n 0, 1, [], .inl 0),
  (27, .invokevirtual 374, 3, [271, 1, 0, 12], .inl 0),
  (30, .iconst 0, 1, [], .inl (0)),
  (31, .istore_n 3, 1, [], .inl 0),
  (32, .iload_n 3, 1, [], .inl 0),
  (33, .aload_n 0, 1, [], .inl 0),
  (34, .invokevirtual 263, 3, [242, 1, 1, 12], .inl 0),
  (37, .if_icmp .ge 26, 3, [63], .inl 0),
  (40, .aload_n 0, 1, [], .inl 0),
  (41, .getfield 71, 3, [12, 32, 40377, 0, 0], .inl 0),
  (44, .bipush 6, 2, [], .inl (6)),
  (46, .iload_n 2, 1, [], .inl 0),
  (47, .imul, 1, [], .inl 0),
  (48, .iload_n 3, 1, [], .inl 0),
  (49, .iadd, 1, [], .inl 0),
  (50, .iaload, 1, [], .inl 0),
  (51, .iload_n 1, 1, [], .inl 0),
  (52, .if_icmp .ne 5, 3, [57], .inl 0),
  (55, .iload_n 3, 1, [], .inl 0),
  (56, .ireturn, 1, [], .inl 0),
  (57, .iinc 3 1, 3, [], .inl (1)),
  (60, .goto (-28), 3, [32], .inl 0),
  (63, .iconst (-1), 1, [], .inl (-1)),
  (64, .ireturn, 1, [], .inl 0)]
/-- M.seen -/
def tb294 : List (Nat × Instr × Nat × List Nat × (Int32 ⊕ Int64)) := [(0, .aload_n 0, 1, [], .inl 0),
  (1, .iconst 0, 1, [], .inl (0)),
  (2, .putfield 90, 3, [12, 0, 0], .inl 0),
  (5, .aload_n 0, 1, [], .inl 0),
  (6, .iload_n 1, 1, [], .inl 0),
  (7, .invokevirtual 272, 3, [247, 2, 1, 12], .inl 0),
  (10, .ifCond .eq 12, 3, [22], .inl 0),
  (13, .aload_n 0, 1, [], .inl 0),
  (14, .iload_n 2, 1, [], .inl 0),
  (15, .i2l, 1, [], .inl 0),
  (16, .invokevirtual 371, 3, [248, 2, 1, 12], .inl 0),
  (19, .ifCond .ne 6, 3, [25], .inl 0),
  (22, .bipush (-2), 2, [], .inl (-2)),
  (24, .ireturn, 1, [], .inl 0),
  (25, .aload_n 0, 1, [], .inl 0),
  (26, .invokevirtual 374, 3, [271, 1, 0, 12], .inl 0),
  (29, .iconst 0, 1, [], .inl (0)),
  (30, .istore_n 3, 1, [], .inl 0),
  (31, .iconst 0, 1, [], .inl (0)),
  (32, .istore 4, 2, [], .inl 0),
  (34, .iload 4, 2, [], .inl 0),
  (36, .iload_n 2, 1, [], .inl 0),
  (37, .if_icmp .gt 19, 3, [56], .inl 0),
  (40, .iload_n 3, 1, [], .inl 0),
  (41, .aload_n 0, 1, [], .inl 0),
  (42, .iload_n 1, 1, [], .inl 0),
  (43, .iload 4, 2, [], .inl 0),
  (45, .invokevirtual 339, 3, [272, 3, 1, 12], .inl 0),
  (48, .ior, 1, [], .inl 0),
  (49, .istore_n 3, 1, [], .inl 0),
  (50, .iinc 4 1, 3, [], .inl (1)),
  (53, .goto (-19), 3, [34], .inl 0),
  (56, .iload_n 3, 1, [], .inl 0),
  (57, .ireturn, 1, [], .inl 0)]
/-- M.joy -/
def tb295 : List (Nat × Instr × Nat × List Nat × (Int32 ⊕ Int64)) := [(0, .aload_n 0, 1, [], .inl 0),
  (1, .iconst 0, 1, [], .inl (0)),
  (2, .putfield 90, 3, [12, 0, 0], .inl 0),
  (5, .aload_n 0, 1, [], .inl 0),
  (6, .iload_n 1, 1, [], .inl 0),
  (7, .invokevirtual 272, 3, [247, 2, 1, 12], .inl 0),
  (10, .ifCond .eq 12, 3, [22], .inl 0),
  (13, .aload_n 0, 1, [], .inl 0),
  (14, .iload_n 2, 1, [], .inl 0),
  (15, .i2l, 1, [], .inl 0),
  (16, .invokevirtual 371, 3, [248, 2, 1, 12], .inl 0),
  (19, .ifCond .ne 6, 3, [25], .inl 0),
  (22, .bipush (-2), 2, [], .inl (-2)),
  (24, .ireturn, 1, [], .inl 0),
  (25, .aload_n 0, 1, [], .inl 0),
  (26, .invokevirtual 374, 3, [271, 1, 0, 12], .inl 0),
  (29, .aload_n 0, 1, [], .inl 0),
  (30, .iload_n 1, 1, [], .inl 0),
  (31, .iload_n 2, 1, [], .inl 0),
  (32, .invokevirtual 342, 3, [273, 3, 1, 12], .inl 0),
  (35, .ireturn, 1, [], .inl 0)]
/-- M.life -/
def tb296 : List (Nat × Instr × Nat × List Nat × (Int32 ⊕ Int64)) := [(0, .aload_n 0, 1, [], .inl 0),
  (1, .iconst 0, 1, [], .inl (0)),
  (2, .putfield 90, 3, [12, 0, 0], .inl 0),
  (5, .aload_n 0, 1, [], .inl 0),
  (6, .iload_n 1, 1, [], .inl 0),
  (7, .invokevirtual 272, 3, [247, 2, 1, 12], .inl 0),
  (10, .ifCond .ne 6, 3, [16], .inl 0),
  (13, .bipush (-2), 2, [], .inl (-2)),
  (15, .ireturn, 1, [], .inl 0),
  (16, .aload_n 0, 1, [], .inl 0),
  (17, .invokevirtual 374, 3, [271, 1, 0, 12], .inl 0),
  (20, .aload_n 0, 1, [], .inl 0),
  (21, .iload_n 1, 1, [], .inl 0),
  (22, .invokevirtual 345, 3, [274, 2, 1, 12], .inl 0),
  (25, .ireturn, 1, [], .inl 0)]
/-- M.sad -/
def tb297 : List (Nat × Instr × Nat × List Nat × (Int32 ⊕ Int64)) := [(0, .aload_n 0, 1, [], .inl 0),
  (1, .iconst 0, 1, [], .inl (0)),
  (2, .putfield 90, 3, [12, 0, 0], .inl 0),
  (5, .aload_n 0, 1, [], .inl 0),
  (6, .invokevirtual 266, 3, [239, 1, 1, 12], .inl 0),
  (9, .ifCond .ne 6, 3, [15], .inl 0),
  (12, .bipush (-2), 2, [], .inl (-2)),
  (14, .ireturn, 1, [], .inl 0),
  (15, .aload_n 0, 1, [], .inl 0),
  (16, .invokevirtual 374, 3, [271, 1, 0, 12], .inl 0),
  (19, .iconst (-1), 1, [], .inl (-1)),
  (20, .istore_n 1, 1, [], .inl 0),
  (21, .iconst 0, 1, [], .inl (0)),
  (22, .istore_n 2, 1, [], .inl 0),
  (23, .iload_n 2, 1, [], .inl 0),
  (24, .aload_n 0, 1, [], .inl 0),
  (25, .invokevirtual 263, 3, [242, 1, 1, 12], .inl 0),
  (28, .if_icmp .ge 29, 3, [57], .inl 0),
  (31, .iload_n 1, 1, [], .inl 0),
  (32, .iconst (-1), 1, [], .inl (-1)),
  (33, .if_icmp .eq 16, 3, [49], .inl 0),
  (36, .aload_n 0, 1, [], .inl 0),
  (37, .iload_n 2, 1, [], .inl 0),
  (38, .invokevirtual 345, 3, [274, 2, 1, 12], .inl 0),
  (41, .aload_n 0, 1, [], .inl 0),
  (42, .iload_n 1, 1, [], .inl 0),
  (43, .invokevirtual 345, 3, [274, 2, 1, 12], .inl 0),
  (46, .if_icmp .ge 5, 3, [51], .inl 0),
  (49, .iload_n 2, 1, [], .inl 0),
  (50, .istore_n 1, 1, [], .inl 0),
  (51, .iinc 2 1, 3, [], .inl (1)),
  (54, .goto (-31), 3, [23], .inl 0),
  (57, .iload_n 1, 1, [], .inl 0),
  (58, .ireturn, 1, [], .inl 0)]
/-- M.drill -/
def tb298 : List (Nat × Instr × Nat × List Nat × (Int32 ⊕ Int64)) := [(0, .aload_n 0, 1, [], .inl 0),
  (1, .iconst 0, 1, [], .inl (0)),
  (2, .putfield 90, 3, [12, 0, 0], .inl 0),
  (5, .aload_n 0, 1, [], .inl 0),
  (6, .iload_n 1, 1, [], .inl 0),
  (7, .invokevirtual 272, 3, [247, 2, 1, 12], .inl 0),
  (10, .ifCond .ne 6, 3, [16], .inl 0),
  (13, .bipush (-2), 2, [], .inl (-2)),
  (15, .ireturn, 1, [], .inl 0),
  (16, .aload_n 0, 1, [], .inl 0),
  (17, .invokevirtual 374, 3, [271, 1, 0, 12], .inl 0),
  (20, .aload_n 0, 1, [], .inl 0),
  (21, .iload_n 1, 1, [], .inl 0),
  (22, .invokevirtual 377, 3, [277, 2, 1, 12], .inl 0),
  (25, .ireturn, 1, [], .inl 0)]
/-- M.glad -/
def tb299 : List (Nat × Instr × Nat × List Nat × (Int32 ⊕ Int64)) := [(0, .aload_n 0, 1, [], .inl 0),
  (1, .iconst 0, 1, [], .inl (0)),
  (2, .putfield 90, 3, [12, 0, 0], .inl 0),
  (5, .aload_n 0, 1, [], .inl 0),
  (6, .iload_n 1, 1, [], .inl 0),
  (7, .i2l, 1, [], .inl 0),
  (8, .invokevirtual 371, 3, [248, 2, 1, 12], .inl 0),
  (11, .ifCond .ne 6, 3, [17], .inl 0),
  (14, .bipush (-2), 2, [], .inl (-2)),
  (16, .ireturn, 1, [], .inl 0),
  (17, .aload_n 0, 1, [], .inl 0),
  (18, .invokevirtual 374, 3, [271, 1, 0, 12], .inl 0),
  (21, .aload_n 0, 1, [], .inl 0),
  (22, .iload_n 1, 1, [], .inl 0),
  (23, .invokevirtual 348, 3, [276, 2, 1, 12], .inl 0),
  (26, .ireturn, 1, [], .inl 0)]
/-- M.often -/
def tb300 : List (Nat × Instr × Nat × List Nat × (Int32 ⊕ Int64)) := [(0, .aload_n 0, 1, [], .inl 0),
  (1, .iconst 0, 1, [], .inl (0)),
  (2, .putfield 90, 3, [12, 0, 0], .inl 0),
  (5, .aload_n 0, 1, [], .inl 0),
  (6, .iload_n 1, 1, [], .inl 0),
  (7, .invokevirtual 272, 3, [247, 2, 1, 12], .inl 0),
  (10, .ifCond .ne 6, 3, [16], .inl 0),
  (13, .bipush (-2), 2, [], .inl (-2)),
  (15, .ireturn, 1, [], .inl 0),
  (16, .aload_n 0, 1, [], .inl 0),
  (17, .invokevirtual 374, 3, [271, 1, 0, 12], .inl 0),
  (20, .iconst 0, 1, [], .inl (0)),
  (21, .istore_n 2, 1, [], .inl 0),
  (22, .iconst 0, 1, [], .inl (0)),
  (23, .istore_n 3, 1, [], .inl 0),
  (24, .iload_n 3, 1, [], .inl 0),
  (25, .aload_n 0, 1, [], .inl 0),
  (26, .invokevirtual 269, 3, [243, 1, 1, 12], .inl 0),
  (29, .if_icmp .gt 29, 3, [58], .inl 0),
  (32, .iload_n 2, 1, [], .inl 0),
  (33, .aload_n 0, 1, [], .inl 0),
  (34, .iload_n 3, 1, [], .inl 0),
  (35, .invokevirtual 348, 3, [276, 2, 1, 12], .inl 0),
  (38, .iload_n 1, 1, [], .inl 0),
  (39, .invokestatic 284, 3, [252, 2, 1], .inl 0),
  (42, .ifCond .eq 7, 3, [49], .inl 0),
  (45, .iconst 1, 1, [], .inl (1)),
  (46, .goto 4, 3, [50], .inl 0),
  (49, .iconst 0, 1, [], .inl (0)),
  (50, .iadd, 1, [], .inl 0),
  (51, .istore_n 2, 1, [], .inl 0),
  (52, .iinc 3 1, 3, [], .inl (1)),
  (55, .goto (-31), 3, [24], .inl 0),
  (58, .iload_n 2, 1, [], .inl 0),
  (59, .ireturn, 1, [], .inl 0)]
/-- M.isAsFirst -/
def tb301 : List (Nat × Instr × Nat × List Nat × (Int32 ⊕ Int64)) := [(0, .iconst 0, 1, [], .inl (0)),
  (1, .istore_n 2, 1, [], .inl 0),
  (2, .iload_n 2, 1, [], .inl 0),
  (3, .aload_n 0, 1, [], .inl 0),
  (4, .invokevirtual 263, 3, [242, 1, 1, 12], .inl 0),
  (7, .if_icmp .ge 31, 3, [38], .inl 0),
  (10, .aload_n 0, 1, [], .inl 0),
  (11, .getfield 71, 3, [12, 32, 40377, 0, 0], .inl 0),
  (14, .bipush 6, 2, [], .inl (6)),
  (16, .iload_n 1, 1, [], .inl 0),
  (17, .imul, 1, [], .inl 0),
  (18, .iload_n 2, 1, [], .inl 0),
  (19, .iadd, 1, [], .inl 0),
  (20, .iaload, 1, [], .inl 0),
  (21, .aload_n 0, 1, [], .inl 0),
  (22, .getfield 71, 3, [12, 32, 40377, 0, 0], .inl 0),
  (25, .iload_n 2, 1, [], .inl 0),
  (26, .iaload, 1, [], .inl 0),
  (27, .if_icmp .eq 5, 3, [32], .inl 0),
  (30, .iconst 0, 1, [], .inl (0)),
  (31, .ireturn, 1, [1], .inl 0),
  (32, .iinc 2 1, 3, [], .inl (1)),
  (35, .goto (-33), 3, [2], .inl 0),
  (38, .iconst 1, 1, [], .inl (1)),
  (39, .ireturn, 1, [1], .inl 0)]
/-- M.round -/
def tb302 : List (Nat × Instr × Nat × List Nat × (Int32 ⊕ Int64)) := [(0, .aload_n 0, 1, [], .inl 0),
  (1, .iconst 0, 1, [], .inl (0)),
  (2, .putfield 90, 3, [12, 0, 0], .inl 0),
  (5, .aload_n 0, 1, [], .inl 0),
  (6, .invokevirtual 266, 3, [239, 1, 1, 12], .inl 0),
  (9, .ifCond .ne 6, 3, [15], .inl 0),
  (12, .bipush (-2), 2, [], .inl (-2)),
  (14, .ireturn, 1, [], .inl 0),
  (15, .aload_n 0, 1, [], .inl 0),
  (16, .invokevirtual 374, 3, [271, 1, 0, 12], .inl 0),
  (19, .iconst 1, 1, [], .inl (1)),
  (20, .istore_n 1, 1, [], .inl 0),
  (21, .iload_n 1, 1, [], .inl 0),
  (22, .aload_n 0, 1, [], .inl 0),
  (23, .invokevirtual 269, 3, [243, 1, 1, 12], .inl 0),
  (26, .if_icmp .gt 19, 3, [45], .inl 0),
  (29, .aload_n 0, 1, [], .inl 0),
  (30, .iload_n 1, 1, [], .inl 0),
  (31, .invokevirtual 380, 3, [301, 2, 1, 12], .inl 0),
  (34, .ifCond .eq 5, 3, [39], .inl 0),
  (37, .iload_n 1, 1, [], .inl 0),
  (38, .ireturn, 1, [], .inl 0),
  (39, .iinc 1 1, 3, [], .inl (1)),
  (42, .goto (-21), 3, [21], .inl 0),
  (45, .iconst (-1), 1, [], .inl (-1)),
  (46, .ireturn, 1, [], .inl 0)]
/-- M.walks -/
def tb303 : List (Nat × Instr × Nat × List Nat × (Int32 ⊕ Int64)) := [(0, .aload_n 0, 1, [], .inl 0),
  (1, .iconst 0, 1, [], .inl (0)),
  (2, .putfield 90, 3, [12, 0, 0], .inl 0),
  (5, .aload_n 0, 1, [], .inl 0),
  (6, .iload_n 1, 1, [], .inl 0),
  (7, .invokevirtual 272, 3, [247, 2, 1, 12], .inl 0),
  (10, .ifCond .ne 6, 3, [16], .inl 0),
  (13, .bipush (-2), 2, [], .inl (-2)),
  (15, .ireturn, 1, [], .inl 0),
  (16, .aload_n 0, 1, [], .inl 0),
  (17, .invokevirtual 374, 3, [271, 1, 0, 12], .inl 0),
  (20, .iconst 0, 1, [], .inl (0)),
  (21, .istore_n 2, 1, [], .inl 0),
  (22, .iconst 0, 1, [], .inl (0)),
  (23, .istore_n 3, 1, [], .inl 0),
  (24, .iload_n 3, 1, [], .inl 0),
  (25, .aload_n 0, 1, [], .inl 0),
  (26, .invokevirtual 269, 3, [243, 1, 1, 12], .inl 0),
  (29, .if_icmp .gt 25, 3, [54], .inl 0),
  (32, .iload_n 2, 1, [], .inl 0),
  (33, .iconst 1, 1, [], .inl (1)),
  (34, .aload_n 0, 1, [], .inl 0),
  (35, .getfield 71, 3, [12, 32, 40377, 0, 0], .inl 0),
  (38, .bipush 6, 2, [], .inl (6)),
  (40, .iload_n 3, 1, [], .inl 0),
  (41, .imul, 1, [], .inl 0),
  (42, .iload_n 1, 1, [], .inl 0),
  (43, .iadd, 1, [], .inl 0),
  (44, .iaload, 1, [], .inl 0),
  (45, .ishl, 1, [], .inl 0),
  (46, .ior, 1, [], .inl 0),
  (47, .istore_n 2, 1, [], .inl 0),
  (48, .iinc 3 1, 3, [], .inl (1)),
  (51, .goto (-27), 3, [24], .inl 0),
  (54, .iload_n 2, 1, [], .inl 0),
  (55, .ireturn, 1, [], .inl 0)]
/-- M.joyAt -/
def tb304 : List (Nat × Instr × Nat × List Nat × (Int32 ⊕ Int64)) := [(0, .iconst 0, 1, [], .inl (0)),
  (1, .istore_n 2, 1, [], .inl 0),
  (2, .iconst 0, 1, [], .inl (0)),
  (3, .istore_n 3, 1, [], .inl 0),
  (4, .iload_n 3, 1, [], .inl 0),
  (5, .aload_n 0, 1, [], .inl 0),
  (6, .invokevirtual 263, 3, [242, 1, 1, 12], .inl 0),
  (9, .if_icmp .ge 18, 3, [27], .inl 0),
  (12, .iload_n 2, 1, [], .inl 0),
  (13, .aload_n 0, 1, [], .inl 0),
  (14, .iload_n 3, 1, [], .inl 0),
  (15, .iload_n 1, 1, [], .inl 0),
  (16, .invokevirtual 342, 3, [273, 3, 1, 12], .inl 0),
  (19, .iadd, 1, [], .inl 0),
  (20, .istore_n 2, 1, [], .inl 0),
  (21, .iinc 3 1, 3, [], .inl (1)),
  (24, .goto (-20), 3, [4], .inl 0),
  (27, .iload_n 2, 1, [], .inl 0),
  (28, .ireturn, 1, [], .inl 0)]
/-- M.feast -/
def tb305 : List (Nat × Instr × Nat × List Nat × (Int32 ⊕ Int64)) := [(0, .aload_n 0, 1, [], .inl 0),
  (1, .iconst 0, 1, [], .inl (0)),
  (2, .putfield 90, 3, [12, 0, 0], .inl 0),
  (5, .aload_n 0, 1, [], .inl 0),
  (6, .invokevirtual 266, 3, [239, 1, 1, 12], .inl 0),
  (9, .ifCond .ne 6, 3, [15], .inl 0),
  (12, .bipush (-2), 2, [], .inl (-2)),
  (14, .ireturn, 1, [], .inl 0),
  (15, .aload_n 0, 1, [], .inl 0),
  (16, .invokevirtual 374, 3, [271, 1, 0, 12], .inl 0),
  (19, .iconst 0, 1, [], .inl (0)),
  (20, .istore_n 1, 1, [], .inl 0),
  (21, .iconst 1, 1, [], .inl (1)),
  (22, .istore_n 2, 1, [], .inl 0),
  (23, .iload_n 2, 1, [], .inl 0),
  (24, .aload_n 0, 1, [], .inl 0),
  (25, .invokevirtual 269, 3, [243, 1, 1, 12], .inl 0),
  (28, .if_icmp .gt 24, 3, [52], .inl 0),
  (31, .aload_n 0, 1, [], .inl 0),
  (32, .iload_n 2, 1, [], .inl 0),
  (33, .invokevirtual 383, 3, [304, 2, 1, 12], .inl 0),
  (36, .aload_n 0, 1, [], .inl 0),
  (37, .iload_n 1, 1, [], .inl 0),
  (38, .invokevirtual 383, 3, [304, 2, 1, 12], .inl 0),
  (41, .if_icmp .le 5, 3, [46], .inl 0),
  (44, .iload_n 2, 1, [], .inl 0),
  (45, .istore_n 1, 1, [], .inl 0),
  (46, .iinc 2 1, 3, [], .inl (1)),
  (49, .goto (-26), 3, [23], .inl 0),
  (52, .iload_n 1, 1, [], .inl 0),
  (53, .ireturn, 1, [], .inl 0)]
/-- M.envies -/
def tb306 : List (Nat × Instr × Nat × List Nat × (Int32 ⊕ Int64)) := [(0, .aload_n 0, 1, [], .inl 0),
  (1, .iconst 0, 1, [], .inl (0)),
  (2, .putfield 90, 3, [12, 0, 0], .inl 0),
  (5, .aload_n 0, 1, [], .inl 0),
  (6, .iload_n 1, 1, [], .inl 0),
  (7, .invokevirtual 272, 3, [247, 2, 1, 12], .inl 0),
  (10, .ifCond .eq 12, 3, [22], .inl 0),
  (13, .aload_n 0, 1, [], .inl 0),
  (14, .iload_n 2, 1, [], .inl 0),
  (15, .i2l, 1, [], .inl 0),
  (16, .invokevirtual 371, 3, [248, 2, 1, 12], .inl 0),
  (19, .ifCond .ne 6, 3, [25], .inl 0),
  (22, .bipush (-2), 2, [], .inl (-2)),
  (24, .ireturn, 1, [], .inl 0),
  (25, .aload_n 0, 1, [], .inl 0),
  (26, .invokevirtual 374, 3, [271, 1, 0, 12], .inl 0),
  (29, .iconst 0, 1, [], .inl (0)),
  (30, .istore_n 3, 1, [], .inl 0),
  (31, .iconst 0, 1, [], .inl (0)),
  (32, .istore 4, 2, [], .inl 0),
  (34, .iload 4, 2, [], .inl 0),
  (36, .aload_n 0, 1, [], .inl 0),
  (37, .invokevirtual 263, 3, [242, 1, 1, 12], .inl 0),
  (40, .if_icmp .ge 54, 3, [94], .inl 0),
  (43, .iload_n 3, 1, [], .inl 0),
  (44, .aload_n 0, 1, [], .inl 0),
  (45, .aload_n 0, 1, [], .inl 0),
  (46, .getfield 71, 3, [12, 32, 40377, 0, 0], .inl 0),
  (49, .bipush 6, 2, [], .inl (6)),
  (51, .iload_n 2, 1, [], .inl 0),
  (52, .imul, 1, [], .inl 0),
  (53, .iload 4, 2, [], .inl 0),
  (55, .iadd, 1, [], .inl 0),
  (56, .iaload, 1, [], .inl 0),
  (57, .invokevirtual 312, 3, [261, 2, 1, 12], .inl 0),
  (60, .aload_n 0, 1, [], .inl 0),
  (61, .aload_n 0, 1, [], .inl 0),
  (62, .getfield 71, 3, [12, 32, 40377, 0, 0], .inl 0),
  (65, .bipush 6, 2, [], .inl (6)),
  (67, .iload_n 2, 1, [], .inl 0),
  (68, .imul, 1, [], .inl 0),
  (69, .iload_n 1, 1, [], .inl 0),
  (70, .iadd, 1, [], .inl 0),
  (71, .iaload, 1, [], .inl 0),
  (72, .invokevirtual 312, 3, [261, 2, 1, 12], .inl 0),
  (75, .if_icmp .le 10, 3, [85], .inl 0),
  (78, .iconst 1, 1, [], .inl (1)),
  (79, .iload 4, 2, [], .inl 0),
  (81, .ishl, 1, [], .inl 0),
  (82, .goto 4, 3, [86], .inl 0),
  (85, .iconst 0, 1, [], .inl (0)),
  (86, .ior, 1, [], .inl 0),
  (87, .istore_n 3, 1, [], .inl 0),
  (88, .iinc 4 1, 3, [], .inl (1)),
  (91, .goto (-57), 3, [34], .inl 0),
  (94, .iload_n 3, 1, [], .inl 0),
  (95, .ireturn, 1, [], .inl 0)]
/-- M.trade -/
def tb307 : List (Nat × Instr × Nat × List Nat × (Int32 ⊕ Int64)) := [(0, .aload_n 0, 1, [], .inl 0),
  (1, .iconst 0, 1, [], .inl (0)),
  (2, .putfield 90, 3, [12, 0, 0], .inl 0),
  (5, .aload_n 0, 1, [], .inl 0),
  (6, .iload_n 1, 1, [], .inl 0),
  (7, .i2l, 1, [], .inl 0),
  (8, .invokevirtual 371, 3, [248, 2, 1, 12], .inl 0),
  (11, .ifCond .ne 6, 3, [17], .inl 0),
  (14, .bipush (-2), 2, [], .inl (-2)),
  (16, .ireturn, 1, [], .inl 0),
  (17, .aload_n 0, 1, [], .inl 0),
  (18, .invokevirtual 374, 3, [271, 1, 0, 12], .inl 0),
  (21, .iconst 0, 1, [], .inl (0)),
  (22, .istore_n 2, 1, [], .inl 0),
  (23, .iload_n 2, 1, [], .inl 0),
  (24, .aload_n 0, 1, [], .inl 0),
  (25, .invokevirtual 263, 3, [242, 1, 1, 12], .inl 0),
  (28, .if_icmp .ge 100, 3, [128], .inl 0),
  (31, .iload_n 2, 1, [], .inl 0),
  (32, .iconst 1, 1, [], .inl (1)),
  (33, .iadd, 1, [], .inl 0),
  (34, .istore_n 3, 1, [], .inl 0),
  (35, .iload_n 3, 1, [], .inl 0),
  (36, .aload_n 0, 1, [], .inl 0),
  (37, .invokevirtual 263, 3, [242, 1, 1, 12], .inl 0),
  (40, .if_icmp .ge 82, 3, [122], .inl 0),
  (43, .aload_n 0, 1, [], .inl 0),
  (44, .getfield 71, 3, [12, 32, 40377, 0, 0], .inl 0),
  (47, .bipush 6, 2, [], .inl (6)),
  (49, .iload_n 1, 1, [], .inl 0),
  (50, .imul, 1, [], .inl 0),
  (51, .iload_n 2, 1, [], .inl 0),
  (52, .iadd, 1, [], .inl 0),
  (53, .iaload, 1, [], .inl 0),
  (54, .istore 4, 2, [], .inl 0),
  (56, .aload_n 0, 1, [], .inl 0),
  (57, .getfield 71, 3, [12, 32, 40377, 0, 0], .inl 0),
  (60, .bipush 6, 2, [], .inl (6)),
  (62, .iload_n 1, 1, [], .inl 0),
  (63, .imul, 1, [], .inl 0),
  (64, .iload_n 3, 1, [], .inl 0),
  (65, .iadd, 1, [], .inl 0),
  (66, .iaload, 1, [], .inl 0),
  (67, .istore 5, 2, [], .inl 0),
  (69, .aload_n 0, 1, [], .inl 0),
  (70, .iload_n 2, 1, [], .inl 0),
  (71, .iload 4, 2, [], .inl 0),
  (73, .invokevirtual 321, 3, [264, 3, 1, 12], .inl 0),
  (76, .ifCond .ne 40, 3, [116], .inl 0),
  (79, .aload_n 0, 1, [], .inl 0),
  (80, .iload_n 3, 1, [], .inl 0),
  (81, .iload 5, 2, [], .inl 0),
  (83, .invokevirtual 321, 3, [264, 3, 1, 12], .inl 0),
  (86, .ifCond .ne 30, 3, [116], .inl 0),
  (89, .aload_n 0, 1, [], .inl 0),
  (90, .iload_n 2, 1, [], .inl 0),
  (91, .iload 5, 2, [], .inl 0),
  (93, .invokevirtual 321, 3, [264, 3, 1, 12], .inl 0),
  (96, .ifCond .eq 20, 3, [116], .inl 0),
  (99, .aload_n 0, 1, [], .inl 0),
  (100, .iload_n 3, 1, [], .inl 0),
  (101, .iload 4, 2, [], .inl 0),
  (103, .invokevirtual 321, 3, [264, 3, 1, 12], .inl 0),
  (106, .ifCond .eq 10, 3, [116], .inl 0),
  (109, .bipush 10, 2, [], .inl (10)),
  (111, .iload_n 2, 1, [], .inl 0),
  (112, .imul, 1, [], .inl 0),
  (113, .iload_n 3, 1, [], .inl 0),
  (114, .iadd, 1, [], .inl 0),
  (115, .ireturn, 1, [], .inl 0),
  (116, .iinc 3 1, 3, [], .inl (1)),
  (119, .goto (-84), 3, [35, 4, 5], .inl 0),
  (122, .iinc 2 1, 3, [], .inl (1)),
  (125, .goto (-102), 3, [23, 3], .inl 0),
  (128, .iconst (-1), 1, [], .inl (-1)),
  (129, .ireturn, 1, [], .inl 0)]
/-- M.rowsFrom -/
def tb308 : List (Nat × Instr × Nat × List Nat × (Int32 ⊕ Int64)) := [(0, .iload_n 1, 1, [], .inl 0),
  (1, .aload_n 0, 1, [], .inl 0),
  (2, .invokevirtual 263, 3, [242, 1, 1, 12], .inl 0),
  (5, .if_icmp .ne 149, 3, [154], .inl 0),
  (8, .iconst 0, 1, [], .inl (0)),
  (9, .istore_n 3, 1, [], .inl 0),
  (10, .ldc 140, 2, [], .inl (100000)),
  (12, .istore 4, 2, [], .inl 0),
  (14, .iconst 0, 1, [], .inl (0)),
  (15, .istore 5, 2, [], .inl 0),
  (17, .iload 5, 2, [], .inl 0),
  (19, .iload_n 1, 1, [], .inl 0),
  (20, .if_icmp .ge 51, 3, [71], .inl 0),
  (23, .iload_n 3, 1, [], .inl 0),
  (24, .aload_n 0, 1, [], .inl 0),
  (25, .iload 5, 2, [], .inl 0),
  (27, .aload_n 0, 1, [], .inl 0),
  (28, .getfield 77, 3, [12, 37, 3529, 0, 0], .inl 0),
  (31, .iload 5, 2, [], .inl 0),
  (33, .iaload, 1, [], .inl 0),
  (34, .invokevirtual 321, 3, [264, 3, 1, 12], .inl 0),
  (37, .ifCond .eq 7, 3, [44], .inl 0),
  (40, .iconst 1, 1, [], .inl (1)),
  (41, .goto 4, 3, [45], .inl 0),
  (44, .iconst 0, 1, [], .inl (0)),
  (45, .iadd, 1, [], .inl 0),
  (46, .istore_n 3, 1, [], .inl 0),
  (47, .iload 4, 2, [], .inl 0),
  (49, .aload_n 0, 1, [], .inl 0),
  (50, .aload_n 0, 1, [], .inl 0),
  (51, .getfield 77, 3, [12, 37, 3529, 0, 0], .inl 0),
  (54, .iload 5, 2, [], .inl 0),
  (56, .iaload, 1, [], .inl 0),
  (57, .invokevirtual 312, 3, [261, 2, 1, 12], .inl 0),
  (60, .invokestatic 275, 3, [254, 2, 1], .inl 0),
  (63, .istore 4, 2, [], .inl 0),
  (65, .iinc 5 1, 3, [], .inl (1)),
  (68, .goto (-51), 3, [17], .inl 0),
  (71, .iload_n 3, 1, [], .inl 0),
  (72, .aload_n 0, 1, [], .inl 0),
  (73, .getfield 386, 3, [12, 33, 0], .inl 0),
  (76, .if_icmp .le 42, 3, [118], .inl 0),
  (79, .aload_n 0, 1, [], .inl 0),
  (80, .iload_n 3, 1, [], .inl 0),
  (81, .putfield 386, 3, [12, 33, 0], .inl 0),
  (84, .aload_n 0, 1, [], .inl 0),
  (85, .iconst 0, 1, [], .inl (0)),
  (86, .putfield 389, 3, [12, 34, 0], .inl 0),
  (89, .iconst 0, 1, [], .inl (0)),
  (90, .istore 5, 2, [], .inl 0),
  (92, .iload 5, 2, [], .inl 0),
  (94, .iload_n 1, 1, [], .inl 0),
  (95, .if_icmp .ge 23, 3, [118], .inl 0),
  (98, .aload_n 0, 1, [], .inl 0),
  (99, .getfield 74, 3, [12, 36, 3521, 0, 0], .inl 0),
  (102, .iload 5, 2, [], .inl 0),
  (104, .aload_n 0, 1, [], .inl 0),
  (105, .getfield 77, 3, [12, 37, 3529, 0, 0], .inl 0),
  (108, .iload 5, 2, [], .inl 0),
  (110, .iaload, 1, [], .inl 0),
  (111, .iastore, 1, [], .inl 0),
  (112, .iinc 5 1, 3, [], .inl (1)),
  (115, .goto (-23), 3, [92], .inl 0),
  (118, .aload_n 0, 1, [], .inl 0),
  (119, .dup, 1, [], .inl 0),
  (120, .getfield 389, 3, [12, 34, 0], .inl 0),
  (123, .iload_n 3, 1, [], .inl 0),
  (124, .aload_n 0, 1, [], .inl 0),
  (125, .getfield 386, 3, [12, 33, 0], .inl 0),
  (128, .if_icmp .ne 7, 3, [135], .inl 0),
  (131, .iconst 1, 1, [], .inl (1)),
  (132, .goto 4, 3, [136], .inl 0),
  (135, .iconst 0, 1, [], .inl (0)),
  (136, .iadd, 1, [], .inl 0),
  (137, .putfield 389, 3, [12, 34, 0], .inl 0),
  (140, .aload_n 0, 1, [], .inl 0),
  (141, .aload_n 0, 1, [], .inl 0),
  (142, .getfield 392, 3, [12, 35, 0], .inl 0),
  (145, .iload 4, 2, [], .inl 0),
  (147, .invokestatic 278, 3, [255, 2, 1], .inl 0),
  (150, .putfield 392, 3, [12, 35, 0], .inl 0),
  (153, .return_, 1, [], .inl 0),
  (154, .iconst 0, 1, [], .inl (0)),
  (155, .istore_n 3, 1, [], .inl 0),
  (156, .iload_n 3, 1, [], .inl 0),
  (157, .aload_n 0, 1, [], .inl 0),
  (158, .invokevirtual 257, 3, [240, 1, 1, 12], .inl 0),
  (161, .if_icmp .ge 39, 3, [200], .inl 0),
  (164, .iload_n 2, 1, [], .inl 0),
  (165, .iload_n 3, 1, [], .inl 0),
  (166, .invokestatic 284, 3, [252, 2, 1], .inl 0),
  (169, .ifCond .eq 6, 3, [175], .inl 0),
  (172, .goto 22, 3, [194], .inl 0),
  (175, .aload_n 0, 1, [], .inl 0),
  (176, .getfield 77, 3, [12, 37, 3529, 0, 0], .inl 0),
  (179, .iload_n 1, 1, [], .inl 0),
  (180, .iload_n 3, 1, [], .inl 0),
  (181, .iastore, 1, [], .inl 0),
  (182, .aload_n 0, 1, [], .inl 0),
  (183, .iload_n 1, 1, [], .inl 0),
  (184, .iconst 1, 1, [], .inl (1)),
  (185, .iadd, 1, [], .inl 0),
  (186, .iload_n 2, 1, [], .inl 0),
  (187, .iconst 1, 1, [], .inl (1)),
  (188, .iload_n 3, 1, [], .inl 0),
  (189, .ishl, 1, [], .inl 0),
  (190, .ior, 1, [], .inl 0),
  (191, .invokevirtual 395, 3, [308, 3, 0, 12], .inl 0),
  (194, .iinc 3 1, 3, [], .inl (1)),
  (197, .goto (-41), 3, [156], .inl 0),
  (200, .return_, 1, [], .inl 0)]
/-- M.laysRows -/
def tb309 : List (Nat × Instr × Nat × List Nat × (Int32 ⊕ Int64)) := [(0, .aload_n 0, 1, [], .inl 0),
  (1, .invokevirtual 333, 3, [262, 1, 0, 12], .inl 0),
  (4, .aload_n 0, 1, [], .inl 0),
  (5, .iconst (-1), 1, [], .inl (-1)),
  (6, .putfield 386, 3, [12, 33, 0], .inl 0),
  (9, .aload_n 0, 1, [], .inl 0),
  (10, .iconst 0, 1, [], .inl (0)),
  (11, .putfield 389, 3, [12, 34, 0], .inl 0),
  (14, .aload_n 0, 1, [], .inl 0),
  (15, .iconst (-1), 1, [], .inl (-1)),
  (16, .putfield 392, 3, [12, 35, 0], .inl 0),
  (19, .aload_n 0, 1, [], .inl 0),
  (20, .iconst 0, 1, [], .inl (0)),
  (21, .iconst 0, 1, [], .inl (0)),
  (22, .invokevirtual 395, 3, [308, 3, 0, 12], .inl 0),
  (25, .return_, 1, [], .inl 0)]
/-- M.roster -/
def tb310 : List (Nat × Instr × Nat × List Nat × (Int32 ⊕ Int64)) := [(0, .aload_n 0, 1, [], .inl 0),
  (1, .iconst 0, 1, [], .inl (0)),
  (2, .putfield 90, 3, [12, 0, 0], .inl 0),
  (5, .aload_n 0, 1, [], .inl 0),
  (6, .invokevirtual 266, 3, [239, 1, 1, 12], .inl 0),
  (9, .ifCond .ne 6, 3, [15], .inl 0),
  (12, .bipush (-2), 2, [], .inl (-2)),
  (14, .ireturn, 1, [], .inl 0),
  (15, .aload_n 0, 1, [], .inl 0),
  (16, .invokevirtual 398, 3, [309, 1, 0, 12], .inl 0),
  (19, .aload_n 0, 1, [], .inl 0),
  (20, .getfield 386, 3, [12, 33, 0], .inl 0),
  (23, .ireturn, 1, [], .inl 0)]
/-- M.put -/
def tb311 : List (Nat × Instr × Nat × List Nat × (Int32 ⊕ Int64)) := [(0, .aload_n 0, 1, [], .inl 0),
  (1, .iconst 0, 1, [], .inl (0)),
  (2, .putfield 90, 3, [12, 0, 0], .inl 0),
  (5, .aload_n 0, 1, [], .inl 0),
  (6, .iload_n 1, 1, [], .inl 0),
  (7, .invokevirtual 272, 3, [247, 2, 1, 12], .inl 0),
  (10, .ifCond .ne 6, 3, [16], .inl 0),
  (13, .bipush (-2), 2, [], .inl (-2)),
  (15, .ireturn, 1, [], .inl 0),
  (16, .aload_n 0, 1, [], .inl 0),
  (17, .invokevirtual 398, 3, [309, 1, 0, 12], .inl 0),
  (20, .aload_n 0, 1, [], .inl 0),
  (21, .getfield 74, 3, [12, 36, 3521, 0, 0], .inl 0),
  (24, .iload_n 1, 1, [], .inl 0),
  (25, .iaload, 1, [], .inl 0),
  (26, .ireturn, 1, [], .inl 0)]
/-- M.rosters -/
def tb312 : List (Nat × Instr × Nat × List Nat × (Int32 ⊕ Int64)) := [(0, .aload_n 0, 1, [], .inl 0),
  (1, .iconst 0, 1, [], .inl (0)),
  (2, .putfield 90, 3, [12, 0, 0], .inl 0),
  (5, .aload_n 0, 1, [], .inl 0),
  (6, .invokevirtual 266, 3, [239, 1, 1, 12], .inl 0),
  (9, .ifCond .ne 6, 3, [15], .inl 0),
  (12, .bipush (-2), 2, [], .inl (-2)),
  (14, .ireturn, 1, [], .inl 0),
  (15, .aload_n 0, 1, [], .inl 0),
  (16, .invokevirtual 398, 3, [309, 1, 0, 12], .inl 0),
  (19, .aload_n 0, 1, [], .inl 0),
  (20, .getfield 389, 3, [12, 34, 0], .inl 0),
  (23, .ireturn, 1, [], .inl 0)]
/-- M.fair -/
def tb313 : List (Nat × Instr × Nat × List Nat × (Int32 ⊕ Int64)) := [(0, .aload_n 0, 1, [], .inl 0),
  (1, .iconst 0, 1, [], .inl (0)),
  (2, .putfield 90, 3, [12, 0, 0], .inl 0),
  (5, .aload_n 0, 1, [], .inl 0),
  (6, .invokevirtual 266, 3, [239, 1, 1, 12], .inl 0),
  (9, .ifCond .ne 6, 3, [15], .inl 0),
  (12, .bipush (-2), 2, [], .inl (-2)),
  (14, .ireturn, 1, [], .inl 0),
  (15, .aload_n 0, 1, [], .inl 0),
  (16, .invokevirtual 398, 3, [309, 1, 0, 12], .inl 0),
  (19, .aload_n 0, 1, [], .inl 0),
  (20, .invokevirtual 263, 3, [242, 1, 1, 12], .inl 0),
  (23, .ifCond .ne 7, 3, [30], .inl 0),
  (26, .iconst (-1), 1, [], .inl (-1)),
  (27, .goto 7, 3, [34], .inl 0),
  (30, .aload_n 0, 1, [], .inl 0),
  (31, .getfield 392, 3, [12, 35, 0], .inl 0),
  (34, .ireturn, 1, [], .inl 0)]
/-- M.codeOf -/
def tb314 : List (Nat × Instr × Nat × List Nat × (Int32 ⊕ Int64)) := [(0, .iconst 0, 1, [], .inl (0)),
  (1, .istore_n 2, 1, [], .inl 0),
  (2, .iconst 0, 1, [], .inl (0)),
  (3, .istore_n 3, 1, [], .inl 0),
  (4, .iload_n 3, 1, [], .inl 0),
  (5, .aload_n 0, 1, [], .inl 0),
  (6, .invokevirtual 263, 3, [242, 1, 1, 12], .inl 0),
  (9, .if_icmp .ge 18, 3, [27], .inl 0),
  (12, .bipush 6, 2, [], .inl (6)),
  (14, .iload_n 2, 1, [], .inl 0),
  (15, .imul, 1, [], .inl 0),
  (16, .aload_n 1, 1, [], .inl 0),
  (17, .iload_n 3, 1, [], .inl 0),
  (18, .iaload, 1, [], .inl 0),
  (19, .iadd, 1, [], .inl 0),
  (20, .istore_n 2, 1, [], .inl 0),
  (21, .iinc 3 1, 3, [], .inl (1)),
  (24, .goto (-20), 3, [4], .inl 0),
  (27, .iload_n 2, 1, [], .inl 0),
  (28, .ireturn, 1, [], .inl 0)]
/-- M.decodes -/
def tb315 : List (Nat × Instr × Nat × List Nat × (Int32 ⊕ Int64)) := [(0, .iload_n 1, 1, [], .inl 0),
  (1, .istore_n 2, 1, [], .inl 0),
  (2, .aload_n 0, 1, [], .inl 0),
  (3, .invokevirtual 263, 3, [242, 1, 1, 12], .inl 0),
  (6, .iconst 1, 1, [], .inl (1)),
  (7, .isub, 1, [], .inl 0),
  (8, .istore_n 3, 1, [], .inl 0),
  (9, .iload_n 3, 1, [], .inl 0),
  (10, .ifCond .lt 24, 3, [34], .inl 0),
  (13, .aload_n 0, 1, [], .inl 0),
  (14, .getfield 77, 3, [12, 37, 3529, 0, 0], .inl 0),
  (17, .iload_n 3, 1, [], .inl 0),
  (18, .iload_n 2, 1, [], .inl 0),
  (19, .bipush 6, 2, [], .inl (6)),
  (21, .irem, 1, [], .inl 0),
  (22, .iastore, 1, [], .inl 0),
  (23, .iload_n 2, 1, [], .inl 0),
  (24, .bipush 6, 2, [], .inl (6)),
  (26, .idiv, 1, [], .inl 0),
  (27, .istore_n 2, 1, [], .inl 0),
  (28, .iinc 3 (-1), 3, [], .inl (-1)),
  (31, .goto (-22), 3, [9], .inl 0),
  (34, .return_, 1, [], .inl 0)]
/-- M.isEmpty -/
def tb316 : List (Nat × Instr × Nat × List Nat × (Int32 ⊕ Int64)) := [(0, .iconst 0, 1, [], .inl (0)),
  (1, .istore_n 2, 1, [], .inl 0),
  (2, .iload_n 2, 1, [], .inl 0),
  (3, .aload_n 0, 1, [], .inl 0),
  (4, .invokevirtual 263, 3, [242, 1, 1, 12], .inl 0),
  (7, .if_icmp .ge 21, 3, [28], .inl 0),
  (10, .aload_n 0, 1, [], .inl 0),
  (11, .getfield 77, 3, [12, 37, 3529, 0, 0], .inl 0),
  (14, .iload_n 2, 1, [], .inl 0),
  (15, .iaload, 1, [], .inl 0),
  (16, .iload_n 1, 1, [], .inl 0),
  (17, .if_icmp .ne 5, 3, [22], .inl 0),
  (20, .iconst 0, 1, [], .inl (0)),
  (21, .ireturn, 1, [1], .inl 0),
  (22, .iinc 2 1, 3, [], .inl (1)),
  (25, .goto (-23), 3, [2], .inl 0),
  (28, .iconst 1, 1, [], .inl (1)),
  (29, .ireturn, 1, [1], .inl 0)]
/-- M.laysShifts -/
def tb317 : List (Nat × Instr × Nat × List Nat × (Int32 ⊕ Int64)) := [(0, .iconst 0, 1, [], .inl (0)),
  (1, .istore_n 2, 1, [], .inl 0),
  (2, .iload_n 2, 1, [], .inl 0),
  (3, .ldc 80, 2, [], .inl (46656)),
  (5, .if_icmp .ge 17, 3, [22], .inl 0),
  (8, .aload_n 0, 1, [], .inl 0),
  (9, .getfield 81, 3, [12, 38, 23888337, 0, 0], .inl 0),
  (12, .iload_n 2, 1, [], .inl 0),
  (13, .ldc 140, 2, [], .inl (100000)),
  (15, .iastore, 1, [], .inl 0),
  (16, .iinc 2 1, 3, [], .inl (1)),
  (19, .goto (-17), 3, [2], .inl 0),
  (22, .aload_n 0, 1, [], .inl 0),
  (23, .getfield 81, 3, [12, 38, 23888337, 0, 0], .inl 0),
  (26, .iload_n 1, 1, [], .inl 0),
  (27, .iconst 0, 1, [], .inl (0)),
  (28, .iastore, 1, [], .inl 0),
  (29, .aload_n 0, 1, [], .inl 0),
  (30, .getfield 84, 3, [12, 39, 369113, 0, 0], .inl 0),
  (33, .iconst 0, 1, [], .inl (0)),
  (34, .iload_n 1, 1, [], .inl 0),
  (35, .iastore, 1, [], .inl 0),
  (36, .aload_n 0, 1, [], .inl 0),
  (37, .iconst 1, 1, [], .inl (1)),
  (38, .putfield 401, 3, [12, 40, 0], .inl 0),
  (41, .iconst 0, 1, [], .inl (0)),
  (42, .istore_n 2, 1, [], .inl 0),
  (43, .iload_n 2, 1, [], .inl 0),
  (44, .aload_n 0, 1, [], .inl 0),
  (45, .getfield 401, 3, [12, 40, 0], .inl 0),
  (48, .if_icmp .ge 97, 3, [145], .inl 0),
  (51, .aload_n 0, 1, [], .inl 0),
  (52, .aload_n 0, 1, [], .inl 0),
  (53, .getfield 84, 3, [12, 39, 369113, 0, 0], .inl 0),
  (56, .iload_n 2, 1, [], .inl 0),
  (57, .iaload, 1, [], .inl 0),
  (58, .invokevirtual 404, 3, [315, 2, 0, 12], .inl 0),
  (61, .iconst 0, 1, [], .inl (0)),
  (62, .istore_n 3, 1, [], .inl 0),
  (63, .iload_n 3, 1, [], .inl 0),
  (64, .aload_n 0, 1, [], .inl 0),
  (65, .invokevirtual 263, 3, [242, 1, 1, 12], .inl 0),
  (68, .if_icmp .ge 71, 3, [139], .inl 0),
  (71, .iconst 0, 1, [], .inl (0)),
  (72, .istore 4, 2, [], .inl 0),
  (74, .iload 4, 2, [], .inl 0),
  (76, .aload_n 0, 1, [], .inl 0),
  (77, .invokevirtual 257, 3, [240, 1, 1, 12], .inl 0),
  (80, .if_icmp .ge 53, 3, [133], .inl 0),
  (83, .aload_n 0, 1, [], .inl 0),
  (84, .aload_n 0, 1, [], .inl 0),
  (85, .getfield 77, 3, [12, 37, 3529, 0, 0], .inl 0),
  (88, .iload_n 3, 1, [], .inl 0),
  (89, .iaload, 1, [], .inl 0),
  (90, .iload 4, 2, [], .inl 0),
  (92, .invokevirtual 365, 3, [282, 3, 1, 12], .inl 0),
  (95, .ifCond .eq 32, 3, [127], .inl 0),
  (98, .aload_n 0, 1, [], .inl 0),
  (99, .iload 4, 2, [], .inl 0),
  (101, .invokevirtual 407, 3, [316, 2, 1, 12], .inl 0),
  (104, .ifCond .eq 23, 3, [127], .inl 0),
  (107, .aload_n 0, 1, [], .inl 0),
  (108, .iload_n 3, 1, [], .inl 0),
  (109, .iload 4, 2, [], .inl 0),
  (111, .aload_n 0, 1, [], .inl 0),
  (112, .getfield 81, 3, [12, 38, 23888337, 0, 0], .inl 0),
  (115, .aload_n 0, 1, [], .inl 0),
  (116, .getfield 84, 3, [12, 39, 369113, 0, 0], .inl 0),
  (119, .iload_n 2, 1, [], .inl 0),
  (120, .iaload, 1, [], .inl 0),
  (121, .iaload, 1, [], .inl 0),
  (122, .iconst 1, 1, [], .inl (1)),
  (123, .iadd, 1, [], .inl 0),
  (124, .invokevirtual 410, 3, [318, 4, 0, 12], .inl 0),
  (127, .iinc 4 1, 3, [], .inl (1)),
  (130, .goto (-56), 3, [74], .inl 0),
  (133, .iinc 3 1, 3, [], .inl (1)),
  (136, .goto (-73), 3, [63, 4], .inl 0),
  (139, .iinc 2 1, 3, [], .inl (1)),
  (142, .goto (-99), 3, [43, 3], .inl 0),
  (145, .return_, 1, [], .inl 0)]
/-- M.shiftsTo -/
def tb318 : List (Nat × Instr × Nat × List Nat × (Int32 ⊕ Int64)) := [(0, .aload_n 0, 1, [], .inl 0),
  (1, .getfield 77, 3, [12, 37, 3529, 0, 0], .inl 0),
  (4, .iload_n 1, 1, [], .inl 0),
  (5, .iaload, 1, [], .inl 0),
  (6, .istore 4, 2, [], .inl 0),
  (8, .aload_n 0, 1, [], .inl 0),
  (9, .getfield 77, 3, [12, 37, 3529, 0, 0], .inl 0),
  (12, .iload_n 1, 1, [], .inl 0),
  (13, .iload_n 2, 1, [], .inl 0),
  (14, .iastore, 1, [], .inl 0),
  (15, .aload_n 0, 1, [], .inl 0),
  (16, .aload_n 0, 1, [], .inl 0),
  (17, .getfield 77, 3, [12, 37, 3529, 0, 0], .inl 0),
  (20, .invokevirtual 414, 3, [314, 2, 1, 12], .inl 0),
  (23, .istore 5, 2, [], .inl 0),
  (25, .aload_n 0, 1, [], .inl 0),
  (26, .getfield 77, 3, [12, 37, 3529, 0, 0], .inl 0),
  (29, .iload_n 1, 1, [], .inl 0),
  (30, .iload 4, 2, [], .inl 0),
  (32, .iastore, 1, [], .inl 0),
  (33, .aload_n 0, 1, [], .inl 0),
  (34, .getfield 81, 3, [12, 38, 23888337, 0, 0], .inl 0),
  (37, .iload 5, 2, [], .inl 0),
  (39, .iaload, 1, [], .inl 0),
  (40, .ldc 140, 2, [], .inl (100000)),
  (42, .if_icmp .ge 4, 3, [46], .inl 0),
  (45, .return_, 1, [], .inl 0),
  (46, .aload_n 0, 1, [], .inl 0),
  (47, .getfield 81, 3, [12, 38, 23888337, 0, 0], .inl 0),
  (50, .iload 5, 2, [], .inl 0),
  (52, .iload_n 3, 1, [], .inl 0),
  (53, .iastore, 1, [], .inl 0),
  (54, .aload_n 0, 1, [], .inl 0),
  (55, .getfield 84, 3, [12, 39, 369113, 0, 0], .inl 0),
  (58, .aload_n 0, 1, [], .inl 0),
  (59, .getfield 401, 3, [12, 40, 0], .inl 0),
  (62, .iload 5, 2, [], .inl 0),
  (64, .iastore, 1, [], .inl 0),
  (65, .aload_n 0, 1, [], .inl 0),
  (66, .dup, 1, [], .inl 0),
  (67, .getfield 401, 3, [12, 40, 0], .inl 0),
  (70, .iconst 1, 1, [], .inl (1)),
  (71, .iadd, 1, [], .inl 0),
  (72, .putfield 401, 3, [12, 40, 0], .inl 0),
  (75, .return_, 1, [], .inl 0)]
/-- M.whyNotRow -/
def tb319 : List (Nat × Instr × Nat × List Nat × (Int32 ⊕ Int64)) := [(0, .iload_n 1, 1, [], .inl 0),
  (1, .invokestatic 99, 3, [205, 1, 1], .inl 0),
  (4, .ifCond .eq 10, 3, [14], .inl 0),
  (7, .aload_n 0, 1, [], .inl 0),
  (8, .invokevirtual 266, 3, [239, 1, 1, 12], .inl 0),
  (11, .ifCond .ne 6, 3, [17], .inl 0),
  (14, .bipush (-2), 2, [], .inl (-2)),
  (16, .ireturn, 1, [], .inl 0),
  (17, .aload_n 0, 1, [], .inl 0),
  (18, .getfield 7, 3, [12, 1, 2345, 0, 0], .inl 0),
  (21, .iload_n 1, 1, [], .inl 0),
  (22, .iaload, 1, [], .inl 0),
  (23, .iconst (-1), 1, [], .inl (-1)),
  (24, .if_icmp .ne 6, 3, [30], .inl 0),
  (27, .bipush (-6), 2, [], .inl (-6)),
  (29, .ireturn, 1, [], .inl 0),
  (30, .aload_n 0, 1, [], .inl 0),
  (31, .getfield 13, 3, [12, 2, 2353, 0, 0], .inl 0),
  (34, .iload_n 1, 1, [], .inl 0),
  (35, .iaload, 1, [], .inl 0),
  (36, .aload_n 0, 1, [], .inl 0),
  (37, .invokevirtual 263, 3, [242, 1, 1, 12], .inl 0),
  (40, .if_icmp .eq 6, 3, [46], .inl 0),
  (43, .bipush (-2), 2, [], .inl (-2)),
  (45, .ireturn, 1, [], .inl 0),
  (46, .iconst 0, 1, [], .inl (0)),
  (47, .istore_n 2, 1, [], .inl 0),
  (48, .iconst 0, 1, [], .inl (0)),
  (49, .istore_n 3, 1, [], .inl 0),
  (50, .iload_n 3, 1, [], .inl 0),
  (51, .aload_n 0, 1, [], .inl 0),
  (52, .invokevirtual 263, 3, [242, 1, 1, 12], .inl 0),
  (55, .if_icmp .ge 52, 3, [107], .inl 0),
  (58, .aload_n 0, 1, [], .inl 0),
  (59, .getfield 16, 3, [12, 3, 123194, 0, 0], .inl 0),
  (62, .bipush 60, 2, [], .inl (60)),
  (64, .iload_n 1, 1, [], .inl 0),
  (65, .imul, 1, [], .inl 0),
  (66, .iload_n 3, 1, [], .inl 0),
  (67, .iadd, 1, [], .inl 0),
  (68, .laload, 1, [], .inl 0),
  (69, .lstore 4, 2, [], .inl 0),
  (71, .aload_n 0, 1, [], .inl 0),
  (72, .lload 4, 2, [], .inl 0),
  (74, .invokevirtual 351, 3, [244, 2, 1, 12], .inl 0),
  (77, .ifCond .eq 13, 3, [90], .inl 0),
  (80, .iload_n 2, 1, [], .inl 0),
  (81, .lload 4, 2, [], .inl 0),
  (83, .l2i, 1, [], .inl 0),
  (84, .invokestatic 284, 3, [252, 2, 1], .inl 0),
  (87, .ifCond .eq 6, 3, [93], .inl 0),
  (90, .bipush (-2), 2, [], .inl (-2)),
  (92, .ireturn, 1, [], .inl 0),
  (93, .iload_n 2, 1, [], .inl 0),
  (94, .iconst 1, 1, [], .inl (1)),
  (95, .lload 4, 2, [], .inl 0),
  (97, .l2i, 1, [], .inl 0),
  (98, .ishl, 1, [], .inl 0),
  (99, .ior, 1, [], .inl 0),
  (100, .istore_n 2, 1, [], .inl 0),
  (101, .iinc 3 1, 3, [], .inl (1)),
  (104, .goto (-54), 3, [50, 4], .inl 0),
  (107, .iconst 0, 1, [], .inl (0)),
  (108, .ireturn, 1, [], .inl 0)]
/-- M.startCode -/
def tb320 : List (Nat × Instr × Nat × List Nat × (Int32 ⊕ Int64)) := [(0, .iconst 0, 1, [], .inl (0)),
  (1, .istore_n 1, 1, [], .inl 0),
  (2, .iload_n 1, 1, [], .inl 0),
  (3, .aload_n 0, 1, [], .inl 0),
  (4, .invokevirtual 263, 3, [242, 1, 1, 12], .inl 0),
  (7, .if_icmp .ge 23, 3, [30], .inl 0),
  (10, .aload_n 0, 1, [], .inl 0),
  (11, .getfield 77, 3, [12, 37, 3529, 0, 0], .inl 0),
  (14, .iload_n 1, 1, [], .inl 0),
  (15, .aload_n 0, 1, [], .inl 0),
  (16, .getfield 52, 3, [12, 23, 31113, 0, 0], .inl 0),
  (19, .iconst 2, 1, [], .inl (2)),
  (20, .iload_n 1, 1, [], .inl 0),
  (21, .imul, 1, [], .inl 0),
  (22, .iaload, 1, [], .inl 0),
  (23, .iastore, 1, [], .inl 0),
  (24, .iinc 1 1, 3, [], .inl (1)),
  (27, .goto (-25), 3, [2], .inl 0),
  (30, .aload_n 0, 1, [], .inl 0),
  (31, .aload_n 0, 1, [], .inl 0),
  (32, .getfield 77, 3, [12, 37, 3529, 0, 0], .inl 0),
  (35, .invokevirtual 414, 3, [314, 2, 1, 12], .inl 0),
  (38, .ireturn, 1, [], .inl 0)]
/-- M.laysTo -/
def tb321 : List (Nat × Instr × Nat × List Nat × (Int32 ⊕ Int64)) := [(0, .iconst 0, 1, [], .inl (0)),
  (1, .istore_n 2, 1, [], .inl 0),
  (2, .iload_n 2, 1, [], .inl 0),
  (3, .aload_n 0, 1, [], .inl 0),
  (4, .invokevirtual 263, 3, [242, 1, 1, 12], .inl 0),
  (7, .if_icmp .ge 27, 3, [34], .inl 0),
  (10, .aload_n 0, 1, [], .inl 0),
  (11, .getfield 77, 3, [12, 37, 3529, 0, 0], .inl 0),
  (14, .iload_n 2, 1, [], .inl 0),
  (15, .aload_n 0, 1, [], .inl 0),
  (16, .getfield 16, 3, [12, 3, 123194, 0, 0], .inl 0),
  (19, .bipush 60, 2, [], .inl (60)),
  (21, .iload_n 1, 1, [], .inl 0),
  (22, .imul, 1, [], .inl 0),
  (23, .iload_n 2, 1, [], .inl 0),
  (24, .iadd, 1, [], .inl 0),
  (25, .laload, 1, [], .inl 0),
  (26, .l2i, 1, [], .inl 0),
  (27, .iastore, 1, [], .inl 0),
  (28, .iinc 2 1, 3, [], .inl (1)),
  (31, .goto (-29), 3, [2], .inl 0),
  (34, .aload_n 0, 1, [], .inl 0),
  (35, .aload_n 0, 1, [], .inl 0),
  (36, .aload_n 0, 1, [], .inl 0),
  (37, .getfield 77, 3, [12, 37, 3529, 0, 0], .inl 0),
  (40, .invokevirtual 414, 3, [314, 2, 1, 12], .inl 0),
  (43, .invokevirtual 418, 3, [317, 2, 0, 12], .inl 0),
  (46, .aload_n 0, 1, [], .inl 0),
  (47, .getfield 81, 3, [12, 38, 23888337, 0, 0], .inl 0),
  (50, .aload_n 0, 1, [], .inl 0),
  (51, .invokevirtual 421, 3, [320, 1, 1, 12], .inl 0),
  (54, .iaload, 1, [], .inl 0),
  (55, .ireturn, 1, [], .inl 0)]
/-- M.shifts -/
def tb322 : List (Nat × Instr × Nat × List Nat × (Int32 ⊕ Int64)) := [(0, .aload_n 0, 1, [], .inl 0),
  (1, .iconst 0, 1, [], .inl (0)),
  (2, .putfield 90, 3, [12, 0, 0], .inl 0),
  (5, .aload_n 0, 1, [], .inl 0),
  (6, .iload_n 1, 1, [], .inl 0),
  (7, .invokevirtual 424, 3, [319, 2, 1, 12], .inl 0),
  (10, .istore_n 2, 1, [], .inl 0),
  (11, .iload_n 2, 1, [], .inl 0),
  (12, .ifCond .eq 5, 3, [17], .inl 0),
  (15, .iload_n 2, 1, [], .inl 0),
  (16, .ireturn, 1, [], .inl 0),
  (17, .aload_n 0, 1, [], .inl 0),
  (18, .iload_n 1, 1, [], .inl 0),
  (19, .invokevirtual 427, 3, [321, 2, 1, 12], .inl 0),
  (22, .istore_n 3, 1, [], .inl 0),
  (23, .iload_n 3, 1, [], .inl 0),
  (24, .ldc 140, 2, [], .inl (100000)),
  (26, .if_icmp .lt 7, 3, [33], .inl 0),
  (29, .iconst (-1), 1, [], .inl (-1)),
  (30, .goto 4, 3, [34], .inl 0),
  (33, .iload_n 3, 1, [], .inl 0),
  (34, .ireturn, 1, [], .inl 0)]
/-- M.first -/
def tb323 : List (Nat × Instr × Nat × List Nat × (Int32 ⊕ Int64)) := [(0, .aload_n 0, 1, [], .inl 0),
  (1, .iconst 0, 1, [], .inl (0)),
  (2, .putfield 90, 3, [12, 0, 0], .inl 0),
  (5, .aload_n 0, 1, [], .inl 0),
  (6, .iload_n 1, 1, [], .inl 0),
  (7, .invokevirtual 424, 3, [319, 2, 1, 12], .inl 0),
  (10, .istore_n 2, 1, [], .inl 0),
  (11, .iload_n 2, 1, [], .inl 0),
  (12, .ifCond .eq 5, 3, [17], .inl 0),
  (15, .iload_n 2, 1, [], .inl 0),
  (16, .ireturn, 1, [], .inl 0),
  (17, .aload_n 0, 1, [], .inl 0),
  (18, .iload_n 1, 1, [], .inl 0),
  (19, .invokevirtual 427, 3, [321, 2, 1, 12], .inl 0),
  (22, .istore_n 3, 1, [], .inl 0),
  (23, .iload_n 3, 1, [], .inl 0),
  (24, .ldc 140, 2, [], .inl (100000)),
  (26, .if_icmp .ge 7, 3, [33], .inl 0),
  (29, .iload_n 3, 1, [], .inl 0),
  (30, .ifCond .ne 5, 3, [35], .inl 0),
  (33, .iconst (-1), 1, [], .inl (-1)),
  (34, .ireturn, 1, [], .inl 0),
  (35, .iconst 0, 1, [], .inl (0)),
  (36, .istore 4, 2, [], .inl 0),
  (38, .iload 4, 2, [], .inl 0),
  (40, .aload_n 0, 1, [], .inl 0),
  (41, .invokevirtual 263, 3, [242, 1, 1, 12], .inl 0),
  (44, .if_icmp .ge 91, 3, [135], .inl 0),
  (47, .iconst 0, 1, [], .inl (0)),
  (48, .istore 5, 2, [], .inl 0),
  (50, .iload 5, 2, [], .inl 0),
  (52, .aload_n 0, 1, [], .inl 0),
  (53, .invokevirtual 257, 3, [240, 1, 1, 12], .inl 0),
  (56, .if_icmp .ge 73, 3, [129], .inl 0),
  (59, .aload_n 0, 1, [], .inl 0),
  (60, .invokevirtual 421, 3, [320, 1, 1, 12], .inl 0),
  (63, .pop, 1, [], .inl 0),
  (64, .aload_n 0, 1, [], .inl 0),
  (65, .aload_n 0, 1, [], .inl 0),
  (66, .getfield 77, 3, [12, 37, 3529, 0, 0], .inl 0),
  (69, .iload 4, 2, [], .inl 0),
  (71, .iaload, 1, [], .inl 0),
  (72, .iload 5, 2, [], .inl 0),
  (74, .invokevirtual 365, 3, [282, 3, 1, 12], .inl 0),
  (77, .ifCond .eq 46, 3, [123], .inl 0),
  (80, .aload_n 0, 1, [], .inl 0),
  (81, .iload 5, 2, [], .inl 0),
  (83, .invokevirtual 407, 3, [316, 2, 1, 12], .inl 0),
  (86, .ifCond .ne 6, 3, [92], .inl 0),
  (89, .goto 34, 3, [123], .inl 0),
  (92, .aload_n 0, 1, [], .inl 0),
  (93, .getfield 77, 3, [12, 37, 3529, 0, 0], .inl 0),
  (96, .iload 4, 2, [], .inl 0),
  (98, .iload 5, 2, [], .inl 0),
  (100, .iastore, 1, [], .inl 0),
  (101, .aload_n 0, 1, [], .inl 0),
  (102, .getfield 81, 3, [12, 38, 23888337, 0, 0], .inl 0),
  (105, .aload_n 0, 1, [], .inl 0),
  (106, .aload_n 0, 1, [], .inl 0),
  (107, .getfield 77, 3, [12, 37, 3529, 0, 0], .inl 0),
  (110, .invokevirtual 414, 3, [314, 2, 1, 12], .inl 0),
  (113, .iaload, 1, [], .inl 0),
  (114, .iload_n 3, 1, [], .inl 0),
  (115, .iconst 1, 1, [], .inl (1)),
  (116, .isub, 1, [], .inl 0),
  (117, .if_icmp .ne 6, 3, [123], .inl 0),
  (120, .iload 4, 2, [], .inl 0),
  (122, .ireturn, 1, [], .inl 0),
  (123, .iinc 5 1, 3, [], .inl (1)),
  (126, .goto (-76), 3, [50], .inl 0),
  (129, .iinc 4 1, 3, [], .inl (1)),
  (132, .goto (-94), 3, [38, 5], .inl 0),
  (135, .iconst (-1), 1, [], .inl (-1)),
  (136, .ireturn, 1, [], .inl 0)]
/-- M.reach -/
def tb324 : List (Nat × Instr × Nat × List Nat × (Int32 ⊕ Int64)) := [(0, .aload_n 0, 1, [], .inl 0),
  (1, .iconst 0, 1, [], .inl (0)),
  (2, .putfield 90, 3, [12, 0, 0], .inl 0),
  (5, .aload_n 0, 1, [], .inl 0),
  (6, .invokevirtual 266, 3, [239, 1, 1, 12], .inl 0),
  (9, .ifCond .ne 6, 3, [15], .inl 0),
  (12, .bipush (-2), 2, [], .inl (-2)),
  (14, .ireturn, 1, [], .inl 0),
  (15, .aload_n 0, 1, [], .inl 0),
  (16, .aload_n 0, 1, [], .inl 0),
  (17, .invokevirtual 421, 3, [320, 1, 1, 12], .inl 0),
  (20, .invokevirtual 418, 3, [317, 2, 0, 12], .inl 0),
  (23, .aload_n 0, 1, [], .inl 0),
  (24, .getfield 401, 3, [12, 40, 0], .inl 0),
  (27, .ireturn, 1, [], .inl 0)]
/-- M.far -/
def tb325 : List (Nat × Instr × Nat × List Nat × (Int32 ⊕ Int64)) := [(0, .aload_n 0, 1, [], .inl 0),
  (1, .iconst 0, 1, [], .inl (0)),
  (2, .putfield 90, 3, [12, 0, 0], .inl 0),
  (5, .aload_n 0, 1, [], .inl 0),
  (6, .invokevirtual 266, 3, [239, 1, 1, 12], .inl 0),
  (9, .ifCond .ne 6, 3, [15], .inl 0),
  (12, .bipush (-2), 2, [], .inl (-2)),
  (14, .ireturn, 1, [], .inl 0),
  (15, .aload_n 0, 1, [], .inl 0),
  (16, .aload_n 0, 1, [], .inl 0),
  (17, .invokevirtual 421, 3, [320, 1, 1, 12], .inl 0),
  (20, .invokevirtual 418, 3, [317, 2, 0, 12], .inl 0),
  (23, .aload_n 0, 1, [], .inl 0),
  (24, .getfield 81, 3, [12, 38, 23888337, 0, 0], .inl 0),
  (27, .aload_n 0, 1, [], .inl 0),
  (28, .getfield 84, 3, [12, 39, 369113, 0, 0], .inl 0),
  (31, .aload_n 0, 1, [], .inl 0),
  (32, .getfield 401, 3, [12, 40, 0], .inl 0),
  (35, .iconst 1, 1, [], .inl (1)),
  (36, .isub, 1, [], .inl 0),
  (37, .iaload, 1, [], .inl 0),
  (38, .iaload, 1, [], .inl 0),
  (39, .ireturn, 1, [], .inl 0)]
/-- M.times -/
def tb326 : List (Nat × Instr × Nat × List Nat × (Int32 ⊕ Int64)) := [(0, .iload_n 0, 1, [], .inl 0),
  (1, .iconst 2, 1, [], .inl (2)),
  (2, .if_icmp .ge 7, 3, [9], .inl 0),
  (5, .iconst 1, 1, [], .inl (1)),
  (6, .goto 11, 3, [17], .inl 0),
  (9, .iload_n 0, 1, [], .inl 0),
  (10, .iload_n 0, 1, [], .inl 0),
  (11, .iconst 1, 1, [], .inl (1)),
  (12, .isub, 1, [], .inl 0),
  (13, .invokestatic 430, 3, [326, 1, 1], .inl 0),
  (16, .imul, 1, [], .inl 0),
  (17, .ireturn, 1, [], .inl 0)]
/-- M.common -/
def tb327 : List (Nat × Instr × Nat × List Nat × (Int32 ⊕ Int64)) := [(0, .lload_n 2, 1, [], .inl 0),
  (1, .lconst 0, 1, [], .inr (0)),
  (2, .lcmp, 1, [], .inl 0),
  (3, .ifCond .ne 7, 3, [10], .inl 0),
  (6, .lload_n 0, 1, [], .inl 0),
  (7, .goto 10, 3, [17], .inl 0),
  (10, .lload_n 2, 1, [], .inl 0),
  (11, .lload_n 0, 1, [], .inl 0),
  (12, .lload_n 2, 1, [], .inl 0),
  (13, .lrem, 1, [], .inl 0),
  (14, .invokestatic 433, 3, [327, 2, 2], .inl 0),
  (17, .lreturn, 1, [], .inl 0)]
/-- M.part -/
def tb328 : List (Nat × Instr × Nat × List Nat × (Int32 ⊕ Int64)) := [(0, .iload 4, 2, [], .inl 0),
  (2, .ifCond .ne 7, 3, [9], .inl 0),
  (5, .lload_n 0, 1, [], .inl 0),
  (6, .goto 4, 3, [10], .inl 0),
  (9, .lload_n 2, 1, [], .inl 0),
  (10, .lload_n 0, 1, [], .inl 0),
  (11, .lload_n 2, 1, [], .inl 0),
  (12, .invokestatic 433, 3, [327, 2, 2], .inl 0),
  (15, .ldiv, 1, [], .inl 0),
  (16, .lreturn, 1, [], .inl 0)]
/-- M.takesOf -/
def tb329 : List (Nat × Instr × Nat × List Nat × (Int32 ⊕ Int64)) := [(0, .iconst (-1), 1, [], .inl (-1)),
  (1, .istore_n 3, 1, [], .inl 0),
  (2, .iconst 0, 1, [], .inl (0)),
  (3, .istore 4, 2, [], .inl 0),
  (5, .iload 4, 2, [], .inl 0),
  (7, .aload_n 0, 1, [], .inl 0),
  (8, .invokevirtual 257, 3, [240, 1, 1, 12], .inl 0),
  (11, .if_icmp .ge 56, 3, [67], .inl 0),
  (14, .iload_n 2, 1, [], .inl 0),
  (15, .iload 4, 2, [], .inl 0),
  (17, .invokestatic 284, 3, [252, 2, 1], .inl 0),
  (20, .ifCond .eq 6, 3, [26], .inl 0),
  (23, .goto 38, 3, [61], .inl 0),
  (26, .aload_n 0, 1, [], .inl 0),
  (27, .iload_n 1, 1, [], .inl 0),
  (28, .iload 4, 2, [], .inl 0),
  (30, .invokevirtual 321, 3, [264, 3, 1, 12], .inl 0),
  (33, .ifCond .eq 6, 3, [39], .inl 0),
  (36, .iload 4, 2, [], .inl 0),
  (38, .ireturn, 1, [], .inl 0),
  (39, .iload_n 3, 1, [], .inl 0),
  (40, .iconst (-1), 1, [], .inl (-1)),
  (41, .if_icmp .eq 17, 3, [58], .inl 0),
  (44, .aload_n 0, 1, [], .inl 0),
  (45, .iload 4, 2, [], .inl 0),
  (47, .invokevirtual 312, 3, [261, 2, 1, 12], .inl 0),
  (50, .aload_n 0, 1, [], .inl 0),
  (51, .iload_n 3, 1, [], .inl 0),
  (52, .invokevirtual 312, 3, [261, 2, 1, 12], .inl 0),
  (55, .if_icmp .le 6, 3, [61], .inl 0),
  (58, .iload 4, 2, [], .inl 0),
  (60, .istore_n 3, 1, [], .inl 0),
  (61, .iinc 4 1, 3, [], .inl (1)),
  (64, .goto (-59), 3, [5], .inl 0),
  (67, .iload_n 3, 1, [], .inl 0),
  (68, .ireturn, 1, [], .inl 0)]
/-- M.lotsFrom -/
def tb330 : List (Nat × Instr × Nat × List Nat × (Int32 ⊕ Int64)) := [(0, .iconst 0, 1, [], .inl (0)),
  (1, .istore 5, 2, [], .inl 0),
  (3, .iconst 0, 1, [], .inl (0)),
  (4, .istore 6, 2, [], .inl 0),
  (6, .iload 6, 2, [], .inl 0),
  (8, .aload_n 0, 1, [], .inl 0),
  (9, .invokevirtual 263, 3, [242, 1, 1, 12], .inl 0),
  (12, .if_icmp .ge 93, 3, [105], .inl 0),
  (15, .iload_n 3, 1, [], .inl 0),
  (16, .iload 6, 2, [], .inl 0),
  (18, .invokestatic 284, 3, [252, 2, 1], .inl 0),
  (21, .ifCond .eq 6, 3, [27], .inl 0),
  (24, .goto 75, 3, [99], .inl 0),
  (27, .aload_n 0, 1, [], .inl 0),
  (28, .iload 6, 2, [], .inl 0),
  (30, .iload 4, 2, [], .inl 0),
  (32, .invokevirtual 437, 3, [329, 3, 1, 12], .inl 0),
  (35, .istore 7, 2, [], .inl 0),
  (37, .iload 6, 2, [], .inl 0),
  (39, .iload_n 1, 1, [], .inl 0),
  (40, .if_icmp .ne 35, 3, [75], .inl 0),
  (43, .iload 5, 2, [], .inl 0),
  (45, .iload 7, 2, [], .inl 0),
  (47, .iload_n 2, 1, [], .inl 0),
  (48, .if_icmp .ne 20, 3, [68], .inl 0),
  (51, .aload_n 0, 1, [], .inl 0),
  (52, .invokevirtual 263, 3, [242, 1, 1, 12], .inl 0),
  (55, .iload_n 3, 1, [], .inl 0),
  (56, .invokestatic 440, 3, [253, 1, 1], .inl 0),
  (59, .isub, 1, [], .inl 0),
  (60, .iconst 1, 1, [], .inl (1)),
  (61, .isub, 1, [], .inl 0),
  (62, .invokestatic 430, 3, [326, 1, 1], .inl 0),
  (65, .goto 4, 3, [69], .inl 0),
  (68, .iconst 0, 1, [], .inl (0)),
  (69, .iadd, 1, [], .inl 0),
  (70, .istore 5, 2, [], .inl 0),
  (72, .goto 27, 3, [99], .inl 0),
  (75, .iload 5, 2, [], .inl 0),
  (77, .aload_n 0, 1, [], .inl 0),
  (78, .iload_n 1, 1, [], .inl 0),
  (79, .iload_n 2, 1, [], .inl 0),
  (80, .iload_n 3, 1, [], .inl 0),
  (81, .iconst 1, 1, [], .inl (1)),
  (82, .iload 6, 2, [], .inl 0),
  (84, .ishl, 1, [], .inl 0),
  (85, .ior, 1, [], .inl 0),
  (86, .iload 4, 2, [], .inl 0),
  (88, .iconst 1, 1, [], .inl (1)),
  (89, .iload 7, 2, [], .inl 0),
  (91, .ishl, 1, [], .inl 0),
  (92, .ior, 1, [], .inl 0),
  (93, .invokevirtual 443, 3, [330, 5, 1, 12], .inl 0),
  (96, .iadd, 1, [], .inl 0),
  (97, .istore 5, 2, [], .inl 0),
  (99, .iinc 6 1, 3, [], .inl (1)),
  (102, .goto (-96), 3, [6], .inl 0),
  (105, .iload 5, 2, [], .inl 0),
  (107, .ireturn, 1, [], .inl 0)]
/-- M.lot -/
def tb331 : List (Nat × Instr × Nat × List Nat × (Int32 ⊕ Int64)) := [(0, .aload_n 0, 1, [], .inl 0),
  (1, .iconst 0, 1, [], .inl (0)),
  (2, .putfield 90, 3, [12, 0, 0], .inl 0),
  (5, .aload_n 0, 1, [], .inl 0),
  (6, .iload_n 1, 1, [], .inl 0),
  (7, .invokevirtual 272, 3, [247, 2, 1, 12], .inl 0),
  (10, .ifCond .eq 19, 3, [29], .inl 0),
  (13, .aload_n 0, 1, [], .inl 0),
  (14, .iload_n 2, 1, [], .inl 0),
  (15, .i2l, 1, [], .inl 0),
  (16, .invokevirtual 351, 3, [244, 2, 1, 12], .inl 0),
  (19, .ifCond .eq 10, 3, [29], .inl 0),
  (22, .iload_n 3, 1, [], .inl 0),
  (23, .invokestatic 354, 3, [251, 1, 1], .inl 0),
  (26, .ifCond .ne 6, 3, [32], .inl 0),
  (29, .bipush (-2), 2, [], .inl (-2)),
  (31, .ireturn, 1, [], .inl 0),
  (32, .aload_n 0, 1, [], .inl 0),
  (33, .invokevirtual 333, 3, [262, 1, 0, 12], .inl 0),
  (36, .aload_n 0, 1, [], .inl 0),
  (37, .iload_n 1, 1, [], .inl 0),
  (38, .iload_n 2, 1, [], .inl 0),
  (39, .iconst 0, 1, [], .inl (0)),
  (40, .iconst 0, 1, [], .inl (0)),
  (41, .invokevirtual 443, 3, [330, 5, 1, 12], .inl 0),
  (44, .i2l, 1, [], .inl 0),
  (45, .aload_n 0, 1, [], .inl 0),
  (46, .invokevirtual 263, 3, [242, 1, 1, 12], .inl 0),
  (49, .invokestatic 430, 3, [326, 1, 1], .inl 0),
  (52, .i2l, 1, [], .inl 0),
  (53, .iload_n 3, 1, [], .inl 0),
  (54, .invokestatic 447, 3, [328, 3, 2], .inl 0),
  (57, .l2i, 1, [], .inl 0),
  (58, .ireturn, 1, [], .inl 0)]
/-- M.allOf -/
def tb332 : List (Nat × Instr × Nat × List Nat × (Int32 ⊕ Int64)) := [(0, .iconst 0, 1, [], .inl (0)),
  (1, .istore_n 2, 1, [], .inl 0),
  (2, .iconst 0, 1, [], .inl (0)),
  (3, .istore_n 3, 1, [], .inl 0),
  (4, .iload_n 3, 1, [], .inl 0),
  (5, .aload_n 0, 1, [], .inl 0),
  (6, .invokevirtual 257, 3, [240, 1, 1, 12], .inl 0),
  (9, .if_icmp .ge 30, 3, [39], .inl 0),
  (12, .iload_n 2, 1, [], .inl 0),
  (13, .iload_n 1, 1, [], .inl 0),
  (14, .iload_n 3, 1, [], .inl 0),
  (15, .invokestatic 284, 3, [252, 2, 1], .inl 0),
  (18, .ifCond .eq 12, 3, [30], .inl 0),
  (21, .aload_n 0, 1, [], .inl 0),
  (22, .getfield 62, 3, [12, 27, 3489, 0, 0], .inl 0),
  (25, .iload_n 3, 1, [], .inl 0),
  (26, .iaload, 1, [], .inl 0),
  (27, .goto 4, 3, [31], .inl 0),
  (30, .iconst 0, 1, [], .inl (0)),
  (31, .ior, 1, [], .inl 0),
  (32, .istore_n 2, 1, [], .inl 0),
  (33, .iinc 3 1, 3, [], .inl (1)),
  (36, .goto (-32), 3, [4], .inl 0),
  (39, .iload_n 2, 1, [], .inl 0),
  (40, .ireturn, 1, [], .inl 0)]
/-- M.all -/
def tb333 : List (Nat × Instr × Nat × List Nat × (Int32 ⊕ Int64)) := [(0, .aload_n 0, 1, [], .inl 0),
  (1, .iconst 0, 1, [], .inl (0)),
  (2, .putfield 90, 3, [12, 0, 0], .inl 0),
  (5, .aload_n 0, 1, [], .inl 0),
  (6, .invokevirtual 266, 3, [239, 1, 1, 12], .inl 0),
  (9, .ifCond .eq 21, 3, [30], .inl 0),
  (12, .iload_n 1, 1, [], .inl 0),
  (13, .i2l, 1, [], .inl 0),
  (14, .lconst 0, 1, [], .inr (0)),
  (15, .iconst 1, 1, [], .inl (1)),
  (16, .aload_n 0, 1, [], .inl 0),
  (17, .invokevirtual 257, 3, [240, 1, 1, 12], .inl 0),
  (20, .ishl, 1, [], .inl 0),
  (21, .i2l, 1, [], .inl 0),
  (22, .lconst 1, 1, [], .inr (1)),
  (23, .lsub, 1, [], .inl 0),
  (24, .invokestatic 95, 3, [204, 3, 1], .inl 0),
  (27, .ifCond .ne 6, 3, [33], .inl 0),
  (30, .bipush (-2), 2, [], .inl (-2)),
  (32, .ireturn, 1, [], .inl 0),
  (33, .aload_n 0, 1, [], .inl 0),
  (34, .invokevirtual 333, 3, [262, 1, 0, 12], .inl 0),
  (37, .aload_n 0, 1, [], .inl 0),
  (38, .aload_n 0, 1, [], .inl 0),
  (39, .iload_n 1, 1, [], .inl 0),
  (40, .invokevirtual 451, 3, [332, 2, 1, 12], .inl 0),
  (43, .invokevirtual 294, 3, [260, 2, 1, 12], .inl 0),
  (46, .ireturn, 1, [], .inl 0)]
/-- M.share -/
def tb334 : List (Nat × Instr × Nat × List Nat × (Int32 ⊕ Int64)) := [(0, .aload_n 0, 1, [], .inl 0),
  (1, .iconst 0, 1, [], .inl (0)),
  (2, .putfield 90, 3, [12, 0, 0], .inl 0),
  (5, .aload_n 0, 1, [], .inl 0),
  (6, .iload_n 1, 1, [], .inl 0),
  (7, .i2l, 1, [], .inl 0),
  (8, .invokevirtual 351, 3, [244, 2, 1, 12], .inl 0),
  (11, .ifCond .eq 10, 3, [21], .inl 0),
  (14, .iload_n 2, 1, [], .inl 0),
  (15, .invokestatic 354, 3, [251, 1, 1], .inl 0),
  (18, .ifCond .ne 6, 3, [24], .inl 0),
  (21, .bipush (-2), 2, [], .inl (-2)),
  (23, .ireturn, 1, [], .inl 0),
  (24, .aload_n 0, 1, [], .inl 0),
  (25, .invokevirtual 333, 3, [262, 1, 0, 12], .inl 0),
  (28, .iconst 0, 1, [], .inl (0)),
  (29, .istore_n 3, 1, [], .inl 0),
  (30, .iconst 0, 1, [], .inl (0)),
  (31, .istore 4, 2, [], .inl 0),
  (33, .iload 4, 2, [], .inl 0),
  (35, .iconst 1, 1, [], .inl (1)),
  (36, .aload_n 0, 1, [], .inl 0),
  (37, .invokevirtual 257, 3, [240, 1, 1, 12], .inl 0),
  (40, .ishl, 1, [], .inl 0),
  (41, .if_icmp .ge 75, 3, [116], .inl 0),
  (44, .iload 4, 2, [], .inl 0),
  (46, .iload_n 1, 1, [], .inl 0),
  (47, .invokestatic 284, 3, [252, 2, 1], .inl 0),
  (50, .ifCond .eq 6, 3, [56], .inl 0),
  (53, .goto 57, 3, [110], .inl 0),
  (56, .iload 4, 2, [], .inl 0),
  (58, .invokestatic 440, 3, [253, 1, 1], .inl 0),
  (61, .istore 5, 2, [], .inl 0),
  (63, .iload_n 3, 1, [], .inl 0),
  (64, .iload 5, 2, [], .inl 0),
  (66, .invokestatic 430, 3, [326, 1, 1], .inl 0),
  (69, .aload_n 0, 1, [], .inl 0),
  (70, .invokevirtual 257, 3, [240, 1, 1, 12], .inl 0),
  (73, .iload 5, 2, [], .inl 0),
  (75, .isub, 1, [], .inl 0),
  (76, .iconst 1, 1, [], .inl (1)),
  (77, .isub, 1, [], .inl 0),
  (78, .invokestatic 430, 3, [326, 1, 1], .inl 0),
  (81, .imul, 1, [], .inl 0),
  (82, .aload_n 0, 1, [], .inl 0),
  (83, .aload_n 0, 1, [], .inl 0),
  (84, .iload 4, 2, [], .inl 0),
  (86, .iconst 1, 1, [], .inl (1)),
  (87, .iload_n 1, 1, [], .inl 0),
  (88, .ishl, 1, [], .inl 0),
  (89, .ior, 1, [], .inl 0),
  (90, .invokevirtual 451, 3, [332, 2, 1, 12], .inl 0),
  (93, .invokevirtual 294, 3, [260, 2, 1, 12], .inl 0),
  (96, .aload_n 0, 1, [], .inl 0),
  (97, .aload_n 0, 1, [], .inl 0),
  (98, .iload 4, 2, [], .inl 0),
  (100, .invokevirtual 451, 3, [332, 2, 1, 12], .inl 0),
  (103, .invokevirtual 294, 3, [260, 2, 1, 12], .inl 0),
  (106, .isub, 1, [], .inl 0),
  (107, .imul, 1, [], .inl 0),
  (108, .iadd, 1, [], .inl 0),
  (109, .istore_n 3, 1, [], .inl 0),
  (110, .iinc 4 1, 3, [], .inl (1)),
  (113, .goto (-80), 3, [33], .inl 0),
  (116, .iload_n 3, 1, [], .inl 0),
  (117, .i2l, 1, [], .inl 0),
  (118, .aload_n 0, 1, [], .inl 0),
  (119, .invokevirtual 257, 3, [240, 1, 1, 12], .inl 0),
  (122, .invokestatic 430, 3, [326, 1, 1], .inl 0),
  (125, .i2l, 1, [], .inl 0),
  (126, .iload_n 2, 1, [], .inl 0),
  (127, .invokestatic 447, 3, [328, 3, 2], .inl 0),
  (130, .l2i, 1, [], .inl 0),
  (131, .ireturn, 1, [], .inl 0)]
/-- M.watchOf -/
def tb335 : List (Nat × Instr × Nat × List Nat × (Int32 ⊕ Int64)) := [(0, .aload_n 0, 1, [], .inl 0),
  (1, .invokevirtual 333, 3, [262, 1, 0, 12], .inl 0),
  (4, .iconst 1, 1, [], .inl (1)),
  (5, .aload_n 0, 1, [], .inl 0),
  (6, .invokevirtual 257, 3, [240, 1, 1, 12], .inl 0),
  (9, .ishl, 1, [], .inl 0),
  (10, .iconst 1, 1, [], .inl (1)),
  (11, .isub, 1, [], .inl 0),
  (12, .istore_n 1, 1, [], .inl 0),
  (13, .iload_n 1, 1, [], .inl 0),
  (14, .istore_n 2, 1, [], .inl 0),
  (15, .iconst 0, 1, [], .inl (0)),
  (16, .istore_n 3, 1, [], .inl 0),
  (17, .iload_n 3, 1, [], .inl 0),
  (18, .iload_n 1, 1, [], .inl 0),
  (19, .if_icmp .ge 35, 3, [54], .inl 0),
  (22, .iload_n 3, 1, [], .inl 0),
  (23, .invokestatic 440, 3, [253, 1, 1], .inl 0),
  (26, .iload_n 2, 1, [], .inl 0),
  (27, .invokestatic 440, 3, [253, 1, 1], .inl 0),
  (30, .if_icmp .ge 18, 3, [48], .inl 0),
  (33, .aload_n 0, 1, [], .inl 0),
  (34, .iload_n 3, 1, [], .inl 0),
  (35, .invokevirtual 451, 3, [332, 2, 1, 12], .inl 0),
  (38, .aload_n 0, 1, [], .inl 0),
  (39, .iload_n 1, 1, [], .inl 0),
  (40, .invokevirtual 451, 3, [332, 2, 1, 12], .inl 0),
  (43, .if_icmp .ne 5, 3, [48], .inl 0),
  (46, .iload_n 3, 1, [], .inl 0),
  (47, .istore_n 2, 1, [], .inl 0),
  (48, .iinc 3 1, 3, [], .inl (1)),
  (51, .goto (-34), 3, [17], .inl 0),
  (54, .iload_n 2, 1, [], .inl 0),
  (55, .ireturn, 1, [], .inl 0)]
/-- M.watch -/
def tb336 : List (Nat × Instr × Nat × List Nat × (Int32 ⊕ Int64)) := [(0, .aload_n 0, 1, [], .inl 0),
  (1, .iconst 0, 1, [], .inl (0)),
  (2, .putfield 90, 3, [12, 0, 0], .inl 0),
  (5, .aload_n 0, 1, [], .inl 0),
  (6, .invokevirtual 266, 3, [239, 1, 1, 12], .inl 0),
  (9, .ifCond .eq 13, 3, [22], .inl 0),
  (12, .aload_n 0, 1, [], .inl 0),
  (13, .invokevirtual 454, 3, [335, 1, 1, 12], .inl 0),
  (16, .invokestatic 440, 3, [253, 1, 1], .inl 0),
  (19, .goto 5, 3, [24], .inl 0),
  (22, .bipush (-2), 2, [], .inl (-2)),
  (24, .ireturn, 1, [], .inl 0)]
/-- M.watches -/
def tb337 : List (Nat × Instr × Nat × List Nat × (Int32 ⊕ Int64)) := [(0, .aload_n 0, 1, [], .inl 0),
  (1, .iconst 0, 1, [], .inl (0)),
  (2, .putfield 90, 3, [12, 0, 0], .inl 0),
  (5, .aload_n 0, 1, [], .inl 0),
  (6, .invokevirtual 266, 3, [239, 1, 1, 12], .inl 0),
  (9, .ifCond .eq 10, 3, [19], .inl 0),
  (12, .aload_n 0, 1, [], .inl 0),
  (13, .invokevirtual 454, 3, [335, 1, 1, 12], .inl 0),
  (16, .goto 5, 3, [21], .inl 0),
  (19, .bipush (-2), 2, [], .inl (-2)),
  (21, .ireturn, 1, [], .inl 0)]
/-- M.whyNotBook -/
def tb338 : List (Nat × Instr × Nat × List Nat × (Int32 ⊕ Int64)) := [(0, .iload_n 1, 1, [], .inl 0),
  (1, .invokestatic 99, 3, [205, 1, 1], .inl 0),
  (4, .ifCond .eq 11, 3, [15], .inl 0),
  (7, .aload_n 0, 1, [], .inl 0),
  (8, .iload_n 2, 1, [], .inl 0),
  (9, .invokevirtual 272, 3, [247, 2, 1, 12], .inl 0),
  (12, .ifCond .ne 6, 3, [18], .inl 0),
  (15, .bipush (-2), 2, [], .inl (-2)),
  (17, .ireturn, 1, [], .inl 0),
  (18, .aload_n 0, 1, [], .inl 0),
  (19, .getfield 7, 3, [12, 1, 2345, 0, 0], .inl 0),
  (22, .iload_n 1, 1, [], .inl 0),
  (23, .iaload, 1, [], .inl 0),
  (24, .iconst (-1), 1, [], .inl (-1)),
  (25, .if_icmp .ne 6, 3, [31], .inl 0),
  (28, .bipush (-6), 2, [], .inl (-6)),
  (30, .ireturn, 1, [], .inl 0),
  (31, .aload_n 0, 1, [], .inl 0),
  (32, .getfield 13, 3, [12, 2, 2353, 0, 0], .inl 0),
  (35, .iload_n 1, 1, [], .inl 0),
  (36, .iaload, 1, [], .inl 0),
  (37, .iconst 3, 1, [], .inl (3)),
  (38, .irem, 1, [], .inl 0),
  (39, .ifCond .eq 6, 3, [45], .inl 0),
  (42, .bipush (-2), 2, [], .inl (-2)),
  (44, .ireturn, 1, [], .inl 0),
  (45, .iconst 0, 1, [], .inl (0)),
  (46, .istore_n 3, 1, [], .inl 0),
  (47, .iload_n 3, 1, [], .inl 0),
  (48, .aload_n 0, 1, [], .inl 0),
  (49, .getfield 13, 3, [12, 2, 2353, 0, 0], .inl 0),
  (52, .iload_n 1, 1, [], .inl 0),
  (53, .iaload, 1, [], .inl 0),
  (54, .if_icmp .ge 67, 3, [121], .inl 0),
  (57, .bipush 60, 2, [], .inl (60)),
  (59, .iload_n 1, 1, [], .inl 0),
  (60, .imul, 1, [], .inl 0),
  (61, .iload_n 3, 1, [], .inl 0),
  (62, .iadd, 1, [], .inl 0),
  (63, .istore 4, 2, [], .inl 0),
  (65, .aload_n 0, 1, [], .inl 0),
  (66, .aload_n 0, 1, [], .inl 0),
  (67, .getfield 16, 3, [12, 3, 123194, 0, 0], .inl 0),
  (70, .iload 4, 2, [], .inl 0),
  (72, .laload, 1, [], .inl 0),
  (73, .invokevirtual 371, 3, [248, 2, 1, 12], .inl 0),
  (76, .ifCond .eq 36, 3, [112], .inl 0),
  (79, .aload_n 0, 1, [], .inl 0),
  (80, .aload_n 0, 1, [], .inl 0),
  (81, .getfield 16, 3, [12, 3, 123194, 0, 0], .inl 0),
  (84, .iload 4, 2, [], .inl 0),
  (86, .iconst 1, 1, [], .inl (1)),
  (87, .iadd, 1, [], .inl 0),
  (88, .laload, 1, [], .inl 0),
  (89, .invokevirtual 357, 3, [245, 2, 1, 12], .inl 0),
  (92, .ifCond .eq 20, 3, [112], .inl 0),
  (95, .aload_n 0, 1, [], .inl 0),
  (96, .getfield 16, 3, [12, 3, 123194, 0, 0], .inl 0),
  (99, .iload 4, 2, [], .inl 0),
  (101, .iconst 2, 1, [], .inl (2)),
  (102, .iadd, 1, [], .inl 0),
  (103, .laload, 1, [], .inl 0),
  (104, .lconst 0, 1, [], .inr (0)),
  (105, .lconst 1, 1, [], .inr (1)),
  (106, .invokestatic 95, 3, [204, 3, 1], .inl 0),
  (109, .ifCond .ne 6, 3, [115], .inl 0),
  (112, .bipush (-2), 2, [], .inl (-2)),
  (114, .ireturn, 1, [], .inl 0),
  (115, .iinc 3 3, 3, [], .inl (3)),
  (118, .goto (-71), 3, [47, 4], .inl 0),
  (121, .iconst 0, 1, [], .inl (0)),
  (122, .ireturn, 1, [], .inl 0)]
/-- M.isSo -/
def tb339 : List (Nat × Instr × Nat × List Nat × (Int32 ⊕ Int64)) := [(0, .iconst 0, 1, [], .inl (0)),
  (1, .istore_n 3, 1, [], .inl 0),
  (2, .iload_n 3, 1, [], .inl 0),
  (3, .aload_n 0, 1, [], .inl 0),
  (4, .getfield 13, 3, [12, 2, 2353, 0, 0], .inl 0),
  (7, .iload_n 1, 1, [], .inl 0),
  (8, .iaload, 1, [], .inl 0),
  (9, .if_icmp .ge 67, 3, [76], .inl 0),
  (12, .bipush 60, 2, [], .inl (60)),
  (14, .iload_n 1, 1, [], .inl 0),
  (15, .imul, 1, [], .inl 0),
  (16, .iload_n 3, 1, [], .inl 0),
  (17, .iadd, 1, [], .inl 0),
  (18, .istore 4, 2, [], .inl 0),
  (20, .aload_n 0, 1, [], .inl 0),
  (21, .iload_n 2, 1, [], .inl 0),
  (22, .aload_n 0, 1, [], .inl 0),
  (23, .getfield 16, 3, [12, 3, 123194, 0, 0], .inl 0),
  (26, .iload 4, 2, [], .inl 0),
  (28, .laload, 1, [], .inl 0),
  (29, .l2i, 1, [], .inl 0),
  (30, .invokevirtual 339, 3, [272, 3, 1, 12], .inl 0),
  (33, .aload_n 0, 1, [], .inl 0),
  (34, .getfield 16, 3, [12, 3, 123194, 0, 0], .inl 0),
  (37, .iload 4, 2, [], .inl 0),
  (39, .iconst 1, 1, [], .inl (1)),
  (40, .iadd, 1, [], .inl 0),
  (41, .laload, 1, [], .inl 0),
  (42, .l2i, 1, [], .inl 0),
  (43, .invokestatic 284, 3, [252, 2, 1], .inl 0),
  (46, .aload_n 0, 1, [], .inl 0),
  (47, .getfield 16, 3, [12, 3, 123194, 0, 0], .inl 0),
  (50, .iload 4, 2, [], .inl 0),
  (52, .iconst 2, 1, [], .inl (2)),
  (53, .iadd, 1, [], .inl 0),
  (54, .laload, 1, [], .inl 0),
  (55, .lconst 1, 1, [], .inr (1)),
  (56, .lcmp, 1, [], .inl 0),
  (57, .ifCond .ne 7, 3, [64], .inl 0),
  (60, .iconst 1, 1, [], .inl (1)),
  (61, .goto 4, 3, [65], .inl 0),
  (64, .iconst 0, 1, [], .inl (0)),
  (65, .if_icmp .eq 5, 3, [70], .inl 0),
  (68, .iconst 0, 1, [], .inl (0)),
  (69, .ireturn, 1, [1], .inl 0),
  (70, .iinc 3 3, 3, [], .inl (3)),
  (73, .goto (-71), 3, [2, 4], .inl 0),
  (76, .iconst 1, 1, [], .inl (1)),
  (77, .ireturn, 1, [1], .inl 0)]
/-- M.laysFirsts -/
def tb340 : List (Nat × Instr × Nat × List Nat × (Int32 ⊕ Int64)) := [(0, .aload_n 0, 1, [], .inl 0),
  (1, .iconst 0, 1, [], .inl (0)),
  (2, .putfield 457, 3, [12, 41, 0], .inl 0),
  (5, .iconst 0, 1, [], .inl (0)),
  (6, .istore_n 3, 1, [], .inl 0),
  (7, .iload_n 3, 1, [], .inl 0),
  (8, .bipush 78, 2, [], .inl (78)),
  (10, .if_icmp .ge 16, 3, [26], .inl 0),
  (13, .aload_n 0, 1, [], .inl 0),
  (14, .getfield 87, 3, [12, 44, 40417, 0, 0], .inl 0),
  (17, .iload_n 3, 1, [], .inl 0),
  (18, .iconst 0, 1, [], .inl (0)),
  (19, .iastore, 1, [], .inl 0),
  (20, .iinc 3 1, 3, [], .inl (1)),
  (23, .goto (-16), 3, [7], .inl 0),
  (26, .iconst 0, 1, [], .inl (0)),
  (27, .istore_n 3, 1, [], .inl 0),
  (28, .iload_n 3, 1, [], .inl 0),
  (29, .aload_n 0, 1, [], .inl 0),
  (30, .invokevirtual 257, 3, [240, 1, 1, 12], .inl 0),
  (33, .if_icmp .ge 137, 3, [170], .inl 0),
  (36, .aload_n 0, 1, [], .inl 0),
  (37, .invokevirtual 333, 3, [262, 1, 0, 12], .inl 0),
  (40, .iconst 0, 1, [], .inl (0)),
  (41, .istore 4, 2, [], .inl 0),
  (43, .iload 4, 2, [], .inl 0),
  (45, .aload_n 0, 1, [], .inl 0),
  (46, .invokevirtual 263, 3, [242, 1, 1, 12], .inl 0),
  (49, .if_icmp .ge 35, 3, [84], .inl 0),
  (52, .aload_n 0, 1, [], .inl 0),
  (53, .getfield 65, 3, [12, 30, 3497, 0, 0], .inl 0),
  (56, .iload 4, 2, [], .inl 0),
  (58, .iaload, 1, [], .inl 0),
  (59, .iload_n 3, 1, [], .inl 0),
  (60, .if_icmp .ne 18, 3, [78], .inl 0),
  (63, .aload_n 0, 1, [], .inl 0),
  (64, .getfield 65, 3, [12, 30, 3497, 0, 0], .inl 0),
  (67, .iload 4, 2, [], .inl 0),
  (69, .aload_n 0, 1, [], .inl 0),
  (70, .getfield 52, 3, [12, 23, 31113, 0, 0], .inl 0),
  (73, .iconst 2, 1, [], .inl (2)),
  (74, .iload_n 2, 1, [], .inl 0),
  (75, .imul, 1, [], .inl 0),
  (76, .iaload, 1, [], .inl 0),
  (77, .iastore, 1, [], .inl 0),
  (78, .iinc 4 1, 3, [], .inl (1)),
  (81, .goto (-38), 3, [43], .inl 0),
  (84, .aload_n 0, 1, [], .inl 0),
  (85, .getfield 65, 3, [12, 30, 3497, 0, 0], .inl 0),
  (88, .iload_n 2, 1, [], .inl 0),
  (89, .iload_n 3, 1, [], .inl 0),
  (90, .iastore, 1, [], .inl 0),
  (91, .aload_n 0, 1, [], .inl 0),
  (92, .invokevirtual 336, 3, [270, 1, 0, 12], .inl 0),
  (95, .aload_n 0, 1, [], .inl 0),
  (96, .iload_n 1, 1, [], .inl 0),
  (97, .iload_n 2, 1, [], .inl 0),
  (98, .invokevirtual 460, 3, [339, 3, 1, 12], .inl 0),
  (101, .ifCond .ne 6, 3, [107], .inl 0),
  (104, .goto 60, 3, [164], .inl 0),
  (107, .aload_n 0, 1, [], .inl 0),
  (108, .dup, 1, [], .inl 0),
  (109, .getfield 457, 3, [12, 41, 0], .inl 0),
  (112, .iconst 1, 1, [], .inl (1)),
  (113, .iload_n 3, 1, [], .inl 0),
  (114, .ishl, 1, [], .inl 0),
  (115, .ior, 1, [], .inl 0),
  (116, .putfield 457, 3, [12, 41, 0], .inl 0),
  (119, .iconst 0, 1, [], .inl (0)),
  (120, .istore 4, 2, [], .inl 0),
  (122, .iload 4, 2, [], .inl 0),
  (124, .aload_n 0, 1, [], .inl 0),
  (125, .invokevirtual 269, 3, [243, 1, 1, 12], .inl 0),
  (128, .if_icmp .gt 36, 3, [164], .inl 0),
  (131, .aload_n 0, 1, [], .inl 0),
  (132, .getfield 87, 3, [12, 44, 40417, 0, 0], .inl 0),
  (135, .bipush 6, 2, [], .inl (6)),
  (137, .iload 4, 2, [], .inl 0),
  (139, .imul, 1, [], .inl 0),
  (140, .aload_n 0, 1, [], .inl 0),
  (141, .getfield 71, 3, [12, 32, 40377, 0, 0], .inl 0),
  (144, .bipush 6, 2, [], .inl (6)),
  (146, .iload 4, 2, [], .inl 0),
  (148, .imul, 1, [], .inl 0),
  (149, .iload_n 2, 1, [], .inl 0),
  (150, .iadd, 1, [], .inl 0),
  (151, .iaload, 1, [], .inl 0),
  (152, .iadd, 1, [], .inl 0),
  (153, .dup2, 1, [], .inl 0),
  (154, .iaload, 1, [], .inl 0),
  (155, .iconst 1, 1, [], .inl (1)),
  (156, .iadd, 1, [], .inl 0),
  (157, .iastore, 1, [], .inl 0),
  (158, .iinc 4 1, 3, [], .inl (1)),
  (161, .goto (-39), 3, [122], .inl 0),
  (164, .iinc 3 1, 3, [], .inl (1)),
  (167, .goto (-139), 3, [28, 4], .inl 0),
  (170, .aload_n 0, 1, [], .inl 0),
  (171, .iconst (-1), 1, [], .inl (-1)),
  (172, .putfield 463, 3, [12, 42, 0], .inl 0),
  (175, .aload_n 0, 1, [], .inl 0),
  (176, .aload_n 0, 1, [], .inl 0),
  (177, .getfield 457, 3, [12, 41, 0], .inl 0),
  (180, .invokestatic 440, 3, [253, 1, 1], .inl 0),
  (183, .putfield 466, 3, [12, 43, 0], .inl 0),
  (186, .iconst 0, 1, [], .inl (0)),
  (187, .istore_n 3, 1, [], .inl 0),
  (188, .iload_n 3, 1, [], .inl 0),
  (189, .aload_n 0, 1, [], .inl 0),
  (190, .invokevirtual 269, 3, [243, 1, 1, 12], .inl 0),
  (193, .if_icmp .gt 72, 3, [265], .inl 0),
  (196, .iconst 0, 1, [], .inl (0)),
  (197, .istore 4, 2, [], .inl 0),
  (199, .iconst 0, 1, [], .inl (0)),
  (200, .istore 5, 2, [], .inl 0),
  (202, .iload 5, 2, [], .inl 0),
  (204, .aload_n 0, 1, [], .inl 0),
  (205, .invokevirtual 257, 3, [240, 1, 1, 12], .inl 0),
  (208, .if_icmp .ge 28, 3, [236], .inl 0),
  (211, .iload 4, 2, [], .inl 0),
  (213, .aload_n 0, 1, [], .inl 0),
  (214, .getfield 87, 3, [12, 44, 40417, 0, 0], .inl 0),
  (217, .bipush 6, 2, [], .inl (6)),
  (219, .iload_n 3, 1, [], .inl 0),
  (220, .imul, 1, [], .inl 0),
  (221, .iload 5, 2, [], .inl 0),
  (223, .iadd, 1, [], .inl 0),
  (224, .iaload, 1, [], .inl 0),
  (225, .invokestatic 278, 3, [255, 2, 1], .inl 0),
  (228, .istore 4, 2, [], .inl 0),
  (230, .iinc 5 1, 3, [], .inl (1)),
  (233, .goto (-31), 3, [202], .inl 0),
  (236, .iload 4, 2, [], .inl 0),
  (238, .aload_n 0, 1, [], .inl 0),
  (239, .getfield 466, 3, [12, 43, 0], .inl 0),
  (242, .if_icmp .lt 6, 3, [248], .inl 0),
  (245, .goto 14, 3, [259], .inl 0),
  (248, .aload_n 0, 1, [], .inl 0),
  (249, .iload_n 3, 1, [], .inl 0),
  (250, .putfield 463, 3, [12, 42, 0], .inl 0),
  (253, .aload_n 0, 1, [], .inl 0),
  (254, .iload 4, 2, [], .inl 0),
  (256, .putfield 466, 3, [12, 43, 0], .inl 0),
  (259, .iinc 3 1, 3, [], .inl (1)),
  (262, .goto (-74), 3, [188, 4, 5], .inl 0),
  (265, .return_, 1, [], .inl 0)]
/-- M.firsts -/
def tb341 : List (Nat × Instr × Nat × List Nat × (Int32 ⊕ Int64)) := [(0, .aload_n 0, 1, [], .inl 0),
  (1, .iconst 0, 1, [], .inl (0)),
  (2, .putfield 90, 3, [12, 0, 0], .inl 0),
  (5, .aload_n 0, 1, [], .inl 0),
  (6, .iload_n 1, 1, [], .inl 0),
  (7, .iload_n 2, 1, [], .inl 0),
  (8, .invokevirtual 469, 3, [338, 3, 1, 12], .inl 0),
  (11, .istore_n 3, 1, [], .inl 0),
  (12, .iload_n 3, 1, [], .inl 0),
  (13, .ifCond .eq 5, 3, [18], .inl 0),
  (16, .iload_n 3, 1, [], .inl 0),
  (17, .ireturn, 1, [], .inl 0),
  (18, .aload_n 0, 1, [], .inl 0),
  (19, .iload_n 1, 1, [], .inl 0),
  (20, .iload_n 2, 1, [], .inl 0),
  (21, .invokevirtual 472, 3, [340, 3, 0, 12], .inl 0),
  (24, .aload_n 0, 1, [], .inl 0),
  (25, .getfield 457, 3, [12, 41, 0], .inl 0),
  (28, .ireturn, 1, [], .inl 0)]
/-- M.ask -/
def tb342 : List (Nat × Instr × Nat × List Nat × (Int32 ⊕ Int64)) := [(0, .aload_n 0, 1, [], .inl 0),
  (1, .iconst 0, 1, [], .inl (0)),
  (2, .putfield 90, 3, [12, 0, 0], .inl 0),
  (5, .aload_n 0, 1, [], .inl 0),
  (6, .iload_n 1, 1, [], .inl 0),
  (7, .iload_n 2, 1, [], .inl 0),
  (8, .invokevirtual 469, 3, [338, 3, 1, 12], .inl 0),
  (11, .istore_n 3, 1, [], .inl 0),
  (12, .iload_n 3, 1, [], .inl 0),
  (13, .ifCond .eq 5, 3, [18], .inl 0),
  (16, .iload_n 3, 1, [], .inl 0),
  (17, .ireturn, 1, [], .inl 0),
  (18, .aload_n 0, 1, [], .inl 0),
  (19, .iload_n 1, 1, [], .inl 0),
  (20, .iload_n 2, 1, [], .inl 0),
  (21, .invokevirtual 472, 3, [340, 3, 0, 12], .inl 0),
  (24, .aload_n 0, 1, [], .inl 0),
  (25, .getfield 463, 3, [12, 42, 0], .inl 0),
  (28, .ireturn, 1, [], .inl 0)]
/-- M.leaves -/
def tb343 : List (Nat × Instr × Nat × List Nat × (Int32 ⊕ Int64)) := [(0, .aload_n 0, 1, [], .inl 0),
  (1, .iconst 0, 1, [], .inl (0)),
  (2, .putfield 90, 3, [12, 0, 0], .inl 0),
  (5, .aload_n 0, 1, [], .inl 0),
  (6, .iload_n 1, 1, [], .inl 0),
  (7, .iload_n 2, 1, [], .inl 0),
  (8, .invokevirtual 469, 3, [338, 3, 1, 12], .inl 0),
  (11, .istore_n 3, 1, [], .inl 0),
  (12, .iload_n 3, 1, [], .inl 0),
  (13, .ifCond .eq 5, 3, [18], .inl 0),
  (16, .iload_n 3, 1, [], .inl 0),
  (17, .ireturn, 1, [], .inl 0),
  (18, .aload_n 0, 1, [], .inl 0),
  (19, .iload_n 1, 1, [], .inl 0),
  (20, .iload_n 2, 1, [], .inl 0),
  (21, .invokevirtual 472, 3, [340, 3, 0, 12], .inl 0),
  (24, .aload_n 0, 1, [], .inl 0),
  (25, .getfield 466, 3, [12, 43, 0], .inl 0),
  (28, .ireturn, 1, [], .inl 0)]
/-- M.joyBy -/
def tb344 : List (Nat × Instr × Nat × List Nat × (Int32 ⊕ Int64)) := [(0, .aload_n 0, 1, [], .inl 0),
  (1, .invokevirtual 333, 3, [262, 1, 0, 12], .inl 0),
  (4, .aload_n 0, 1, [], .inl 0),
  (5, .iload_n 1, 1, [], .inl 0),
  (6, .putfield 297, 3, [12, 28, 0], .inl 0),
  (9, .aload_n 0, 1, [], .inl 0),
  (10, .invokevirtual 336, 3, [270, 1, 0, 12], .inl 0),
  (13, .aload_n 0, 1, [], .inl 0),
  (14, .invokevirtual 475, 3, [275, 1, 1, 12], .inl 0),
  (17, .ireturn, 1, [], .inl 0)]
/-- M.laws -/
def tb345 : List (Nat × Instr × Nat × List Nat × (Int32 ⊕ Int64)) := [(0, .aload_n 0, 1, [], .inl 0),
  (1, .iconst 0, 1, [], .inl (0)),
  (2, .putfield 90, 3, [12, 0, 0], .inl 0),
  (5, .aload_n 0, 1, [], .inl 0),
  (6, .iload_n 1, 1, [], .inl 0),
  (7, .iload_n 2, 1, [], .inl 0),
  (8, .invokevirtual 469, 3, [338, 3, 1, 12], .inl 0),
  (11, .istore_n 3, 1, [], .inl 0),
  (12, .iload_n 3, 1, [], .inl 0),
  (13, .ifCond .eq 5, 3, [18], .inl 0),
  (16, .iload_n 3, 1, [], .inl 0),
  (17, .ireturn, 1, [], .inl 0),
  (18, .iconst 0, 1, [], .inl (0)),
  (19, .istore 4, 2, [], .inl 0),
  (21, .iconst 0, 1, [], .inl (0)),
  (22, .istore 5, 2, [], .inl 0),
  (24, .iload 5, 2, [], .inl 0),
  (26, .iconst 4, 1, [], .inl (4)),
  (27, .if_icmp .ge 38, 3, [65], .inl 0),
  (30, .aload_n 0, 1, [], .inl 0),
  (31, .iload 5, 2, [], .inl 0),
  (33, .invokevirtual 478, 3, [344, 2, 1, 12], .inl 0),
  (36, .pop, 1, [], .inl 0),
  (37, .iload 4, 2, [], .inl 0),
  (39, .aload_n 0, 1, [], .inl 0),
  (40, .iload_n 1, 1, [], .inl 0),
  (41, .iload_n 2, 1, [], .inl 0),
  (42, .invokevirtual 460, 3, [339, 3, 1, 12], .inl 0),
  (45, .ifCond .eq 10, 3, [55], .inl 0),
  (48, .iconst 1, 1, [], .inl (1)),
  (49, .iload 5, 2, [], .inl 0),
  (51, .ishl, 1, [], .inl 0),
  (52, .goto 4, 3, [56], .inl 0),
  (55, .iconst 0, 1, [], .inl (0)),
  (56, .ior, 1, [], .inl 0),
  (57, .istore 4, 2, [], .inl 0),
  (59, .iinc 5 1, 3, [], .inl (1)),
  (62, .goto (-38), 3, [24], .inl 0),
  (65, .iload 4, 2, [], .inl 0),
  (67, .ireturn, 1, [], .inl 0)]
/-- M.by -/
def tb346 : List (Nat × Instr × Nat × List Nat × (Int32 ⊕ Int64)) := [(0, .aload_n 0, 1, [], .inl 0),
  (1, .iconst 0, 1, [], .inl (0)),
  (2, .putfield 90, 3, [12, 0, 0], .inl 0),
  (5, .aload_n 0, 1, [], .inl 0),
  (6, .invokevirtual 266, 3, [239, 1, 1, 12], .inl 0),
  (9, .ifCond .eq 23, 3, [32], .inl 0),
  (12, .iload_n 1, 1, [], .inl 0),
  (13, .i2l, 1, [], .inl 0),
  (14, .lconst 0, 1, [], .inr (0)),
  (15, .ldc2_w 93, 3, [], .inr (3)),
  (18, .invokestatic 95, 3, [204, 3, 1], .inl 0),
  (21, .ifCond .eq 11, 3, [32], .inl 0),
  (24, .aload_n 0, 1, [], .inl 0),
  (25, .iload_n 1, 1, [], .inl 0),
  (26, .invokevirtual 478, 3, [344, 2, 1, 12], .inl 0),
  (29, .goto 5, 3, [34], .inl 0),
  (32, .bipush (-2), 2, [], .inl (-2)),
  (34, .ireturn, 1, [], .inl 0)]
/-- M.law -/
def tb347 : List (Nat × Instr × Nat × List Nat × (Int32 ⊕ Int64)) := [(0, .aload_n 0, 1, [], .inl 0),
  (1, .iconst 0, 1, [], .inl (0)),
  (2, .putfield 90, 3, [12, 0, 0], .inl 0),
  (5, .aload_n 0, 1, [], .inl 0),
  (6, .invokevirtual 266, 3, [239, 1, 1, 12], .inl 0),
  (9, .ifCond .ne 6, 3, [15], .inl 0),
  (12, .bipush (-2), 2, [], .inl (-2)),
  (14, .ireturn, 1, [], .inl 0),
  (15, .iconst 0, 1, [], .inl (0)),
  (16, .istore_n 1, 1, [], .inl 0),
  (17, .iconst 1, 1, [], .inl (1)),
  (18, .istore_n 2, 1, [], .inl 0),
  (19, .iload_n 2, 1, [], .inl 0),
  (20, .iconst 4, 1, [], .inl (4)),
  (21, .if_icmp .ge 24, 3, [45], .inl 0),
  (24, .aload_n 0, 1, [], .inl 0),
  (25, .iload_n 2, 1, [], .inl 0),
  (26, .invokevirtual 478, 3, [344, 2, 1, 12], .inl 0),
  (29, .aload_n 0, 1, [], .inl 0),
  (30, .iload_n 1, 1, [], .inl 0),
  (31, .invokevirtual 478, 3, [344, 2, 1, 12], .inl 0),
  (34, .if_icmp .le 5, 3, [39], .inl 0),
  (37, .iload_n 2, 1, [], .inl 0),
  (38, .istore_n 1, 1, [], .inl 0),
  (39, .iinc 2 1, 3, [], .inl (1)),
  (42, .goto (-23), 3, [19], .inl 0),
  (45, .iload_n 1, 1, [], .inl 0),
  (46, .ireturn, 1, [], .inl 0)]
/-- M.fell -/
def tb348 : List (Nat × Instr × Nat × List Nat × (Int32 ⊕ Int64)) := [(0, .aload_n 0, 1, [], .inl 0),
  (1, .iconst 0, 1, [], .inl (0)),
  (2, .putfield 90, 3, [12, 0, 0], .inl 0),
  (5, .aload_n 0, 1, [], .inl 0),
  (6, .invokevirtual 266, 3, [239, 1, 1, 12], .inl 0),
  (9, .ifCond .ne 6, 3, [15], .inl 0),
  (12, .bipush (-2), 2, [], .inl (-2)),
  (14, .ireturn, 1, [], .inl 0),
  (15, .aload_n 0, 1, [], .inl 0),
  (16, .invokevirtual 374, 3, [271, 1, 0, 12], .inl 0),
  (19, .iconst (-1), 1, [], .inl (-1)),
  (20, .istore_n 1, 1, [], .inl 0),
  (21, .aload_n 0, 1, [], .inl 0),
  (22, .invokevirtual 475, 3, [275, 1, 1, 12], .inl 0),
  (25, .istore_n 2, 1, [], .inl 0),
  (26, .iconst 0, 1, [], .inl (0)),
  (27, .istore_n 3, 1, [], .inl 0),
  (28, .iload_n 3, 1, [], .inl 0),
  (29, .aload_n 0, 1, [], .inl 0),
  (30, .getfield 34, 3, [12, 17, 23385, 0, 0], .inl 0),
  (33, .iconst 5, 1, [], .inl (5)),
  (34, .iaload, 1, [], .inl 0),
  (35, .if_icmp .ge 51, 3, [86], .inl 0),
  (38, .aload_n 0, 1, [], .inl 0),
  (39, .invokevirtual 333, 3, [262, 1, 0, 12], .inl 0),
  (42, .aload_n 0, 1, [], .inl 0),
  (43, .dup, 1, [], .inl 0),
  (44, .getfield 281, 3, [12, 26, 0], .inl 0),
  (47, .iconst 1, 1, [], .inl (1)),
  (48, .iload_n 3, 1, [], .inl 0),
  (49, .ishl, 1, [], .inl 0),
  (50, .ior, 1, [], .inl 0),
  (51, .putfield 281, 3, [12, 26, 0], .inl 0),
  (54, .aload_n 0, 1, [], .inl 0),
  (55, .invokevirtual 306, 3, [258, 1, 0, 12], .inl 0),
  (58, .aload_n 0, 1, [], .inl 0),
  (59, .invokevirtual 336, 3, [270, 1, 0, 12], .inl 0),
  (62, .aload_n 0, 1, [], .inl 0),
  (63, .invokevirtual 475, 3, [275, 1, 1, 12], .inl 0),
  (66, .iload_n 2, 1, [], .inl 0),
  (67, .if_icmp .gt 6, 3, [73], .inl 0),
  (70, .goto 10, 3, [80], .inl 0),
  (73, .iload_n 3, 1, [], .inl 0),
  (74, .istore_n 1, 1, [], .inl 0),
  (75, .aload_n 0, 1, [], .inl 0),
  (76, .invokevirtual 475, 3, [275, 1, 1, 12], .inl 0),
  (79, .istore_n 2, 1, [], .inl 0),
  (80, .iinc 3 1, 3, [], .inl (1)),
  (83, .goto (-55), 3, [28], .inl 0),
  (86, .iload_n 1, 1, [], .inl 0),
  (87, .ireturn, 1, [], .inl 0)]
/-- M.turnedTo -/
def tb349 : List (Nat × Instr × Nat × List Nat × (Int32 ⊕ Int64)) := [(0, .aload_n 0, 1, [], .inl 0),
  (1, .getfield 62, 3, [12, 27, 3489, 0, 0], .inl 0),
  (4, .aload_n 0, 1, [], .inl 0),
  (5, .getfield 52, 3, [12, 23, 31113, 0, 0], .inl 0),
  (8, .iconst 2, 1, [], .inl (2)),
  (9, .iload_n 1, 1, [], .inl 0),
  (10, .imul, 1, [], .inl 0),
  (11, .iaload, 1, [], .inl 0),
  (12, .iload_n 2, 1, [], .inl 0),
  (13, .iadd, 1, [], .inl 0),
  (14, .aload_n 0, 1, [], .inl 0),
  (15, .invokevirtual 257, 3, [240, 1, 1, 12], .inl 0),
  (18, .irem, 1, [], .inl 0),
  (19, .iaload, 1, [], .inl 0),
  (20, .ireturn, 1, [], .inl 0)]
/-- M.getsBy -/
def tb350 : List (Nat × Instr × Nat × List Nat × (Int32 ⊕ Int64)) := [(0, .aload_n 0, 1, [], .inl 0),
  (1, .invokevirtual 333, 3, [262, 1, 0, 12], .inl 0),
  (4, .aload_n 0, 1, [], .inl 0),
  (5, .iload_n 2, 1, [], .inl 0),
  (6, .iload 4, 2, [], .inl 0),
  (8, .invokevirtual 481, 3, [349, 3, 1, 12], .inl 0),
  (11, .istore 6, 2, [], .inl 0),
  (13, .aload_n 0, 1, [], .inl 0),
  (14, .iload_n 3, 1, [], .inl 0),
  (15, .iload 5, 2, [], .inl 0),
  (17, .invokevirtual 481, 3, [349, 3, 1, 12], .inl 0),
  (20, .istore 7, 2, [], .inl 0),
  (22, .iload_n 1, 1, [], .inl 0),
  (23, .iload_n 2, 1, [], .inl 0),
  (24, .if_icmp .ne 8, 3, [32], .inl 0),
  (27, .iload 6, 2, [], .inl 0),
  (29, .goto 5, 3, [34], .inl 0),
  (32, .iload 7, 2, [], .inl 0),
  (34, .istore 8, 2, [], .inl 0),
  (36, .aload_n 0, 1, [], .inl 0),
  (37, .iload 8, 2, [], .inl 0),
  (39, .iload 6, 2, [], .inl 0),
  (41, .iload 7, 2, [], .inl 0),
  (43, .iand, 1, [], .inl 0),
  (44, .iconst (-1), 1, [], .inl (-1)),
  (45, .ixor, 1, [], .inl 0),
  (46, .iand, 1, [], .inl 0),
  (47, .invokevirtual 294, 3, [260, 2, 1, 12], .inl 0),
  (50, .aload_n 0, 1, [], .inl 0),
  (51, .iload 6, 2, [], .inl 0),
  (53, .iload 7, 2, [], .inl 0),
  (55, .iand, 1, [], .inl 0),
  (56, .invokevirtual 294, 3, [260, 2, 1, 12], .inl 0),
  (59, .iconst 2, 1, [], .inl (2)),
  (60, .idiv, 1, [], .inl 0),
  (61, .iadd, 1, [], .inl 0),
  (62, .ireturn, 1, [], .inl 0)]
/-- M.rests -/
def tb351 : List (Nat × Instr × Nat × List Nat × (Int32 ⊕ Int64)) := [(0, .aload_n 0, 1, [], .inl 0),
  (1, .iconst 0, 1, [], .inl (0)),
  (2, .putfield 90, 3, [12, 0, 0], .inl 0),
  (5, .aload_n 0, 1, [], .inl 0),
  (6, .iload_n 1, 1, [], .inl 0),
  (7, .iload_n 2, 1, [], .inl 0),
  (8, .invokevirtual 484, 3, [250, 3, 1, 12], .inl 0),
  (11, .ifCond .ne 6, 3, [17], .inl 0),
  (14, .bipush (-2), 2, [], .inl (-2)),
  (16, .ireturn, 1, [], .inl 0),
  (17, .iconst 0, 1, [], .inl (0)),
  (18, .istore_n 3, 1, [], .inl 0),
  (19, .iconst 0, 1, [], .inl (0)),
  (20, .istore 4, 2, [], .inl 0),
  (22, .iload 4, 2, [], .inl 0),
  (24, .iconst 4, 1, [], .inl (4)),
  (25, .if_icmp .ge 98, 3, [123], .inl 0),
  (28, .iload 4, 2, [], .inl 0),
  (30, .iconst 2, 1, [], .inl (2)),
  (31, .irem, 1, [], .inl 0),
  (32, .istore 5, 2, [], .inl 0),
  (34, .iload 4, 2, [], .inl 0),
  (36, .iconst 2, 1, [], .inl (2)),
  (37, .idiv, 1, [], .inl 0),
  (38, .istore 6, 2, [], .inl 0),
  (40, .aload_n 0, 1, [], .inl 0),
  (41, .iload_n 1, 1, [], .inl 0),
  (42, .iload_n 1, 1, [], .inl 0),
  (43, .iload_n 2, 1, [], .inl 0),
  (44, .iconst 1, 1, [], .inl (1)),
  (45, .iload 5, 2, [], .inl 0),
  (47, .isub, 1, [], .inl 0),
  (48, .iload 6, 2, [], .inl 0),
  (50, .invokevirtual 487, 3, [350, 6, 1, 12], .inl 0),
  (53, .aload_n 0, 1, [], .inl 0),
  (54, .iload_n 1, 1, [], .inl 0),
  (55, .iload_n 1, 1, [], .inl 0),
  (56, .iload_n 2, 1, [], .inl 0),
  (57, .iload 5, 2, [], .inl 0),
  (59, .iload 6, 2, [], .inl 0),
  (61, .invokevirtual 487, 3, [350, 6, 1, 12], .inl 0),
  (64, .if_icmp .gt 34, 3, [98], .inl 0),
  (67, .aload_n 0, 1, [], .inl 0),
  (68, .iload_n 2, 1, [], .inl 0),
  (69, .iload_n 1, 1, [], .inl 0),
  (70, .iload_n 2, 1, [], .inl 0),
  (71, .iload 5, 2, [], .inl 0),
  (73, .iconst 1, 1, [], .inl (1)),
  (74, .iload 6, 2, [], .inl 0),
  (76, .isub, 1, [], .inl 0),
  (77, .invokevirtual 487, 3, [350, 6, 1, 12], .inl 0),
  (80, .aload_n 0, 1, [], .inl 0),
  (81, .iload_n 2, 1, [], .inl 0),
  (82, .iload_n 1, 1, [], .inl 0),
  (83, .iload_n 2, 1, [], .inl 0),
  (84, .iload 5, 2, [], .inl 0),
  (86, .iload 6, 2, [], .inl 0),
  (88, .invokevirtual 487, 3, [350, 6, 1, 12], .inl 0),
  (91, .if_icmp .gt 7, 3, [98], .inl 0),
  (94, .iconst 1, 1, [], .inl (1)),
  (95, .goto 4, 3, [99], .inl 0),
  (98, .iconst 0, 1, [], .inl (0)),
  (99, .istore 7, 2, [], .inl 0),
  (101, .iload_n 3, 1, [], .inl 0),
  (102, .iload 7, 2, [], .inl 0),
  (104, .ifCond .eq 10, 3, [114], .inl 0),
  (107, .iconst 1, 1, [], .inl (1)),
  (108, .iload 4, 2, [], .inl 0),
  (110, .ishl, 1, [], .inl 0),
  (111, .goto 4, 3, [115], .inl 0),
  (114, .iconst 0, 1, [], .inl (0)),
  (115, .ior, 1, [], .inl 0),
  (116, .istore_n 3, 1, [], .inl 0),
  (117, .iinc 4 1, 3, [], .inl (1)),
  (120, .goto (-98), 3, [22, 5, 6, 7], .inl 0),
  (123, .iload_n 3, 1, [], .inl 0),
  (124, .ireturn, 1, [], .inl 0)]
/-- M.gets -/
def tb352 : List (Nat × Instr × Nat × List Nat × (Int32 ⊕ Int64)) := [(0, .aload_n 0, 1, [], .inl 0),
  (1, .iconst 0, 1, [], .inl (0)),
  (2, .putfield 90, 3, [12, 0, 0], .inl 0),
  (5, .aload_n 0, 1, [], .inl 0),
  (6, .iload_n 1, 1, [], .inl 0),
  (7, .iload_n 2, 1, [], .inl 0),
  (8, .invokevirtual 484, 3, [250, 3, 1, 12], .inl 0),
  (11, .ifCond .eq 31, 3, [42], .inl 0),
  (14, .iload_n 3, 1, [], .inl 0),
  (15, .invokestatic 354, 3, [251, 1, 1], .inl 0),
  (18, .ifCond .eq 24, 3, [42], .inl 0),
  (21, .iload 4, 2, [], .inl 0),
  (23, .invokestatic 354, 3, [251, 1, 1], .inl 0),
  (26, .ifCond .eq 16, 3, [42], .inl 0),
  (29, .aload_n 0, 1, [], .inl 0),
  (30, .iload_n 1, 1, [], .inl 0),
  (31, .iload_n 1, 1, [], .inl 0),
  (32, .iload_n 2, 1, [], .inl 0),
  (33, .iload_n 3, 1, [], .inl 0),
  (34, .iload 4, 2, [], .inl 0),
  (36, .invokevirtual 487, 3, [350, 6, 1, 12], .inl 0),
  (39, .goto 6, 3, [45], .inl 0),
  (42, .sipush (-1000), 3, [], .inl (-1000)),
  (45, .ireturn, 1, [], .inl 0)]
/-- M.power -/
def tb353 : List (Nat × Instr × Nat × List Nat × (Int32 ⊕ Int64)) := [(0, .iload_n 2, 1, [], .inl 0),
  (1, .ifCond .ne 7, 3, [8], .inl 0),
  (4, .lconst 1, 1, [], .inr (1)),
  (5, .goto 12, 3, [17], .inl 0),
  (8, .lload_n 0, 1, [], .inl 0),
  (9, .lload_n 0, 1, [], .inl 0),
  (10, .iload_n 2, 1, [], .inl 0),
  (11, .iconst 1, 1, [], .inl (1)),
  (12, .isub, 1, [], .inl 0),
  (13, .invokestatic 491, 3, [353, 2, 2], .inl 0),
  (16, .lmul, 1, [], .inl 0),
  (17, .lreturn, 1, [], .inl 0)]
/-- M.weightOf -/
def tb354 : List (Nat × Instr × Nat × List Nat × (Int32 ⊕ Int64)) := [(0, .aload_n 0, 1, [], .inl 0),
  (1, .invokevirtual 333, 3, [262, 1, 0, 12], .inl 0),
  (4, .lconst 0, 1, [], .inr (0)),
  (5, .lstore 4, 2, [], .inl 0),
  (7, .iconst 0, 1, [], .inl (0)),
  (8, .istore 6, 2, [], .inl 0),
  (10, .iload 6, 2, [], .inl 0),
  (12, .iconst 1, 1, [], .inl (1)),
  (13, .iload_n 3, 1, [], .inl 0),
  (14, .ishl, 1, [], .inl 0),
  (15, .if_icmp .ge 101, 3, [116], .inl 0),
  (18, .aload_n 0, 1, [], .inl 0),
  (19, .iload 6, 2, [], .inl 0),
  (21, .putfield 300, 3, [12, 29, 0], .inl 0),
  (24, .aload_n 0, 1, [], .inl 0),
  (25, .invokevirtual 336, 3, [270, 1, 0, 12], .inl 0),
  (28, .aload_n 0, 1, [], .inl 0),
  (29, .getfield 71, 3, [12, 32, 40377, 0, 0], .inl 0),
  (32, .bipush 6, 2, [], .inl (6)),
  (34, .iload_n 3, 1, [], .inl 0),
  (35, .imul, 1, [], .inl 0),
  (36, .iload_n 1, 1, [], .inl 0),
  (37, .iadd, 1, [], .inl 0),
  (38, .iaload, 1, [], .inl 0),
  (39, .istore 7, 2, [], .inl 0),
  (41, .lload 4, 2, [], .inl 0),
  (43, .aload_n 0, 1, [], .inl 0),
  (44, .getfield 34, 3, [12, 17, 23385, 0, 0], .inl 0),
  (47, .iconst 2, 1, [], .inl (2)),
  (48, .iaload, 1, [], .inl 0),
  (49, .i2l, 1, [], .inl 0),
  (50, .iload 6, 2, [], .inl 0),
  (52, .invokestatic 440, 3, [253, 1, 1], .inl 0),
  (55, .invokestatic 491, 3, [353, 2, 2], .inl 0),
  (58, .ldc2_w 494, 3, [], .inr (10)),
  (61, .aload_n 0, 1, [], .inl 0),
  (62, .getfield 34, 3, [12, 17, 23385, 0, 0], .inl 0),
  (65, .iconst 2, 1, [], .inl (2)),
  (66, .iaload, 1, [], .inl 0),
  (67, .i2l, 1, [], .inl 0),
  (68, .lsub, 1, [], .inl 0),
  (69, .iload_n 3, 1, [], .inl 0),
  (70, .iload 6, 2, [], .inl 0),
  (72, .invokestatic 440, 3, [253, 1, 1], .inl 0),
  (75, .isub, 1, [], .inl 0),
  (76, .invokestatic 491, 3, [353, 2, 2], .inl 0),
  (79, .lmul, 1, [], .inl 0),
  (80, .iload_n 2, 1, [], .inl 0),
  (81, .iconst (-1), 1, [], .inl (-1)),
  (82, .if_icmp .ne 12, 3, [94], .inl 0),
  (85, .aload_n 0, 1, [], .inl 0),
  (86, .iload 7, 2, [], .inl 0),
  (88, .invokevirtual 312, 3, [261, 2, 1, 12], .inl 0),
  (91, .goto 14, 3, [105], .inl 0),
  (94, .iload 7, 2, [], .inl 0),
  (96, .iload_n 2, 1, [], .inl 0),
  (97, .if_icmp .ne 7, 3, [104], .inl 0),
  (100, .iconst 1, 1, [], .inl (1)),
  (101, .goto 4, 3, [105], .inl 0),
  (104, .iconst 0, 1, [], .inl (0)),
  (105, .i2l, 1, [], .inl 0),
  (106, .lmul, 1, [], .inl 0),
  (107, .ladd, 1, [], .inl 0),
  (108, .lstore 4, 2, [], .inl 0),
  (110, .iinc 6 1, 3, [], .inl (1)),
  (113, .goto (-103), 3, [10, 7], .inl 0),
  (116, .lload 4, 2, [], .inl 0),
  (118, .lreturn, 1, [], .inl 0)]
/-- M.isSoon -/
def tb355 : List (Nat × Instr × Nat × List Nat × (Int32 ⊕ Int64)) := [(0, .iload_n 1, 1, [], .inl 0),
  (1, .i2l, 1, [], .inl 0),
  (2, .lconst 1, 1, [], .inr (1)),
  (3, .bipush 8, 2, [], .inl (8)),
  (5, .aload_n 0, 1, [], .inl 0),
  (6, .invokevirtual 269, 3, [243, 1, 1, 12], .inl 0),
  (9, .invokestatic 275, 3, [254, 2, 1], .inl 0),
  (12, .i2l, 1, [], .inl 0),
  (13, .invokestatic 95, 3, [204, 3, 1], .inl 0),
  (16, .ireturn, 1, [1], .inl 0)]
/-- M.chance -/
def tb356 : List (Nat × Instr × Nat × List Nat × (Int32 ⊕ Int64)) := [(0, .aload_n 0, 1, [], .inl 0),
  (1, .iconst 0, 1, [], .inl (0)),
  (2, .putfield 90, 3, [12, 0, 0], .inl 0),
  (5, .aload_n 0, 1, [], .inl 0),
  (6, .iload_n 1, 1, [], .inl 0),
  (7, .invokevirtual 272, 3, [247, 2, 1, 12], .inl 0),
  (10, .ifCond .eq 51, 3, [61], .inl 0),
  (13, .aload_n 0, 1, [], .inl 0),
  (14, .iload_n 2, 1, [], .inl 0),
  (15, .i2l, 1, [], .inl 0),
  (16, .invokevirtual 351, 3, [244, 2, 1, 12], .inl 0),
  (19, .ifCond .eq 42, 3, [61], .inl 0),
  (22, .aload_n 0, 1, [], .inl 0),
  (23, .iload_n 3, 1, [], .inl 0),
  (24, .invokevirtual 496, 3, [355, 2, 1, 12], .inl 0),
  (27, .ifCond .eq 34, 3, [61], .inl 0),
  (30, .iload 4, 2, [], .inl 0),
  (32, .invokestatic 354, 3, [251, 1, 1], .inl 0),
  (35, .ifCond .eq 26, 3, [61], .inl 0),
  (38, .aload_n 0, 1, [], .inl 0),
  (39, .iload_n 1, 1, [], .inl 0),
  (40, .iload_n 2, 1, [], .inl 0),
  (41, .iload_n 3, 1, [], .inl 0),
  (42, .invokevirtual 499, 3, [354, 4, 2, 12], .inl 0),
  (45, .ldc2_w 494, 3, [], .inr (10)),
  (48, .iload_n 3, 1, [], .inl 0),
  (49, .invokestatic 491, 3, [353, 2, 2], .inl 0),
  (52, .iload 4, 2, [], .inl 0),
  (54, .invokestatic 447, 3, [328, 3, 2], .inl 0),
  (57, .l2i, 1, [], .inl 0),
  (58, .goto 5, 3, [63], .inl 0),
  (61, .bipush (-2), 2, [], .inl (-2)),
  (63, .ireturn, 1, [], .inl 0)]
/-- M.mean -/
def tb357 : List (Nat × Instr × Nat × List Nat × (Int32 ⊕ Int64)) := [(0, .aload_n 0, 1, [], .inl 0),
  (1, .iconst 0, 1, [], .inl (0)),
  (2, .putfield 90, 3, [12, 0, 0], .inl 0),
  (5, .aload_n 0, 1, [], .inl 0),
  (6, .iload_n 1, 1, [], .inl 0),
  (7, .invokevirtual 272, 3, [247, 2, 1, 12], .inl 0),
  (10, .ifCond .eq 39, 3, [49], .inl 0),
  (13, .aload_n 0, 1, [], .inl 0),
  (14, .iload_n 2, 1, [], .inl 0),
  (15, .invokevirtual 496, 3, [355, 2, 1, 12], .inl 0),
  (18, .ifCond .eq 31, 3, [49], .inl 0),
  (21, .iload_n 3, 1, [], .inl 0),
  (22, .invokestatic 354, 3, [251, 1, 1], .inl 0),
  (25, .ifCond .eq 24, 3, [49], .inl 0),
  (28, .aload_n 0, 1, [], .inl 0),
  (29, .iload_n 1, 1, [], .inl 0),
  (30, .iconst (-1), 1, [], .inl (-1)),
  (31, .iload_n 2, 1, [], .inl 0),
  (32, .invokevirtual 499, 3, [354, 4, 2, 12], .inl 0),
  (35, .ldc2_w 494, 3, [], .inr (10)),
  (38, .iload_n 2, 1, [], .inl 0),
  (39, .invokestatic 491, 3, [353, 2, 2], .inl 0),
  (42, .iload_n 3, 1, [], .inl 0),
  (43, .invokestatic 447, 3, [328, 3, 2], .inl 0),
  (46, .goto 6, 3, [52], .inl 0),
  (49, .ldc2_w 503, 3, [], .inr (-2)),
  (52, .lreturn, 1, [], .inl 0)]
/-- M.draws -/
def tb358 : List (Nat × Instr × Nat × List Nat × (Int32 ⊕ Int64)) := [(0, .aload_n 0, 1, [], .inl 0),
  (1, .invokevirtual 333, 3, [262, 1, 0, 12], .inl 0),
  (4, .aload_n 0, 1, [], .inl 0),
  (5, .iconst 0, 1, [], .inl (0)),
  (6, .putfield 300, 3, [12, 29, 0], .inl 0),
  (9, .lload_n 1, 1, [], .inl 0),
  (10, .lstore_n 3, 1, [], .inl 0),
  (11, .iconst 0, 1, [], .inl (0)),
  (12, .istore 5, 2, [], .inl 0),
  (14, .iload 5, 2, [], .inl 0),
  (16, .aload_n 0, 1, [], .inl 0),
  (17, .invokevirtual 269, 3, [243, 1, 1, 12], .inl 0),
  (20, .if_icmp .ge 60, 3, [80], .inl 0),
  (23, .ldc2_w 505, 3, [], .inr (1103515245)),
  (26, .lload_n 3, 1, [], .inl 0),
  (27, .lmul, 1, [], .inl 0),
  (28, .ldc2_w 507, 3, [], .inr (12345)),
  (31, .ladd, 1, [], .inl 0),
  (32, .ldc2_w 509, 3, [], .inr (2147483648)),
  (35, .lrem, 1, [], .inl 0),
  (36, .lstore_n 3, 1, [], .inl 0),
  (37, .aload_n 0, 1, [], .inl 0),
  (38, .dup, 1, [], .inl 0),
  (39, .getfield 300, 3, [12, 29, 0], .inl 0),
  (42, .lload_n 3, 1, [], .inl 0),
  (43, .ldc2_w 511, 3, [], .inr (65536)),
  (46, .ldiv, 1, [], .inl 0),
  (47, .ldc2_w 494, 3, [], .inr (10)),
  (50, .lrem, 1, [], .inl 0),
  (51, .aload_n 0, 1, [], .inl 0),
  (52, .getfield 34, 3, [12, 17, 23385, 0, 0], .inl 0),
  (55, .iconst 2, 1, [], .inl (2)),
  (56, .iaload, 1, [], .inl 0),
  (57, .i2l, 1, [], .inl 0),
  (58, .lcmp, 1, [], .inl 0),
  (59, .ifCond .ge 10, 3, [69], .inl 0),
  (62, .iconst 1, 1, [], .inl (1)),
  (63, .iload 5, 2, [], .inl 0),
  (65, .ishl, 1, [], .inl 0),
  (66, .goto 4, 3, [70], .inl 0),
  (69, .iconst 0, 1, [], .inl (0)),
  (70, .ior, 1, [], .inl 0),
  (71, .putfield 300, 3, [12, 29, 0], .inl 0),
  (74, .iinc 5 1, 3, [], .inl (1)),
  (77, .goto (-63), 3, [14], .inl 0),
  (80, .aload_n 0, 1, [], .inl 0),
  (81, .invokevirtual 336, 3, [270, 1, 0, 12], .inl 0),
  (84, .return_, 1, [], .inl 0)]
/-- M.isSeed -/
def tb359 : List (Nat × Instr × Nat × List Nat × (Int32 ⊕ Int64)) := [(0, .iload_n 0, 1, [], .inl 0),
  (1, .i2l, 1, [], .inl 0),
  (2, .lconst 0, 1, [], .inr (0)),
  (3, .ldc2_w 513, 3, [], .inr (2000000000)),
  (6, .invokestatic 95, 3, [204, 3, 1], .inl 0),
  (9, .ireturn, 1, [1], .inl 0)]
/-- M.drawn -/
def tb360 : List (Nat × Instr × Nat × List Nat × (Int32 ⊕ Int64)) := [(0, .aload_n 0, 1, [], .inl 0),
  (1, .iconst 0, 1, [], .inl (0)),
  (2, .putfield 90, 3, [12, 0, 0], .inl 0),
  (5, .aload_n 0, 1, [], .inl 0),
  (6, .invokevirtual 266, 3, [239, 1, 1, 12], .inl 0),
  (9, .ifCond .eq 17, 3, [26], .inl 0),
  (12, .iload_n 1, 1, [], .inl 0),
  (13, .invokestatic 515, 3, [359, 1, 1], .inl 0),
  (16, .ifCond .eq 10, 3, [26], .inl 0),
  (19, .iload_n 2, 1, [], .inl 0),
  (20, .invokestatic 354, 3, [251, 1, 1], .inl 0),
  (23, .ifCond .ne 6, 3, [29], .inl 0),
  (26, .bipush (-2), 2, [], .inl (-2)),
  (28, .ireturn, 1, [], .inl 0),
  (29, .aload_n 0, 1, [], .inl 0),
  (30, .iload_n 1, 1, [], .inl 0),
  (31, .i2l, 1, [], .inl 0),
  (32, .invokevirtual 518, 3, [358, 2, 0, 12], .inl 0),
  (35, .iload_n 2, 1, [], .inl 0),
  (36, .ifCond .ne 10, 3, [46], .inl 0),
  (39, .aload_n 0, 1, [], .inl 0),
  (40, .getfield 300, 3, [12, 29, 0], .inl 0),
  (43, .goto 7, 3, [50], .inl 0),
  (46, .aload_n 0, 1, [], .inl 0),
  (47, .invokevirtual 475, 3, [275, 1, 1, 12], .inl 0),
  (50, .ireturn, 1, [], .inl 0)]
/-- M.luck -/
def tb361 : List (Nat × Instr × Nat × List Nat × (Int32 ⊕ Int64)) := [(0, .aload_n 0, 1, [], .inl 0),
  (1, .iconst 0, 1, [], .inl (0)),
  (2, .putfield 90, 3, [12, 0, 0], .inl 0),
  (5, .iload_n 1, 1, [], .inl 0),
  (6, .invokestatic 515, 3, [359, 1, 1], .inl 0),
  (9, .ifCond .eq 23, 3, [32], .inl 0),
  (12, .iload_n 2, 1, [], .inl 0),
  (13, .i2l, 1, [], .inl 0),
  (14, .lconst 1, 1, [], .inr (1)),
  (15, .ldc2_w 521, 3, [], .inr (20)),
  (18, .invokestatic 95, 3, [204, 3, 1], .inl 0),
  (21, .ifCond .eq 11, 3, [32], .inl 0),
  (24, .aload_n 0, 1, [], .inl 0),
  (25, .iload_n 3, 1, [], .inl 0),
  (26, .invokevirtual 272, 3, [247, 2, 1, 12], .inl 0),
  (29, .ifCond .ne 6, 3, [35], .inl 0),
  (32, .bipush (-2), 2, [], .inl (-2)),
  (34, .ireturn, 1, [], .inl 0),
  (35, .iconst 0, 1, [], .inl (0)),
  (36, .istore 4, 2, [], .inl 0),
  (38, .iconst 0, 1, [], .inl (0)),
  (39, .istore 5, 2, [], .inl 0),
  (41, .iload 5, 2, [], .inl 0),
  (43, .iload_n 2, 1, [], .inl 0),
  (44, .if_icmp .ge 38, 3, [82], .inl 0),
  (47, .aload_n 0, 1, [], .inl 0),
  (48, .iload_n 1, 1, [], .inl 0),
  (49, .i2l, 1, [], .inl 0),
  (50, .iload 5, 2, [], .inl 0),
  (52, .i2l, 1, [], .inl 0),
  (53, .ladd, 1, [], .inl 0),
  (54, .invokevirtual 518, 3, [358, 2, 0, 12], .inl 0),
  (57, .iload 4, 2, [], .inl 0),
  (59, .aload_n 0, 1, [], .inl 0),
  (60, .iload_n 3, 1, [], .inl 0),
  (61, .invokevirtual 377, 3, [277, 2, 1, 12], .inl 0),
  (64, .iconst (-1), 1, [], .inl (-1)),
  (65, .if_icmp .ne 7, 3, [72], .inl 0),
  (68, .iconst 0, 1, [], .inl (0)),
  (69, .goto 4, 3, [73], .inl 0),
  (72, .iconst 1, 1, [], .inl (1)),
  (73, .iadd, 1, [], .inl 0),
  (74, .istore 4, 2, [], .inl 0),
  (76, .iinc 5 1, 3, [], .inl (1)),
  (79, .goto (-38), 3, [41], .inl 0),
  (82, .iload 4, 2, [], .inl 0),
  (84, .ireturn, 1, [], .inl 0)]
/-- M.does -/
def tb362 : List (Nat × Instr × Nat × List Nat × (Int32 ⊕ Int64)) := [(0, .iconst 4, 1, [], .inl (4)),
  (1, .aload_n 0, 1, [], .inl 0),
  (2, .getfield 34, 3, [12, 17, 23385, 0, 0], .inl 0),
  (5, .bipush 8, 2, [], .inl (8)),
  (7, .iaload, 1, [], .inl 0),
  (8, .imul, 1, [], .inl 0),
  (9, .istore 5, 2, [], .inl 0),
  (11, .aload_n 0, 1, [], .inl 0),
  (12, .getfield 55, 3, [12, 24, 307601, 0, 0], .inl 0),
  (15, .iload 5, 2, [], .inl 0),
  (17, .iload_n 1, 1, [], .inl 0),
  (18, .iastore, 1, [], .inl 0),
  (19, .aload_n 0, 1, [], .inl 0),
  (20, .getfield 55, 3, [12, 24, 307601, 0, 0], .inl 0),
  (23, .iload 5, 2, [], .inl 0),
  (25, .iconst 1, 1, [], .inl (1)),
  (26, .iadd, 1, [], .inl 0),
  (27, .iload_n 2, 1, [], .inl 0),
  (28, .iastore, 1, [], .inl 0),
  (29, .aload_n 0, 1, [], .inl 0),
  (30, .getfield 55, 3, [12, 24, 307601, 0, 0], .inl 0),
  (33, .iload 5, 2, [], .inl 0),
  (35, .iconst 2, 1, [], .inl (2)),
  (36, .iadd, 1, [], .inl 0),
  (37, .iload_n 3, 1, [], .inl 0),
  (38, .iastore, 1, [], .inl 0),
  (39, .aload_n 0, 1, [], .inl 0),
  (40, .getfield 55, 3, [12, 24, 307601, 0, 0], .inl 0),
  (43, .iload 5, 2, [], .inl 0),
  (45, .iconst 3, 1, [], .inl (3)),
  (46, .iadd, 1, [], .inl 0),
  (47, .iload 4, 2, [], .inl 0),
  (49, .iastore, 1, [], .inl 0),
  (50, .aload_n 0, 1, [], .inl 0),
  (51, .getfield 34, 3, [12, 17, 23385, 0, 0], .inl 0),
  (54, .bipush 8, 2, [], .inl (8)),
  (56, .dup2, 1, [], .inl 0),
  (57, .iaload, 1, [], .inl 0),
  (58, .iconst 1, 1, [], .inl (1)),
  (59, .iadd, 1, [], .inl 0),
  (60, .iastore, 1, [], .inl 0),
  (61, .return_, 1, [], .inl 0)]
/-- M.swap -/
def tb363 : List (Nat × Instr × Nat × List Nat × (Int32 ⊕ Int64)) := [(0, .aload_n 0, 1, [], .inl 0),
  (1, .iconst 0, 1, [], .inl (0)),
  (2, .putfield 90, 3, [12, 0, 0], .inl 0),
  (5, .aload_n 0, 1, [], .inl 0),
  (6, .iload_n 1, 1, [], .inl 0),
  (7, .iload_n 2, 1, [], .inl 0),
  (8, .invokevirtual 484, 3, [250, 3, 1, 12], .inl 0),
  (11, .ifCond .eq 11, 3, [22], .inl 0),
  (14, .aload_n 0, 1, [], .inl 0),
  (15, .iload_n 3, 1, [], .inl 0),
  (16, .invokevirtual 523, 3, [249, 2, 1, 12], .inl 0),
  (19, .ifCond .ne 6, 3, [25], .inl 0),
  (22, .bipush (-2), 2, [], .inl (-2)),
  (24, .ireturn, 1, [], .inl 0),
  (25, .aload_n 0, 1, [], .inl 0),
  (26, .getfield 34, 3, [12, 17, 23385, 0, 0], .inl 0),
  (29, .bipush 8, 2, [], .inl (8)),
  (31, .iaload, 1, [], .inl 0),
  (32, .bipush 30, 2, [], .inl (30)),
  (34, .if_icmp .ne 6, 3, [40], .inl 0),
  (37, .bipush (-5), 2, [], .inl (-5)),
  (39, .ireturn, 1, [], .inl 0),
  (40, .aload_n 0, 1, [], .inl 0),
  (41, .iconst (-1), 1, [], .inl (-1)),
  (42, .iload_n 1, 1, [], .inl 0),
  (43, .iload_n 2, 1, [], .inl 0),
  (44, .iload_n 3, 1, [], .inl 0),
  (45, .invokevirtual 526, 3, [362, 5, 0, 12], .inl 0),
  (48, .aload_n 0, 1, [], .inl 0),
  (49, .invokevirtual 374, 3, [271, 1, 0, 12], .inl 0),
  (52, .aload_n 0, 1, [], .inl 0),
  (53, .getfield 71, 3, [12, 32, 40377, 0, 0], .inl 0),
  (56, .bipush 6, 2, [], .inl (6)),
  (58, .aload_n 0, 1, [], .inl 0),
  (59, .invokevirtual 269, 3, [243, 1, 1, 12], .inl 0),
  (62, .imul, 1, [], .inl 0),
  (63, .iload_n 1, 1, [], .inl 0),
  (64, .iadd, 1, [], .inl 0),
  (65, .iaload, 1, [], .inl 0),
  (66, .ireturn, 1, [], .inl 0)]
/-- M.clear -/
def tb364 : List (Nat × Instr × Nat × List Nat × (Int32 ⊕ Int64)) := [(0, .aload_n 0, 1, [], .inl 0),
  (1, .iconst 0, 1, [], .inl (0)),
  (2, .putfield 90, 3, [12, 0, 0], .inl 0),
  (5, .aload_n 0, 1, [], .inl 0),
  (6, .iload_n 1, 1, [], .inl 0),
  (7, .invokevirtual 362, 3, [246, 2, 1, 12], .inl 0),
  (10, .ifCond .ne 6, 3, [16], .inl 0),
  (13, .bipush (-2), 2, [], .inl (-2)),
  (15, .ireturn, 1, [], .inl 0),
  (16, .aload_n 0, 1, [], .inl 0),
  (17, .getfield 34, 3, [12, 17, 23385, 0, 0], .inl 0),
  (20, .bipush 8, 2, [], .inl (8)),
  (22, .iaload, 1, [], .inl 0),
  (23, .bipush 30, 2, [], .inl (30)),
  (25, .if_icmp .ne 6, 3, [31], .inl 0),
  (28, .bipush (-5), 2, [], .inl (-5)),
  (30, .ireturn, 1, [], .inl 0),
  (31, .aload_n 0, 1, [], .inl 0),
  (32, .invokevirtual 303, 3, [259, 1, 0, 12], .inl 0),
  (35, .aload_n 0, 1, [], .inl 0),
  (36, .getfield 281, 3, [12, 26, 0], .inl 0),
  (39, .iload_n 1, 1, [], .inl 0),
  (40, .invokestatic 284, 3, [252, 2, 1], .inl 0),
  (43, .ifCond .eq 7, 3, [50], .inl 0),
  (46, .iconst 0, 1, [], .inl (0)),
  (47, .goto 4, 3, [51], .inl 0),
  (50, .iconst 1, 1, [], .inl (1)),
  (51, .istore_n 2, 1, [], .inl 0),
  (52, .aload_n 0, 1, [], .inl 0),
  (53, .iload_n 1, 1, [], .inl 0),
  (54, .iconst 0, 1, [], .inl (0)),
  (55, .iconst 0, 1, [], .inl (0)),
  (56, .iconst (-1), 1, [], .inl (-1)),
  (57, .invokevirtual 526, 3, [362, 5, 0, 12], .inl 0),
  (60, .iload_n 2, 1, [], .inl 0),
  (61, .ireturn, 1, [], .inl 0)]
/-- M.undo -/
def tb365 : List (Nat × Instr × Nat × List Nat × (Int32 ⊕ Int64)) := [(0, .aload_n 0, 1, [], .inl 0),
  (1, .iconst 0, 1, [], .inl (0)),
  (2, .putfield 90, 3, [12, 0, 0], .inl 0),
  (5, .aload_n 0, 1, [], .inl 0),
  (6, .invokevirtual 266, 3, [239, 1, 1, 12], .inl 0),
  (9, .ifCond .ne 6, 3, [15], .inl 0),
  (12, .bipush (-2), 2, [], .inl (-2)),
  (14, .ireturn, 1, [], .inl 0),
  (15, .aload_n 0, 1, [], .inl 0),
  (16, .getfield 34, 3, [12, 17, 23385, 0, 0], .inl 0),
  (19, .bipush 8, 2, [], .inl (8)),
  (21, .iaload, 1, [], .inl 0),
  (22, .ifCond .ne 6, 3, [28], .inl 0),
  (25, .bipush (-5), 2, [], .inl (-5)),
  (27, .ireturn, 1, [], .inl 0),
  (28, .aload_n 0, 1, [], .inl 0),
  (29, .getfield 34, 3, [12, 17, 23385, 0, 0], .inl 0),
  (32, .bipush 8, 2, [], .inl (8)),
  (34, .dup2, 1, [], .inl 0),
  (35, .iaload, 1, [], .inl 0),
  (36, .iconst 1, 1, [], .inl (1)),
  (37, .isub, 1, [], .inl 0),
  (38, .iastore, 1, [], .inl 0),
  (39, .aload_n 0, 1, [], .inl 0),
  (40, .getfield 34, 3, [12, 17, 23385, 0, 0], .inl 0),
  (43, .bipush 8, 2, [], .inl (8)),
  (45, .iaload, 1, [], .inl 0),
  (46, .ireturn, 1, [], .inl 0)]
/-- M.anew -/
def tb366 : List (Nat × Instr × Nat × List Nat × (Int32 ⊕ Int64)) := [(0, .aload_n 0, 1, [], .inl 0),
  (1, .iconst 0, 1, [], .inl (0)),
  (2, .putfield 90, 3, [12, 0, 0], .inl 0),
  (5, .aload_n 0, 1, [], .inl 0),
  (6, .invokevirtual 266, 3, [239, 1, 1, 12], .inl 0),
  (9, .ifCond .ne 6, 3, [15], .inl 0),
  (12, .bipush (-2), 2, [], .inl (-2)),
  (14, .ireturn, 1, [], .inl 0),
  (15, .aload_n 0, 1, [], .inl 0),
  (16, .getfield 34, 3, [12, 17, 23385, 0, 0], .inl 0),
  (19, .bipush 8, 2, [], .inl (8)),
  (21, .iaload, 1, [], .inl 0),
  (22, .istore_n 1, 1, [], .inl 0),
  (23, .aload_n 0, 1, [], .inl 0),
  (24, .getfield 34, 3, [12, 17, 23385, 0, 0], .inl 0),
  (27, .bipush 8, 2, [], .inl (8)),
  (29, .iconst 0, 1, [], .inl (0)),
  (30, .iastore, 1, [], .inl 0),
  (31, .iload_n 1, 1, [], .inl 0),
  (32, .ireturn, 1, [], .inl 0)]
/-- M.rate -/
def tb367 : List (Nat × Instr × Nat × List Nat × (Int32 ⊕ Int64)) := [(0, .aload_n 0, 1, [], .inl 0),
  (1, .iconst 0, 1, [], .inl (0)),
  (2, .putfield 90, 3, [12, 0, 0], .inl 0),
  (5, .aload_n 0, 1, [], .inl 0),
  (6, .iload_n 1, 1, [], .inl 0),
  (7, .i2l, 1, [], .inl 0),
  (8, .invokevirtual 357, 3, [245, 2, 1, 12], .inl 0),
  (11, .ifCond .eq 15, 3, [26], .inl 0),
  (14, .iload_n 2, 1, [], .inl 0),
  (15, .i2l, 1, [], .inl 0),
  (16, .lconst 0, 1, [], .inr (0)),
  (17, .ldc2_w 530, 3, [], .inr (99)),
  (20, .invokestatic 95, 3, [204, 3, 1], .inl 0),
  (23, .ifCond .ne 6, 3, [29], .inl 0),
  (26, .bipush (-2), 2, [], .inl (-2)),
  (28, .ireturn, 1, [], .inl 0),
  (29, .aload_n 0, 1, [], .inl 0),
  (30, .getfield 34, 3, [12, 17, 23385, 0, 0], .inl 0),
  (33, .bipush 8, 2, [], .inl (8)),
  (35, .iaload, 1, [], .inl 0),
  (36, .ifCond .le 6, 3, [42], .inl 0),
  (39, .bipush (-5), 2, [], .inl (-5)),
  (41, .ireturn, 1, [], .inl 0),
  (42, .aload_n 0, 1, [], .inl 0),
  (43, .getfield 43, 3, [12, 20, 18289, 0, 0], .inl 0),
  (46, .iload_n 1, 1, [], .inl 0),
  (47, .iaload, 1, [], .inl 0),
  (48, .istore_n 3, 1, [], .inl 0),
  (49, .aload_n 0, 1, [], .inl 0),
  (50, .getfield 43, 3, [12, 20, 18289, 0, 0], .inl 0),
  (53, .iload_n 1, 1, [], .inl 0),
  (54, .iload_n 2, 1, [], .inl 0),
  (55, .iastore, 1, [], .inl 0),
  (56, .iload_n 3, 1, [], .inl 0),
  (57, .ireturn, 1, [], .inl 0)]
/-- M.count -/
def tb368 : List (Nat × Instr × Nat × List Nat × (Int32 ⊕ Int64)) := [(0, .aload_n 0, 1, [], .inl 0),
  (1, .iconst 0, 1, [], .inl (0)),
  (2, .putfield 90, 3, [12, 0, 0], .inl 0),
  (5, .iload_n 1, 1, [], .inl 0),
  (6, .i2l, 1, [], .inl 0),
  (7, .lconst 0, 1, [], .inr (0)),
  (8, .ldc2_w 532, 3, [], .inr (8)),
  (11, .invokestatic 95, 3, [204, 3, 1], .inl 0),
  (14, .ifCond .eq 10, 3, [24], .inl 0),
  (17, .aload_n 0, 1, [], .inl 0),
  (18, .getfield 34, 3, [12, 17, 23385, 0, 0], .inl 0),
  (21, .iload_n 1, 1, [], .inl 0),
  (22, .iaload, 1, [], .inl 0),
  (23, .ireturn, 1, [], .inl 0),
  (24, .iconst 0, 1, [], .inl (0)),
  (25, .istore_n 2, 1, [], .inl 0),
  (26, .iload_n 1, 1, [], .inl 0),
  (27, .tableswitch 70 9 11 #[25, 32, 37], 25, [97, 52, 59, 64], .inl 0),
  (52, .aload_n 0, 1, [], .inl 0),
  (53, .getfield 31, 3, [12, 16, 2897, 0, 0], .inl 0),
  (56, .iconst 0, 1, [], .inl (0)),
  (57, .iaload, 1, [], .inl 0),
  (58, .ireturn, 1, [], .inl 0),
  (59, .aload_n 0, 1, [], .inl 0),
  (60, .getfield 107, 3, [12, 6, 0], .inl 0),
  (63, .ireturn, 1, [], .inl 0),
  (64, .iconst 0, 1, [], .inl (0)),
  (65, .istore_n 3, 1, [], .inl 0),
  (66, .iload_n 3, 1, [], .inl 0),
  (67, .iconst 4, 1, [], .inl (4)),
  (68, .if_icmp .ge 27, 3, [95], .inl 0),
  (71, .iload_n 2, 1, [], .inl 0),
  (72, .aload_n 0, 1, [], .inl 0),
  (73, .getfield 7, 3, [12, 1, 2345, 0, 0], .inl 0),
  (76, .iload_n 3, 1, [], .inl 0),
  (77, .iaload, 1, [], .inl 0),
  (78, .iconst (-1), 1, [], .inl (-1)),
  (79, .if_icmp .ne 7, 3, [86], .inl 0),
  (82, .iconst 0, 1, [], .inl (0)),
  (83, .goto 4, 3, [87], .inl 0),
  (86, .iconst 1, 1, [], .inl (1)),
  (87, .iadd, 1, [], .inl 0),
  (88, .istore_n 2, 1, [], .inl 0),
  (89, .iinc 3 1, 3, [], .inl (1)),
  (92, .goto (-26), 3, [66], .inl 0),
  (95, .iload_n 2, 1, [], .inl 0),
  (96, .ireturn, 1, [], .inl 0),
  (97, .iconst (-1), 1, [], .inl (-1)),
  (98, .ireturn, 1, [], .inl 0)]
/-- M.image -/
def tb369 : List (Nat × Instr × Nat × List Nat × (Int32 ⊕ Int64)) := [(0, .aload_n 0, 1, [], .inl 0),
  (1, .iconst 0, 1, [], .inl (0)),
  (2, .putfield 90, 3, [12, 0, 0], .inl 0),
  (5, .iload_n 1, 1, [], .inl 0),
  (6, .i2l, 1, [], .inl 0),
  (7, .lconst 0, 1, [], .inr (0)),
  (8, .ldc2_w 360, 3, [], .inr (2)),
  (11, .invokestatic 95, 3, [204, 3, 1], .inl 0),
  (14, .ifCond .ne 6, 3, [20], .inl 0),
  (17, .bipush (-2), 2, [], .inl (-2)),
  (19, .ireturn, 1, [], .inl 0),
  (20, .aload_n 0, 1, [], .inl 0),
  (21, .iconst 0, 1, [], .inl (0)),
  (22, .iconst 1, 1, [], .inl (1)),
  (23, .iload_n 1, 1, [], .inl 0),
  (24, .iadd, 1, [], .inl 0),
  (25, .invokevirtual 250, 3, [238, 3, 0, 12], .inl 0),
  (28, .aload_n 0, 1, [], .inl 0),
  (29, .getfield 58, 3, [12, 25, 1948, 0, 0], .inl 0),
  (32, .iload_n 1, 1, [], .inl 0),
  (33, .iconst 1, 1, [], .inl (1)),
  (34, .bastore, 1, [], .inl 0),
  (35, .iconst 0, 1, [], .inl (0)),
  (36, .ireturn, 1, [], .inl 0)]
/-- M.back -/
def tb370 : List (Nat × Instr × Nat × List Nat × (Int32 ⊕ Int64)) := [(0, .aload_n 0, 1, [], .inl 0),
  (1, .iconst 0, 1, [], .inl (0)),
  (2, .putfield 90, 3, [12, 0, 0], .inl 0),
  (5, .iload_n 1, 1, [], .inl 0),
  (6, .i2l, 1, [], .inl 0),
  (7, .lconst 0, 1, [], .inr (0)),
  (8, .ldc2_w 360, 3, [], .inr (2)),
  (11, .invokestatic 95, 3, [204, 3, 1], .inl 0),
  (14, .ifCond .ne 6, 3, [20], .inl 0),
  (17, .bipush (-2), 2, [], .inl (-2)),
  (19, .ireturn, 1, [], .inl 0),
  (20, .aload_n 0, 1, [], .inl 0),
  (21, .getfield 58, 3, [12, 25, 1948, 0, 0], .inl 0),
  (24, .iload_n 1, 1, [], .inl 0),
  (25, .baload, 1, [], .inl 0),
  (26, .ifCond .ne 6, 3, [32], .inl 0),
  (29, .bipush (-6), 2, [], .inl (-6)),
  (31, .ireturn, 1, [], .inl 0),
  (32, .aload_n 0, 1, [], .inl 0),
  (33, .iconst 1, 1, [], .inl (1)),
  (34, .iload_n 1, 1, [], .inl 0),
  (35, .iadd, 1, [], .inl 0),
  (36, .iconst 0, 1, [], .inl (0)),
  (37, .invokevirtual 250, 3, [238, 3, 0, 12], .inl 0),
  (40, .iconst 0, 1, [], .inl (0)),
  (41, .ireturn, 1, [], .inl 0)]
/-- Integer.bitCount -/
def tb371 : List (Nat × Instr × Nat × List Nat × (Int32 ⊕ Int64)) := [(0, .iload_n 0, 1, [], .inl 0),
  (1, .iload_n 0, 1, [], .inl 0),
  (2, .iconst 1, 1, [], .inl (1)),
  (3, .iushr, 1, [], .inl 0),
  (4, .ldc_w 265, 3, [], .inl (1431655765)),
  (7, .iand, 1, [], .inl 0),
  (8, .isub, 1, [], .inl 0),
  (9, .istore_n 0, 1, [], .inl 0),
  (10, .iload_n 0, 1, [], .inl 0),
  (11, .ldc_w 266, 3, [], .inl (858993459)),
  (14, .iand, 1, [], .inl 0),
  (15, .iload_n 0, 1, [], .inl 0),
  (16, .iconst 2, 1, [], .inl (2)),
  (17, .iushr, 1, [], .inl 0),
  (18, .ldc_w 266, 3, [], .inl (858993459)),
  (21, .iand, 1, [], .inl 0),
  (22, .iadd, 1, [], .inl 0),
  (23, .istore_n 0, 1, [], .inl 0),
  (24, .iload_n 0, 1, [], .inl 0),
  (25, .iload_n 0, 1, [], .inl 0),
  (26, .iconst 4, 1, [], .inl (4)),
  (27, .iushr, 1, [], .inl 0),
  (28, .iadd, 1, [], .inl 0),
  (29, .ldc_w 267, 3, [], .inl (252645135)),
  (32, .iand, 1, [], .inl 0),
  (33, .istore_n 0, 1, [], .inl 0),
  (34, .iload_n 0, 1, [], .inl 0),
  (35, .iload_n 0, 1, [], .inl 0),
  (36, .bipush 8, 2, [], .inl (8)),
  (38, .iushr, 1, [], .inl 0),
  (39, .iadd, 1, [], .inl 0),
  (40, .istore_n 0, 1, [], .inl 0),
  (41, .iload_n 0, 1, [], .inl 0),
  (42, .iload_n 0, 1, [], .inl 0),
  (43, .bipush 16, 2, [], .inl (16)),
  (45, .iushr, 1, [], .inl 0),
  (46, .iadd, 1, [], .inl 0),
  (47, .istore_n 0, 1, [], .inl 0),
  (48, .iload_n 0, 1, [], .inl 0),
  (49, .bipush 63, 2, [], .inl (63)),
  (51, .iand, 1, [], .inl 0),
  (52, .ireturn, 1, [], .inl 0)]
def tbs (m : Nat) : List (Nat × Instr × Nat × List Nat × (Int32 ⊕ Int64)) := cond (Nat.beq m 0) [] (cond (Nat.ble m 371) (cond (Nat.ble m 186) (cond (Nat.ble m 93) (cond (Nat.ble m 47) (cond (Nat.ble m 24) (cond (Nat.ble m 12) (cond (Nat.ble m 6) (cond (Nat.ble m 3) (cond (Nat.ble m 2) (cond (Nat.ble m 1) tb1 tb2) tb3) (cond (Nat.ble m 5) (cond (Nat.ble m 4) tb4 tb5) tb6)) (cond (Nat.ble m 9) (cond (Nat.ble m 8) (cond (Nat.ble m 7) tb7 tb8) tb9) (cond (Nat.ble m 11) (cond (Nat.ble m 10) tb10 tb11) tb12))) (cond (Nat.ble m 18) (cond (Nat.ble m 15) (cond (Nat.ble m 14) (cond (Nat.ble m 13) tb13 tb14) tb15) (cond (Nat.ble m 17) (cond (Nat.ble m 16) tb16 tb17) tb18)) (cond (Nat.ble m 21) (cond (Nat.ble m 20) (cond (Nat.ble m 19) tb19 tb20) tb21) (cond (Nat.ble m 23) (cond (Nat.ble m 22) tb22 tb23) tb24)))) (cond (Nat.ble m 36) (cond (Nat.ble m 30) (cond (Nat.ble m 27) (cond (Nat.ble m 26) (cond (Nat.ble m 25) tb25 tb26) tb27) (cond (Nat.ble m 29) (cond (Nat.ble m 28) tb28 tb29) tb30)) (cond (Nat.ble m 33) (cond (Nat.ble m 32) (cond (Nat.ble m 31) tb31 tb32) tb33) (cond (Nat.ble m 35) (cond (Nat.ble m 34) tb34 tb35) tb36))) (cond (Nat.ble m 42) (cond (Nat.ble m 39) (cond (Nat.ble m 38) (cond (Nat.ble m 37) tb37 tb38) tb39) (cond (Nat.ble m 41) (cond (Nat.ble m 40) tb40 tb41) tb42)) (cond (Nat.ble m 45) (cond (Nat.ble m 44) (cond (Nat.ble m 43) tb43 tb44) tb45) (cond (Nat.ble m 46) tb46 tb47))))) (cond (Nat.ble m 70) (cond (Nat.ble m 59) (cond (Nat.ble m 53) (cond (Nat.ble m 50) (cond (Nat.ble m 49) (cond (Nat.ble m 48) tb48 tb49) tb50) (cond (Nat.ble m 52) (cond (Nat.ble m 51) tb51 tb52) tb53)) (cond (Nat.ble m 56) (cond (Nat.ble m 55) (cond (Nat.ble m 54) tb54 tb55) tb56) (cond (Nat.ble m 58) (cond (Nat.ble m 57) tb57 tb58) tb59))) (cond (Nat.ble m 65) (cond (Nat.ble m 62) (cond (Nat.ble m 61) (cond (Nat.ble m 60) tb60 tb61) tb62) (cond (Nat.ble m 64) (cond (Nat.ble m 63) tb63 tb64) tb65)) (cond (Nat.ble m 68) (cond (Nat.ble m 67) (cond (Nat.ble m 66) tb66 tb67) tb68) (cond (Nat.ble m 69) tb69 tb70)))) (cond (Nat.ble m 82) (cond (Nat.ble m 76) (cond (Nat.ble m 73) (cond (Nat.ble m 72) (cond (Nat.ble m 71) tb71 tb72) tb73) (cond (Nat.ble m 75) (cond (Nat.ble m 74) tb74 tb75) tb76)) (cond (Nat.ble m 79) (cond (Nat.ble m 78) (cond (Nat.ble m 77) tb77 tb78) tb79) (cond (Nat.ble m 81) (cond (Nat.ble m 80) tb80 tb81) tb82))) (cond (Nat.ble m 88) (cond (Nat.ble m 85) (cond (Nat.ble m 84) (cond (Nat.ble m 83) tb83 tb84) tb85) (cond (Nat.ble m 87) (cond (Nat.ble m 86) tb86 tb87) tb88)) (cond (Nat.ble m 91) (cond (Nat.ble m 90) (cond (Nat.ble m 89) tb89 tb90) tb91) (cond (Nat.ble m 92) tb92 tb93)))))) (cond (Nat.ble m 140) (cond (Nat.ble m 117) (cond (Nat.ble m 105) (cond (Nat.ble m 99) (cond (Nat.ble m 96) (cond (Nat.ble m 95) (cond (Nat.ble m 94) tb94 tb95) tb96) (cond (Nat.ble m 98) (cond (Nat.ble m 97) tb97 tb98) tb99)) (cond (Nat.ble m 102) (cond (Nat.ble m 101) (cond (Nat.ble m 100) tb100 tb101) tb102) (cond (Nat.ble m 104) (cond (Nat.ble m 103) tb103 tb104) tb105))) (cond (Nat.ble m 111) (cond (Nat.ble m 108) (cond (Nat.ble m 107) (cond (Nat.ble m 106) tb106 tb107) tb108) (cond (Nat.ble m 110) (cond (Nat.ble m 109) tb109 tb110) tb111)) (cond (Nat.ble m 114) (cond (Nat.ble m 113) (cond (Nat.ble m 112) tb112 tb113) tb114) (cond (Nat.ble m 116) (cond (Nat.ble m 115) tb115 tb116) tb117)))) (cond (Nat.ble m 129) (cond (Nat.ble m 123) (cond (Nat.ble m 120) (cond (Nat.ble m 119) (cond (Nat.ble m 118) tb118 tb119) tb120) (cond (Nat.ble m 122) (cond (Nat.ble m 121) tb121 tb122) tb123)) (cond (Nat.ble m 126) (cond (Nat.ble m 125) (cond (Nat.ble m 124) tb124 tb125) tb126) (cond (Nat.ble m 128) (cond (Nat.ble m 127) tb127 tb128) tb129))) (cond (Nat.ble m 135) (cond (Nat.ble m 132) (cond (Nat.ble m 131) (cond (Nat.ble m 130) tb130 tb131) tb132) (cond (Nat.ble m 134) (cond (Nat.ble m 133) tb133 tb134) tb135)) (cond (Nat.ble m 138) (cond (Nat.ble m 137) (cond (Nat.ble m 136) tb136 tb137) tb138) (cond (Nat.ble m 139) tb139 tb140))))) (cond (Nat.ble m 163) (cond (Nat.ble m 152) (cond (Nat.ble m 146) (cond (Nat.ble m 143) (cond (Nat.ble m 142) (cond (Nat.ble m 141) tb141 tb142) tb143) (cond (Nat.ble m 145) (cond (Nat.ble m 144) tb144 tb145) tb146)) (cond (Nat.ble m 149) (cond (Nat.ble m 148) (cond (Nat.ble m 147) tb147 tb148) tb149) (cond (Nat.ble m 151) (cond (Nat.ble m 150) tb150 tb151) tb152))) (cond (Nat.ble m 158) (cond (Nat.ble m 155) (cond (Nat.ble m 154) (cond (Nat.ble m 153) tb153 tb154) tb155) (cond (Nat.ble m 157) (cond (Nat.ble m 156) tb156 tb157) tb158)) (cond (Nat.ble m 161) (cond (Nat.ble m 160) (cond (Nat.ble m 159) tb159 tb160) tb161) (cond (Nat.ble m 162) tb162 tb163)))) (cond (Nat.ble m 175) (cond (Nat.ble m 169) (cond (Nat.ble m 166) (cond (Nat.ble m 165) (cond (Nat.ble m 164) tb164 tb165) tb166) (cond (Nat.ble m 168) (cond (Nat.ble m 167) tb167 tb168) tb169)) (cond (Nat.ble m 172) (cond (Nat.ble m 171) (cond (Nat.ble m 170) tb170 tb171) tb172) (cond (Nat.ble m 174) (cond (Nat.ble m 173) tb173 tb174) tb175))) (cond (Nat.ble m 181) (cond (Nat.ble m 178) (cond (Nat.ble m 177) (cond (Nat.ble m 176) tb176 tb177) tb178) (cond (Nat.ble m 180) (cond (Nat.ble m 179) tb179 tb180) tb181)) (cond (Nat.ble m 184) (cond (Nat.ble m 183) (cond (Nat.ble m 182) tb182 tb183) tb184) (cond (Nat.ble m 185) tb185 tb186))))))) (cond (Nat.ble m 279) (cond (Nat.ble m 233) (cond (Nat.ble m 210) (cond (Nat.ble m 198) (cond (Nat.ble m 192) (cond (Nat.ble m 189) (cond (Nat.ble m 188) (cond (Nat.ble m 187) tb187 tb188) tb189) (cond (Nat.ble m 191) (cond (Nat.ble m 190) tb190 tb191) tb192)) (cond (Nat.ble m 195) (cond (Nat.ble m 194) (cond (Nat.ble m 193) tb193 tb194) tb195) (cond (Nat.ble m 197) (cond (Nat.ble m 196) tb196 tb197) tb198))) (cond (Nat.ble m 204) (cond (Nat.ble m 201) (cond (Nat.ble m 200) (cond (Nat.ble m 199) tb199 tb200) tb201) (cond (Nat.ble m 203) (cond (Nat.ble m 202) tb202 tb203) tb204)) (cond (Nat.ble m 207) (cond (Nat.ble m 206) (cond (Nat.ble m 205) tb205 tb206) tb207) (cond (Nat.ble m 209) (cond (Nat.ble m 208) tb208 tb209) tb210)))) (cond (Nat.ble m 222) (cond (Nat.ble m 216) (cond (Nat.ble m 213) (cond (Nat.ble m 212) (cond (Nat.ble m 211) tb211 tb212) tb213) (cond (Nat.ble m 215) (cond (Nat.ble m 214) tb214 tb215) tb216)) (cond (Nat.ble m 219) (cond (Nat.ble m 218) (cond (Nat.ble m 217) tb217 tb218) tb219) (cond (Nat.ble m 221) (cond (Nat.ble m 220) tb220 tb221) tb222))) (cond (Nat.ble m 228) (cond (Nat.ble m 225) (cond (Nat.ble m 224) (cond (Nat.ble m 223) tb223 tb224) tb225) (cond (Nat.ble m 227) (cond (Nat.ble m 226) tb226 tb227) tb228)) (cond (Nat.ble m 231) (cond (Nat.ble m 230) (cond (Nat.ble m 229) tb229 tb230) tb231) (cond (Nat.ble m 232) tb232 tb233))))) (cond (Nat.ble m 256) (cond (Nat.ble m 245) (cond (Nat.ble m 239) (cond (Nat.ble m 236) (cond (Nat.ble m 235) (cond (Nat.ble m 234) tb234 tb235) tb236) (cond (Nat.ble m 238) (cond (Nat.ble m 237) tb237 tb238) tb239)) (cond (Nat.ble m 242) (cond (Nat.ble m 241) (cond (Nat.ble m 240) tb240 tb241) tb242) (cond (Nat.ble m 244) (cond (Nat.ble m 243) tb243 tb244) tb245))) (cond (Nat.ble m 251) (cond (Nat.ble m 248) (cond (Nat.ble m 247) (cond (Nat.ble m 246) tb246 tb247) tb248) (cond (Nat.ble m 250) (cond (Nat.ble m 249) tb249 tb250) tb251)) (cond (Nat.ble m 254) (cond (Nat.ble m 253) (cond (Nat.ble m 252) tb252 tb253) tb254) (cond (Nat.ble m 255) tb255 tb256)))) (cond (Nat.ble m 268) (cond (Nat.ble m 262) (cond (Nat.ble m 259) (cond (Nat.ble m 258) (cond (Nat.ble m 257) tb257 tb258) tb259) (cond (Nat.ble m 261) (cond (Nat.ble m 260) tb260 tb261) tb262)) (cond (Nat.ble m 265) (cond (Nat.ble m 264) (cond (Nat.ble m 263) tb263 tb264) tb265) (cond (Nat.ble m 267) (cond (Nat.ble m 266) tb266 tb267) tb268))) (cond (Nat.ble m 274) (cond (Nat.ble m 271) (cond (Nat.ble m 270) (cond (Nat.ble m 269) tb269 tb270) tb271) (cond (Nat.ble m 273) (cond (Nat.ble m 272) tb272 tb273) tb274)) (cond (Nat.ble m 277) (cond (Nat.ble m 276) (cond (Nat.ble m 275) tb275 tb276) tb277) (cond (Nat.ble m 278) tb278 tb279)))))) (cond (Nat.ble m 325) (cond (Nat.ble m 302) (cond (Nat.ble m 291) (cond (Nat.ble m 285) (cond (Nat.ble m 282) (cond (Nat.ble m 281) (cond (Nat.ble m 280) tb280 tb281) tb282) (cond (Nat.ble m 284) (cond (Nat.ble m 283) tb283 tb284) tb285)) (cond (Nat.ble m 288) (cond (Nat.ble m 287) (cond (Nat.ble m 286) tb286 tb287) tb288) (cond (Nat.ble m 290) (cond (Nat.ble m 289) tb289 tb290) tb291))) (cond (Nat.ble m 297) (cond (Nat.ble m 294) (cond (Nat.ble m 293) (cond (Nat.ble m 292) tb292 tb293) tb294) (cond (Nat.ble m 296) (cond (Nat.ble m 295) tb295 tb296) tb297)) (cond (Nat.ble m 300) (cond (Nat.ble m 299) (cond (Nat.ble m 298) tb298 tb299) tb300) (cond (Nat.ble m 301) tb301 tb302)))) (cond (Nat.ble m 314) (cond (Nat.ble m 308) (cond (Nat.ble m 305) (cond (Nat.ble m 304) (cond (Nat.ble m 303) tb303 tb304) tb305) (cond (Nat.ble m 307) (cond (Nat.ble m 306) tb306 tb307) tb308)) (cond (Nat.ble m 311) (cond (Nat.ble m 310) (cond (Nat.ble m 309) tb309 tb310) tb311) (cond (Nat.ble m 313) (cond (Nat.ble m 312) tb312 tb313) tb314))) (cond (Nat.ble m 320) (cond (Nat.ble m 317) (cond (Nat.ble m 316) (cond (Nat.ble m 315) tb315 tb316) tb317) (cond (Nat.ble m 319) (cond (Nat.ble m 318) tb318 tb319) tb320)) (cond (Nat.ble m 323) (cond (Nat.ble m 322) (cond (Nat.ble m 321) tb321 tb322) tb323) (cond (Nat.ble m 324) tb324 tb325))))) (cond (Nat.ble m 348) (cond (Nat.ble m 337) (cond (Nat.ble m 331) (cond (Nat.ble m 328) (cond (Nat.ble m 327) (cond (Nat.ble m 326) tb326 tb327) tb328) (cond (Nat.ble m 330) (cond (Nat.ble m 329) tb329 tb330) tb331)) (cond (Nat.ble m 334) (cond (Nat.ble m 333) (cond (Nat.ble m 332) tb332 tb333) tb334) (cond (Nat.ble m 336) (cond (Nat.ble m 335) tb335 tb336) tb337))) (cond (Nat.ble m 343) (cond (Nat.ble m 340) (cond (Nat.ble m 339) (cond (Nat.ble m 338) tb338 tb339) tb340) (cond (Nat.ble m 342) (cond (Nat.ble m 341) tb341 tb342) tb343)) (cond (Nat.ble m 346) (cond (Nat.ble m 345) (cond (Nat.ble m 344) tb344 tb345) tb346) (cond (Nat.ble m 347) tb347 tb348)))) (cond (Nat.ble m 360) (cond (Nat.ble m 354) (cond (Nat.ble m 351) (cond (Nat.ble m 350) (cond (Nat.ble m 349) tb349 tb350) tb351) (cond (Nat.ble m 353) (cond (Nat.ble m 352) tb352 tb353) tb354)) (cond (Nat.ble m 357) (cond (Nat.ble m 356) (cond (Nat.ble m 355) tb355 tb356) tb357) (cond (Nat.ble m 359) (cond (Nat.ble m 358) tb358 tb359) tb360))) (cond (Nat.ble m 366) (cond (Nat.ble m 363) (cond (Nat.ble m 362) (cond (Nat.ble m 361) tb361 tb362) tb363) (cond (Nat.ble m 365) (cond (Nat.ble m 364) tb364 tb365) tb366)) (cond (Nat.ble m 369) (cond (Nat.ble m 368) (cond (Nat.ble m 367) tb367 tb368) tb369) (cond (Nat.ble m 370) tb370 tb371)))))))) [])
def lkup {α : Type} (pc : Nat) : List (Nat × α) → Option α
  | [] => none
  | (k, x) :: l => cond (Nat.beq k pc) (some x) (lkup pc l)
def atab (m pc : Nat) : Option (Instr × Nat × List Nat × (Int32 ⊕ Int64)) := lkup pc (tbs m)
def maxLs : List Nat := [0, 1, 4, 2, 3, 4, 4, 3, 10, 5, 5, 5, 4, 4, 4, 4, 6, 4, 4, 6, 4, 2, 6, 2, 6, 4, 2, 2, 4, 1, 5, 3, 5, 4, 5, 4, 4, 3, 3, 3, 4, 4, 4, 3, 2, 1, 3, 2, 2, 4, 3, 1, 3, 3, 3, 1, 1, 3, 1, 2, 2, 2, 2, 1, 3, 3, 3, 3, 2, 3, 1, 2, 3, 2, 2, 3, 4, 4, 5, 1, 2, 5, 3, 2, 7, 6, 6, 3, 7, 1, 2, 2, 7, 2, 3, 3, 2, 5, 5, 9, 2, 2, 3, 4, 4, 4, 4, 6, 5, 5, 4, 3, 2, 4, 3, 6, 2, 2, 2, 3, 3, 3, 3, 2, 2, 2, 3, 2, 3, 1, 1, 3, 4, 5, 3, 2, 5, 2, 4, 4, 2, 4, 3, 6, 4, 1, 2, 1, 1, 3, 3, 1, 1, 5, 3, 2, 1, 1, 4, 4, 5, 4, 2, 5, 5, 9, 5, 5, 7, 4, 3, 1, 2, 4, 6, 4, 2, 2, 2, 4, 5, 8, 1, 3, 1, 1, 1, 1, 3, 3, 4, 5, 2, 3, 2, 2, 7, 4, 3, 4, 7, 6, 7, 12, 6, 1, 5, 3, 5, 7, 6, 3, 2, 4, 2, 1, 2, 3, 3, 3, 4, 5, 1, 1, 1, 2, 2, 3, 7, 5, 1, 2, 3, 4, 2, 2, 1, 5, 3, 1, 1, 1, 1, 1, 3, 3, 2, 2, 3, 2, 3, 1, 2, 3, 2, 2, 8, 4, 3, 2, 4, 2, 2, 2, 3, 6, 5, 4, 4, 4, 3, 1, 3, 3, 4, 3, 4, 3, 3, 3, 3, 3, 4, 4, 2, 4, 2, 3, 2, 3, 3, 3, 3, 4, 5, 3, 2, 3, 2, 2, 4, 3, 2, 4, 4, 3, 5, 6, 6, 1, 1, 2, 1, 1, 4, 4, 3, 5, 6, 6, 2, 3, 4, 6, 1, 1, 1, 4, 5, 5, 8, 4, 4, 2, 6, 4, 1, 1, 5, 5, 6, 4, 4, 4, 2, 6, 2, 3, 4, 3, 9, 8, 5, 3, 8, 2, 5, 4, 6, 1, 3, 6, 6, 4, 3, 1, 2, 4, 4, 2, 2, 1]
def maxL (m : Nat) : Nat := maxLs.getD m 0
def levs : List Nat := [0, 1, 2, 3, 1, 2, 1, 3, 3, 6, 5, 6, 2, 2, 1, 5, 3, 1, 17, 4, 1, 1, 1, 2, 2, 4, 3, 2, 3, 1, 2, 1, 2, 2, 1, 1, 2, 2, 2, 3, 3, 4, 4, 5, 1, 1, 2, 1, 1, 1, 1, 1, 3, 1, 12, 11, 10, 4, 10, 4, 10, 3, 9, 3, 3, 1, 8, 1, 2, 1, 1, 2, 2, 2, 2, 2, 1, 2, 1, 1, 4, 3, 2, 2, 4, 3, 3, 6, 7, 6, 2, 5, 4, 1, 3, 1, 3, 4, 3, 2, 1, 1, 1, 2, 1, 1, 2, 1, 3, 2, 1, 1, 2, 2, 1, 2, 1, 13, 1, 3, 3, 3, 3, 3, 2, 3, 4, 2, 2, 2, 2, 4, 3, 4, 4, 5, 5, 4, 3, 3, 3, 2, 5, 4, 4, 4, 4, 4, 2, 7, 8, 7, 7, 5, 4, 2, 3, 3, 7, 7, 7, 6, 7, 7, 7, 4, 4, 18, 18, 6, 6, 6, 6, 6, 5, 6, 2, 5, 6, 2, 3, 2, 5, 2, 1, 1, 1, 1, 3, 2, 4, 3, 4, 4, 6, 6, 3, 2, 1, 1, 2, 1, 2, 1, 1, 2, 3, 1, 3, 3, 2, 1, 2, 1, 2, 1, 1, 1, 3, 4, 3, 5, 3, 3, 1, 1, 1, 1, 1, 4, 4, 5, 6, 3, 7, 2, 8, 1, 2, 1, 1, 1, 1, 1, 2, 2, 2, 2, 2, 2, 3, 2, 1, 1, 1, 1, 2, 3, 4, 1, 2, 3, 5, 1, 2, 1, 4, 5, 2, 6, 7, 8, 1, 3, 4, 5, 3, 4, 3, 3, 3, 3, 1, 3, 6, 2, 6, 4, 6, 6, 6, 6, 9, 9, 9, 9, 9, 9, 9, 9, 9, 2, 9, 9, 4, 9, 9, 9, 4, 17, 18, 18, 18, 18, 2, 2, 2, 4, 3, 3, 3, 5, 6, 6, 5, 5, 1, 1, 102, 4, 14, 103, 2, 6, 103, 6, 7, 7, 3, 2, 8, 9, 9, 9, 8, 9, 9, 9, 9, 2, 6, 7, 7, 1, 14, 2, 103, 103, 8, 2, 9, 9, 1, 9, 3, 2, 2, 3, 2, 3, 3, 1]
def lev (m : Nat) : Nat := levs.getD m 0
def R0 (m : Nat) : Nat := (cond (Nat.beq m 353) 12 (cond (Nat.beq m 330) 12 (cond (Nat.beq m 327) 100 (cond (Nat.beq m 326) 12 (cond (Nat.beq m 308) 12 (cond (Nat.beq m 19) 12 0))))))
/-- the fields of each class: kind (0 int, 1 long, 2 a cell, 3 boolean), and of a cell its tag and number -/
def fds : List (List (Nat × Nat × Nat × Nat)) := [[(2, 15489, 1, 0), (2, 15497, 1, 0), (2, 15505, 1, 0), (0, 0, 0, 0)],
  [(2, 48, 0, 0), (2, 24, 0, 1), (2, 6941, 0, 0), (0, 0, 0, 0)],
  [(2, 48, 0, 0), (2, 24, 0, 1), (2, 3346, 0, 0)],
  [(2, 48, 0, 0), (2, 72, 3, 0), (2, 6869, 1, 0)],
  [(2, 105, 1, 0), (2, 113, 1, 0), (0, 0, 0, 0)],
  [(2, 48, 0, 1), (2, 358555, 0, 0), (0, 0, 0, 0), (0, 0, 0, 0), (0, 0, 0, 0), (0, 0, 0, 0), (0, 0, 0, 0), (0, 0, 0, 0), (0, 0, 0, 0), (0, 0, 0, 0)],
  [(0, 0, 0, 0), (0, 0, 0, 0), (0, 0, 0, 0), (0, 0, 0, 0), (2, 32, 2, 0), (2, 32, 2, 1), (2, 3705, 1, 0), (2, 32, 2, 2), (2, 32, 2, 3), (2, 32, 2, 4), (2, 0, 1, 0)],
  [(2, 48, 0, 0), (2, 72, 0, 0), (2, 3297, 0, 0), (2, 3305, 0, 0), (0, 0, 0, 0), (0, 0, 0, 0)],
  [(2, 48, 0, 0), (2, 368881, 0, 0), (2, 368889, 0, 0), (2, 3329, 0, 0), (2, 3337, 0, 0), (0, 0, 0, 0), (0, 0, 0, 0)],
  [(2, 48, 0, 0), (2, 3265, 1, 0), (2, 3273, 1, 0)],
  [(2, 30906, 1, 0), (3, 0, 0, 0), (0, 0, 0, 0), (0, 0, 0, 0)],
  [(2, 48, 0, 0), (2, 48, 0, 1), (2, 40, 0, 0), (2, 1701, 0, 0), (2, 1708, 0, 0), (2, 2229, 0, 0), (2, 72, 0, 0), (2, 72, 0, 1), (2, 24, 0, 0), (2, 24, 0, 1), (2, 24, 0, 2), (2, 56, 0, 0), (2, 64, 0, 0), (2, 16, 0, 0), (2, 8, 0, 0)],
  [(0, 0, 0, 0), (2, 2345, 0, 0), (2, 2353, 0, 0), (2, 123194, 0, 0), (2, 31042, 0, 0), (2, 358731, 0, 0), (0, 0, 0, 0), (0, 0, 0, 0), (0, 0, 0, 0), (0, 0, 0, 0), (0, 0, 0, 0), (1, 0, 0, 0), (0, 0, 0, 0), (0, 0, 0, 0), (0, 0, 0, 0), (0, 0, 0, 0), (2, 2897, 0, 0), (2, 23385, 0, 0), (2, 31073, 0, 0), (2, 36201, 0, 0), (2, 18289, 0, 0), (2, 31097, 0, 0), (2, 51585, 0, 0), (2, 31113, 0, 0), (2, 307601, 0, 0), (2, 1948, 0, 0), (0, 0, 0, 0), (2, 3489, 0, 0), (0, 0, 0, 0), (0, 0, 0, 0), (2, 3497, 0, 0), (2, 3505, 0, 0), (2, 40377, 0, 0), (0, 0, 0, 0), (0, 0, 0, 0), (0, 0, 0, 0), (2, 3521, 0, 0), (2, 3529, 0, 0), (2, 23888337, 0, 0), (2, 369113, 0, 0), (0, 0, 0, 0), (0, 0, 0, 0), (0, 0, 0, 0), (0, 0, 0, 0), (2, 40417, 0, 0)]]
/-- all cells -/
def dom : List (Nat × Nat) := [(88, 0), (48, 0), (48, 1), (48, 2), (48, 3), (48, 4), (32, 0), (32, 1), (32, 2), (32, 3), (32, 4), (32, 5), (32, 6), (32, 7), (32, 8), (32, 9), (32, 10), (32, 11), (32, 12), (32, 13), (32, 14), (32, 15), (32, 16), (32, 17), (32, 18), (32, 19), (32, 20), (32, 21), (32, 22), (32, 23), (32, 24), (105, 0), (105, 1), (105, 2), (105, 3), (105, 4), (105, 5), (105, 6), (105, 7), (105, 8), (105, 9), (105, 10), (105, 11), (105, 12), (105, 13), (105, 14), (105, 15), (105, 16), (105, 17), (105, 18), (105, 19), (105, 20), (105, 21), (105, 22), (105, 23), (105, 24), (113, 0), (113, 1), (113, 2), (113, 3), (113, 4), (113, 5), (113, 6), (113, 7), (113, 8), (113, 9), (113, 10), (113, 11), (113, 12), (113, 13), (113, 14), (113, 15), (113, 16), (113, 17), (113, 18), (113, 19), (113, 20), (113, 21), (113, 22), (113, 23), (113, 24), (3705, 0), (3705, 1), (3705, 2), (3705, 3), (3705, 4), (0, 0), (0, 1), (0, 2), (0, 3), (0, 4), (15489, 0), (15489, 1), (15489, 2), (15489, 3), (15489, 4), (15497, 0), (15497, 1), (15497, 2), (15497, 3), (15497, 4), (15505, 0), (15505, 1), (15505, 2), (15505, 3), (15505, 4), (40, 0), (358555, 0), (1701, 0), (1708, 0), (2229, 0), (80, 0), (80, 1), (80, 2), (80, 3), (30906, 0), (30906, 1), (30906, 2), (30906, 3), (72, 0), (72, 1), (3265, 0), (3265, 1), (3273, 0), (3273, 1), (24, 0), (24, 1), (24, 2), (6869, 0), (6869, 1), (6869, 2), (3289, 0), (3289, 1), (3289, 2), (3289, 3), (3289, 4), (3289, 5), (3289, 6), (3289, 7), (3289, 8), (3289, 9), (3289, 10), (3289, 11), (3289, 12), (3289, 13), (3289, 14), (3289, 15), (3289, 16), (3289, 17), (3289, 18), (3289, 19), (3289, 20), (3289, 21), (3289, 22), (3289, 23), (3289, 24), (3289, 25), (3289, 26), (3289, 27), (3289, 28), (3289, 29), (3289, 30), (3289, 31), (3289, 32), (3289, 33), (3289, 34), (3289, 35), (3289, 36), (3289, 37), (3289, 38), (56, 0), (3297, 0), (3305, 0), (64, 0), (368881, 0), (368889, 0), (3329, 0), (3337, 0), (16, 0), (3346, 0), (8, 0), (6941, 0), (3361, 0), (3361, 1), (3361, 2), (3361, 3), (3361, 4), (3361, 5), (3361, 6), (3361, 7), (3361, 8), (3361, 9), (3361, 10), (3361, 11), (3361, 12), (96, 0), (2345, 0), (2353, 0), (123194, 0), (31042, 0), (358731, 0), (2897, 0), (23385, 0), (31073, 0), (36201, 0), (18289, 0), (31097, 0), (51585, 0), (31113, 0), (307601, 0), (1948, 0), (3489, 0), (3497, 0), (3505, 0), (40377, 0), (3521, 0), (3529, 0), (23888337, 0), (369113, 0), (40417, 0)]
/-- the arrays' tags, with what they hold -/
def atg : List (Nat × FieldType) := [(105, .int), (113, .int), (3705, .int), (15489, .int), (15497, .int), (15505, .int), (358555, .byte), (1701, .object RX6), (1708, .boolean), (2229, .object RX10), (30906, .long), (3265, .int), (3273, .int), (6869, .array .int), (3289, .int), (3297, .int), (3305, .int), (368881, .int), (368889, .int), (3329, .int), (3337, .int), (3346, .long), (6941, .array .int), (3361, .int), (2345, .int), (2353, .int), (123194, .long), (31042, .long), (358731, .byte), (2897, .int), (23385, .int), (31073, .int), (36201, .int), (18289, .int), (31097, .int), (51585, .int), (31113, .int), (307601, .int), (1948, .boolean), (3489, .int), (3497, .int), (3505, .int), (40377, .int), (3521, .int), (3529, .int), (23888337, .int), (369113, .int), (40417, .int)]
end
section
/-! LINKS: by program (wip/whole/links.py): the words of each method and link, by their places in lw_tbl -/
def cnms : List String := [RX0, RX1, RX2, RX3, RX4, RX5, RX6, RX7, RX8, RX9, RX10, RX11, RX12, RJ6]
def cnm (c : Nat) : String := cnms.getD c ""
abbrev MD : Type := Nat × Bool × MethodName × ByteArray × Option FieldType × Nat × List Nat
def md0 : MD := (0, false, yX0_init, cX0_init, none, 0, [0, 0, 0, 0])
def mds0 : List MD := [(0, false, yX0_isFull, cX0_isFull, (some .boolean), 0, [3118, 1005, 3116, 3117]),
  (0, false, yX0_addExchange, cX0_addExchange, none, 3, [3114, 1005, 3112, 3113]),
  (0, false, yX0_addFelling, cX0_addFelling, none, 1, [6067, 1005, 6065, 6066]),
  (0, false, yX0_isFallen, cX0_isFallen, (some .boolean), 1, [3139, 1005, 3137, 3138]),
  (0, false, yX0_exchangeIn, cX0_exchangeIn, none, 2, [3175, 1005, 3173, 3174]),
  (0, true, yX0_exchange, cX0_exchange, none, 3, [3178, 1005, 3177, 0]),
  (0, false, yX0_copyFrom, cX0_copyFrom, none, 1, [3110, 1005, 3108, 3109]),
  (1, false, yX1_isRight, cX1_isRight, (some .boolean), 1, [5150, 1012, 5148, 5149]),
  (1, false, yX1_firstPlaces, cX1_firstPlaces, (some .int), 2, [5155, 1012, 5153, 5154]),
  (1, false, yX1_lawsThatAgree, cX1_lawsThatAgree, (some .int), 2, [5204, 1012, 5202, 5203]),
  (1, false, yX1_tallyYears, cX1_tallyYears, none, 2, [5177, 1012, 5175, 5176]),
  (1, false, yX1_tallyCourse, cX1_tallyCourse, none, 1, [5181, 1012, 5180, 37]),
  (1, false, yX1_yearToAsk, cX1_yearToAsk, (some .int), 0, [5186, 1012, 5184, 5185]),
  (1, false, yX1_worstIn, cX1_worstIn, (some .int), 1, [5190, 1012, 5188, 5189]),
  (1, false, yX1_canHaveBeen, cX1_canHaveBeen, (some .boolean), 3, [5159, 1012, 5158, 35]),
  (1, false, yX1_agrees, cX1_agrees, (some .boolean), 2, [5168, 1012, 5167, 36]),
  (2, true, yX2_tenTo, cX2_tenTo, (some .long), 1, [6047, 1011, 6046, 0]),
  (2, false, yX2_weigh, cX2_weigh, none, 2, [6026, 1011, 6024, 6025]),
  (2, false, yX2_branch, cX2_branch, none, 4, [6033, 1011, 6032, 44]),
  (2, false, yX2_addWeight, cX2_addWeight, none, 2, [6038, 1011, 6037, 45]),
  (2, false, yX2_weightOf, cX2_weightOf, (some .long), 1, [6044, 1011, 6042, 6043]),
  (2, false, yX2_drawYears, cX2_drawYears, (some .int), 1, [6087, 1011, 6085, 6086]),
  (3, false, yX3_startAsTold, cX3_startAsTold, none, 0, [3159, 1008, 3157, 3158]),
  (3, false, yX3_startWith, cX3_startWith, none, 2, [5163, 1008, 5161, 5162]),
  (3, false, yX3_run, cX3_run, none, 2, [3164, 1008, 3162, 3163])]
def mds1 : List MD := [(3, false, yX3_exchangeIn, cX3_exchangeIn, none, 1, [3168, 1008, 3166, 3167]),
  (3, false, yX3_stayOn, cX3_stayOn, none, 1, [3186, 1008, 3184, 3185]),
  (3, false, yX3_moveOn, cX3_moveOn, none, 2, [3182, 1008, 3180, 3181]),
  (3, true, yX3_isRowOfSpots, cX3_isRowOfSpots, (some .boolean), 1, [3171, 1008, 3170, 0]),
  (3, false, yX3_goOn, cX3_goOn, none, 3, [3195, 1008, 3194, 17]),
  (3, false, yX3_goBack, cX3_goBack, none, 1, [3203, 1008, 3202, 18]),
  (3, false, yX3_changeMostAndLeast, cX3_changeMostAndLeast, none, 1, [3207, 1008, 3206, 19]),
  (3, false, yX3_unhappy, cX3_unhappy, (some .int), 1, [3216, 1008, 3215, 20]),
  (3, false, yX3_placesOf, cX3_placesOf, (some .int), 2, [3225, 1008, 3224, 21]),
  (3, false, yX3_spot, cX3_spot, (some .int), 2, [4098, 1008, 4096, 4097]),
  (3, false, yX3_isAlike, cX3_isAlike, (some .boolean), 2, [4164, 1008, 4162, 4163]),
  (3, false, yX3_marksSeen, cX3_marksSeen, (some .int), 2, [4110, 1008, 4108, 4109]),
  (3, false, yX3_seesHope, cX3_seesHope, (some .boolean), 2, [4147, 1008, 4145, 4146]),
  (3, false, yX3_firstGladYear, cX3_firstGladYear, (some .int), 1, [4143, 1008, 4141, 4142]),
  (3, false, yX3_joyIn, cX3_joyIn, (some .int), 2, [4120, 1008, 4118, 4119]),
  (3, false, yX3_joyOfLife, cX3_joyOfLife, (some .int), 1, [4130, 1008, 4128, 4129]),
  (3, false, yX3_joyOfAllIn, cX3_joyOfAllIn, (some .int), 1, [4176, 1008, 4174, 4175]),
  (3, false, yX3_joyOfAll, cX3_joyOfAll, (some .int), 0, [5220, 1008, 5218, 5219]),
  (4, false, yX4_has, cX4_has, (some .boolean), 1, [3073, 1003, 3071, 3072]),
  (4, false, yX4_isFull, cX4_isFull, (some .boolean), 0, [3046, 1003, 3044, 3045]),
  (4, false, yX4_add, cX4_add, none, 2, [3058, 1003, 3056, 3057]),
  (4, false, yX4_one, cX4_one, (some .int), 1, [3147, 1003, 3145, 3146]),
  (4, false, yX4_other, cX4_other, (some .int), 1, [3151, 1003, 3149, 3150]),
  (4, false, yX4_hasPair, cX4_hasPair, (some .boolean), 2, [3054, 1003, 3052, 3053]),
  (4, false, yX4_hasOne, cX4_hasOne, (some .boolean), 1, [3089, 1003, 3087, 3088])]
def mds2 : List MD := [(4, false, yX4_allBits, cX4_allBits, (some .int), 0, [3191, 1003, 3189, 3190]),
  (4, false, yX4_copyFrom, cX4_copyFrom, none, 1, [3102, 1003, 3100, 3101]),
  (5, false, yX5_append, cX5_append, none, 1, [2165, 1006, 2163, 2164]),
  (5, false, yX5_readRoof, cX5_readRoof, (some .boolean), 0, [2177, 1006, 2175, 2176]),
  (5, false, yX5_readLine, cX5_readLine, (some .boolean), 0, [2196, 1006, 2195, 2]),
  (5, false, yX5_readRoofLine, cX5_readRoofLine, (some .boolean), 0, [2200, 1006, 2199, 3]),
  (5, false, yX5_readPoint, cX5_readPoint, (some .boolean), 1, [3038, 1006, 3037, 9]),
  (5, false, yX5_readWorth, cX5_readWorth, (some .boolean), 0, [3064, 1006, 3063, 11]),
  (5, false, yX5_readWay, cX5_readWay, (some .boolean), 0, [3079, 1006, 3078, 12]),
  (5, false, yX5_readLooker, cX5_readLooker, (some .boolean), 0, [3084, 1006, 3083, 13]),
  (5, false, yX5_takeHead, cX5_takeHead, (some .boolean), 1, [3042, 1006, 3041, 10]),
  (5, false, yX5_takeWord, cX5_takeWord, (some .boolean), 1, [2205, 1006, 2204, 4]),
  (5, false, yX5_takeSign, cX5_takeSign, (some .boolean), 0, [3094, 1006, 3093, 14]),
  (5, false, yX5_takeNumber, cX5_takeNumber, (some .boolean), 2, [3026, 1006, 3025, 7]),
  (5, false, yX5_refuse, cX5_refuse, (some .boolean), 2, [3021, 1006, 3020, 6]),
  (5, false, yX5_isWord, cX5_isWord, (some .boolean), 1, [2209, 1006, 2208, 5]),
  (5, false, yX5_numberOfToken, cX5_numberOfToken, (some .int), 0, [3030, 1006, 3029, 8]),
  (5, false, yX5_nextToken, cX5_nextToken, none, 0, [2185, 1006, 2184, 0]),
  (5, false, yX5_kindAt, cX5_kindAt, (some .int), 1, [2189, 1006, 2188, 1]),
  (6, false, yX6_isTold, cX6_isTold, (some .boolean), 0, [4064, 1002, 4062, 4063]),
  (6, false, yX6_hasYear, cX6_hasYear, (some .boolean), 1, [4093, 1002, 4091, 4092]),
  (6, false, yX6_isTaken, cX6_isTaken, (some .boolean), 2, [3050, 1002, 3048, 3049]),
  (6, false, yX6_isFallen, cX6_isFallen, (some .boolean), 1, [3135, 1002, 3133, 3134]),
  (6, false, yX6_worthOfMark, cX6_worthOfMark, (some .int), 1, [4010, 1002, 4008, 4009]),
  (6, false, yX6_setWorth, cX6_setWorth, none, 2, [3069, 1002, 3067, 3068])]
def mds3 : List MD := [(6, false, yX6_worthOfSet, cX6_worthOfSet, (some .int), 1, [3155, 1002, 3153, 3154]),
  (6, false, yX6_neighbours, cX6_neighbours, (some .int), 1, [4027, 1002, 4025, 4026]),
  (6, false, yX6_nextIn, cX6_nextIn, (some .int), 2, [3199, 1002, 3197, 3198]),
  (6, false, yX6_makeEmpty, cX6_makeEmpty, none, 0, [2181, 1002, 2179, 2180]),
  (6, false, yX6_copyFrom, cX6_copyFrom, none, 1, [3098, 1002, 3096, 3097]),
  (7, false, yX7_tryAll, cX7_tryAll, none, 0, [4197, 1009, 4195, 4196]),
  (7, false, yX7_gladByRow, cX7_gladByRow, (some .int), 0, [4211, 1009, 4210, 24]),
  (7, false, yX7_placeInFirst, cX7_placeInFirst, (some .int), 1, [4222, 1009, 4220, 4221]),
  (7, false, yX7_ordersThatGive, cX7_ordersThatGive, (some .int), 2, [5094, 1009, 5092, 5093]),
  (7, false, yX7_takenByOrder, cX7_takenByOrder, (some .int), 1, [5098, 1009, 5097, 33]),
  (8, false, yX8_isGoal, cX8_isGoal, (some .boolean), 1, [5011, 1010, 5009, 5010]),
  (8, false, yX8_fewest, cX8_fewest, (some .int), 1, [5023, 1010, 5021, 5022]),
  (8, false, yX8_firstLooker, cX8_firstLooker, (some .int), 1, [5072, 1010, 5070, 5071]),
  (8, false, yX8_spreadFromTold, cX8_spreadFromTold, none, 0, [5081, 1010, 5079, 5080]),
  (8, false, yX8_fillAsTold, cX8_fillAsTold, none, 0, [5063, 1010, 5062, 32]),
  (8, false, yX8_spread, cX8_spread, none, 0, [5027, 1010, 5026, 26]),
  (8, false, yX8_visitNeighbours, cX8_visitNeighbours, none, 0, [5047, 1010, 5046, 28]),
  (8, false, yX8_nearTo, cX8_nearTo, (some .int), 1, [5059, 1010, 5058, 31]),
  (8, false, yX8_visit, cX8_visit, none, 1, [5032, 1010, 5031, 27]),
  (8, false, yX8_taken, cX8_taken, (some .int), 0, [5055, 1010, 5054, 30]),
  (8, false, yX8_distanceOfRow, cX8_distanceOfRow, (some .int), 0, [5051, 1010, 5050, 29]),
  (9, false, yX9_look, cX9_look, none, 1, [3126, 1007, 3124, 3125]),
  (9, false, yX9_hider, cX9_hider, (some .int), 3, [3131, 1007, 3129, 3130]),
  (9, false, yX9_isBetween, cX9_isBetween, (some .boolean), 3, [3143, 1007, 3142, 16]),
  (9, false, yX9_marksFrom, cX9_marksFrom, (some .int), 1, [4037, 1007, 4035, 4036])]
def mds4 : List MD := [(9, false, yX9_worthFrom, cX9_worthFrom, (some .int), 1, [3211, 1007, 3209, 3210]),
  (9, false, yX9_isSeen, cX9_isSeen, (some .boolean), 2, [3221, 1007, 3219, 3220]),
  (9, false, yX9_placesOf, cX9_placesOf, (some .int), 1, [4045, 1007, 4043, 4044]),
  (9, false, yX9_marksFromSet, cX9_marksFromSet, (some .int), 1, [4073, 1007, 4071, 4072]),
  (9, false, yX9_placeOfMostWorth, cX9_placeOfMostWorth, (some .int), 1, [4081, 1007, 4079, 4080]),
  (9, false, yX9_firstThatSees, cX9_firstThatSees, (some .int), 2, [5103, 1007, 5101, 5102]),
  (9, false, yX9_worthOfNthBest, cX9_worthOfNthBest, (some .int), 1, [4235, 1007, 4233, 4234]),
  (9, false, yX9_sixtiethsOfShare, cX9_sixtiethsOfShare, (some .int), 1, [5115, 1007, 5113, 5114]),
  (9, false, yX9_leastWatch, cX9_leastWatch, (some .int), 0, [5132, 1007, 5130, 5131]),
  (10, false, yX10_makeAnew, cX10_makeAnew, none, 2, [6124, 1013, 6122, 6123]),
  (10, false, yX10_hasNumbers, cX10_hasNumbers, (some .boolean), 2, [5019, 1013, 5017, 5018]),
  (10, false, yX10_number, cX10_number, (some .long), 1, [5015, 1013, 5013, 5014]),
  (10, false, yX10_setNumber, cX10_setNumber, none, 2, [6135, 1013, 6133, 6134]),
  (10, false, yX10_cut, cX10_cut, (some .long), 1, [6139, 1013, 6138, 47]),
  (11, false, yX11_feed, cX11_feed, (some .int), 5, [2161, 1001, 2159, 2160]),
  (11, false, yX11_end, cX11_end, (some .int), 1, [2169, 1001, 2167, 2168]),
  (11, false, yX11_roof, cX11_roof, (some .int), 0, [2173, 1001, 2171, 2172]),
  (11, false, yX11_fault, cX11_fault, (some .int), 1, [3229, 1001, 3227, 3228]),
  (11, false, yX11_place, cX11_place, (some .int), 2, [3233, 1001, 3231, 3232]),
  (11, false, yX11_mark, cX11_mark, (some .int), 2, [4006, 1001, 4004, 4005]),
  (11, false, yX11_flue, cX11_flue, (some .int), 2, [4014, 1001, 4012, 4013]),
  (11, false, yX11_looker, cX11_looker, (some .int), 2, [4019, 1001, 4017, 4018]),
  (11, false, yX11_ways, cX11_ways, (some .int), 1, [4023, 1001, 4021, 4022]),
  (11, false, yX11_sees, cX11_sees, (some .int), 1, [4033, 1001, 4031, 4032]),
  (11, false, yX11_from, cX11_from, (some .int), 1, [4041, 1001, 4039, 4040])]
def mds5 : List MD := [(11, false, yX11_hides, cX11_hides, (some .int), 2, [4050, 1001, 4048, 4049]),
  (11, false, yX11_worth, cX11_worth, (some .int), 1, [4055, 1001, 4053, 4054]),
  (11, false, yX11_blind, cX11_blind, (some .int), 0, [4060, 1001, 4058, 4059]),
  (11, false, yX11_lost, cX11_lost, (some .int), 0, [4068, 1001, 4066, 4067]),
  (11, false, yX11_best, cX11_best, (some .int), 0, [4077, 1001, 4075, 4076]),
  (11, false, yX11_at, cX11_at, (some .int), 2, [4085, 1001, 4083, 4084]),
  (11, false, yX11_who, cX11_who, (some .int), 2, [4102, 1001, 4100, 4101]),
  (11, false, yX11_seen, cX11_seen, (some .int), 2, [4106, 1001, 4104, 4105]),
  (11, false, yX11_joy, cX11_joy, (some .int), 2, [4116, 1001, 4114, 4115]),
  (11, false, yX11_life, cX11_life, (some .int), 1, [4126, 1001, 4124, 4125]),
  (11, false, yX11_sad, cX11_sad, (some .int), 0, [4135, 1001, 4133, 4134]),
  (11, false, yX11_drill, cX11_drill, (some .int), 1, [4139, 1001, 4137, 4138]),
  (11, false, yX11_glad, cX11_glad, (some .int), 1, [4151, 1001, 4149, 4150]),
  (11, false, yX11_often, cX11_often, (some .int), 1, [4156, 1001, 4154, 4155]),
  (11, false, yX11_round, cX11_round, (some .int), 0, [4160, 1001, 4158, 4159]),
  (11, false, yX11_walks, cX11_walks, (some .int), 1, [4168, 1001, 4166, 4167]),
  (11, false, yX11_feast, cX11_feast, (some .int), 0, [4172, 1001, 4170, 4171]),
  (11, false, yX11_envies, cX11_envies, (some .int), 2, [4180, 1001, 4178, 4179]),
  (11, false, yX11_trade, cX11_trade, (some .int), 1, [4184, 1001, 4182, 4183]),
  (11, false, yX11_roster, cX11_roster, (some .int), 0, [4193, 1001, 4191, 4192]),
  (11, false, yX11_put, cX11_put, (some .int), 1, [4218, 1001, 4216, 4217]),
  (11, false, yX11_rosters, cX11_rosters, (some .int), 0, [4227, 1001, 4225, 4226]),
  (11, false, yX11_fair, cX11_fair, (some .int), 0, [4231, 1001, 4229, 4230]),
  (11, false, yX11_shifts, cX11_shifts, (some .int), 1, [5000, 1001, 4238, 4239]),
  (11, false, yX11_first, cX11_first, (some .int), 1, [5068, 1001, 5066, 5067])]
def mds6 : List MD := [(11, false, yX11_reach, cX11_reach, (some .int), 0, [5077, 1001, 5075, 5076]),
  (11, false, yX11_far, cX11_far, (some .int), 0, [5085, 1001, 5083, 5084]),
  (11, false, yX11_lot, cX11_lot, (some .int), 3, [5089, 1001, 5087, 5088]),
  (11, false, yX11_share, cX11_share, (some .int), 2, [5111, 1001, 5109, 5110]),
  (11, false, yX11_all, cX11_all, (some .int), 1, [5123, 1001, 5121, 5122]),
  (11, false, yX11_watch, cX11_watch, (some .int), 0, [5128, 1001, 5126, 5127]),
  (11, false, yX11_watches, cX11_watches, (some .int), 0, [5138, 1001, 5136, 5137]),
  (11, false, yX11_firsts, cX11_firsts, (some .int), 2, [5142, 1001, 5140, 5141]),
  (11, false, yX11_ask, cX11_ask, (some .int), 2, [5173, 1001, 5171, 5172]),
  (11, false, yX11_leaves, cX11_leaves, (some .int), 2, [5195, 1001, 5193, 5194]),
  (11, false, yX11_laws, cX11_laws, (some .int), 2, [5200, 1001, 5198, 5199]),
  (11, false, yX11_by, cX11_by, (some .int), 1, [5209, 1001, 5207, 5208]),
  (11, false, yX11_law, cX11_law, (some .int), 0, [5225, 1001, 5223, 5224]),
  (11, false, yX11_fell, cX11_fell, (some .int), 0, [5229, 1001, 5227, 5228]),
  (11, false, yX11_rests, cX11_rests, (some .int), 2, [5237, 1001, 5235, 5236]),
  (11, false, yX11_gets, cX11_gets, (some .int), 4, [6014, 1001, 6012, 6013]),
  (11, false, yX11_chance, cX11_chance, (some .int), 4, [6018, 1001, 6016, 6017]),
  (11, false, yX11_mean, cX11_mean, (some .long), 3, [6052, 1001, 6050, 6051]),
  (11, false, yX11_swap, cX11_swap, (some .int), 3, [6057, 1001, 6055, 6056]),
  (11, false, yX11_clear, cX11_clear, (some .int), 1, [6063, 1001, 6061, 6062]),
  (11, false, yX11_undo, cX11_undo, (some .int), 0, [6071, 1001, 6069, 6070]),
  (11, false, yX11_anew, cX11_anew, (some .int), 0, [6075, 1001, 6073, 6074]),
  (11, false, yX11_drawn, cX11_drawn, (some .int), 2, [6079, 1001, 6077, 6078]),
  (11, false, yX11_luck, cX11_luck, (some .int), 3, [6095, 1001, 6093, 6094]),
  (11, false, yX11_rate, cX11_rate, (some .int), 2, [6099, 1001, 6097, 6098])]
def mds7 : List MD := [(11, false, yX11_count, cX11_count, (some .int), 1, [6104, 1001, 6102, 6103]),
  (11, false, yX11_image, cX11_image, (some .int), 1, [6112, 1001, 6110, 6111]),
  (11, false, yX11_back, cX11_back, (some .int), 1, [6116, 1001, 6114, 6115]),
  (11, false, yX11_row, cX11_row, (some .int), 3, [6120, 1001, 6118, 6119]),
  (11, false, yX11_write, cX11_write, (some .int), 3, [6130, 1001, 6128, 6129]),
  (11, false, yX11_paste, cX11_paste, (some .int), 5, [6143, 1001, 6141, 6142]),
  (11, false, yX11_lookAnew, cX11_lookAnew, none, 0, [3122, 1001, 3121, 15]),
  (11, true, yX11_ofPair, cX11_ofPair, (some .int), 3, [3236, 1001, 3235, 0]),
  (11, true, yX11_isOneOfTwo, cX11_isOneOfTwo, (some .boolean), 1, [4000, 1001, 3239, 0]),
  (11, true, yX11_isSlot, cX11_isSlot, (some .boolean), 1, [5007, 1001, 5006, 0]),
  (11, true, yX11_isLaw, cX11_isLaw, (some .boolean), 1, [5212, 1001, 5211, 0]),
  (11, true, yX11_isSeed, cX11_isSeed, (some .boolean), 1, [6082, 1001, 6081, 0]),
  (11, false, yX11_isLookerInYear, cX11_isLookerInYear, (some .boolean), 2, [4089, 1001, 4088, 22]),
  (11, false, yX11_areTwoLookers, cX11_areTwoLookers, (some .boolean), 2, [6001, 1001, 6000, 40]),
  (11, false, yX11_isChanceAsked, cX11_isChanceAsked, (some .boolean), 3, [6022, 1001, 6021, 43]),
  (11, false, yX11_wouldTrade, cX11_wouldTrade, (some .boolean), 3, [4188, 1001, 4187, 23]),
  (11, false, yX11_refuseGoal, cX11_refuseGoal, (some .int), 1, [5004, 1001, 5003, 25]),
  (11, false, yX11_refuseBook, cX11_refuseBook, (some .int), 2, [5146, 1001, 5145, 34]),
  (11, false, yX11_joyByLaw, cX11_joyByLaw, (some .int), 1, [5216, 1001, 5215, 38]),
  (11, false, yX11_joyWithoutFlue, cX11_joyWithoutFlue, (some .int), 1, [5233, 1001, 5232, 39]),
  (11, false, yX11_gain, cX11_gain, (some .int), 4, [6005, 1001, 6004, 41]),
  (11, false, yX11_marksInGame, cX11_marksInGame, (some .int), 2, [6009, 1001, 6008, 42]),
  (11, false, yX11_slotsHeld, cX11_slotsHeld, (some .int), 0, [6108, 1001, 6107, 46]),
  (11, true, yX11_howManyRows, cX11_howManyRows, (some .int), 2, [4200, 1001, 4199, 0]),
  (11, true, yX11_fillRow, cX11_fillRow, none, 4, [4203, 1001, 4202, 0])]
def mds8 : List MD := [(11, true, yX11_nthFree, cX11_nthFree, (some .int), 3, [4207, 1001, 4206, 0]),
  (11, true, yX11_numberOfRow, cX11_numberOfRow, (some .int), 3, [5035, 1001, 5034, 0]),
  (11, true, yX11_inLowestTerms, cX11_inLowestTerms, (some .long), 3, [5107, 1001, 5106, 0]),
  (12, true, yX12_in, cX12_in, (some .boolean), 3, [7058, 1014, 7057, 0]),
  (12, true, yX12_isSlot, cX12_isSlot, (some .boolean), 1, [7054, 1014, 7053, 0]),
  (12, false, yX12_row, cX12_row, (some .int), 3, [7051, 1014, 7049, 7050]),
  (12, true, yX12_cut, cX12_cut, (some .long), 2, [7065, 1014, 7064, 0]),
  (12, false, yX12_write, cX12_write, (some .int), 3, [7062, 1014, 7060, 7061]),
  (12, false, yX12_paste, cX12_paste, (some .int), 5, [7069, 1014, 7067, 7068]),
  (12, false, yX12_feed, cX12_feed, (some .int), 5, [7073, 1014, 7071, 7072]),
  (12, false, yX12_four, cX12_four, none, 1, [7077, 1014, 7076, 48]),
  (12, false, yX12_end, cX12_end, (some .int), 1, [7081, 1014, 7079, 7080]),
  (12, false, yX12_isByte, cX12_isByte, (some .boolean), 3, [7109, 1014, 7108, 53]),
  (12, false, yX12_next, cX12_next, none, 0, [7105, 1014, 7104, 52]),
  (12, false, yX12_isGood, cX12_isGood, (some .boolean), 0, [7118, 1014, 7117, 54]),
  (12, false, yX12_fails, cX12_fails, none, 1, [7135, 1014, 7134, 58]),
  (12, false, yX12_is, cX12_is, (some .boolean), 1, [7131, 1014, 7130, 57]),
  (12, false, yX12_takes, cX12_takes, (some .boolean), 1, [7127, 1014, 7126, 56]),
  (12, false, yX12_asks, cX12_asks, none, 1, [7123, 1014, 7122, 55]),
  (12, false, yX12_number, cX12_number, (some .int), 2, [7144, 1014, 7143, 60]),
  (12, false, yX12_number_, cX12_number_, (some .int), 3, [7140, 1014, 7139, 59]),
  (12, false, yX12_ends, cX12_ends, none, 0, [7191, 1014, 7190, 69]),
  (12, false, yX12_begins, cX12_begins, none, 0, [7101, 1014, 7100, 51]),
  (12, false, yX12_isOver, cX12_isOver, none, 0, [7195, 1014, 7194, 70]),
  (12, false, yX12_fault, cX12_fault, (some .int), 1, [7085, 1014, 7083, 7084])]
def mds9 : List MD := [(12, false, yX12_hasRead, cX12_hasRead, (some .int), 1, [7159, 1014, 7158, 63]),
  (12, false, yX12_tells, cX12_tells, none, 2, [7097, 1014, 7096, 50]),
  (12, false, yX12_isTaken, cX12_isTaken, (some .boolean), 5, [7168, 1014, 7167, 65]),
  (12, false, yX12_pointHere, cX12_pointHere, none, 2, [7163, 1014, 7162, 64]),
  (12, false, yX12_placeHere, cX12_placeHere, (some .int), 0, [7180, 1014, 7179, 67]),
  (12, false, yX12_wayLine, cX12_wayLine, none, 0, [7176, 1014, 7175, 66]),
  (12, false, yX12_lookerLine, cX12_lookerLine, none, 0, [7185, 1014, 7184, 68]),
  (12, false, yX12_isRoom, cX12_isRoom, (some .boolean), 3, [7155, 1014, 7154, 62]),
  (12, false, yX12_lineHere, cX12_lineHere, none, 0, [7150, 1014, 7149, 61]),
  (12, false, yX12_clears, cX12_clears, none, 0, [7093, 1014, 7092, 49]),
  (12, false, yX12_roof, cX12_roof, (some .int), 0, [7089, 1014, 7087, 7088]),
  (12, true, yX12_copyRow, cX12_copyRow, none, 4, [7202, 1014, 7201, 0]),
  (12, false, yX12_copyRoof, cX12_copyRoof, none, 2, [7199, 1014, 7198, 71]),
  (12, false, yX12_isRoof, cX12_isRoof, (some .boolean), 0, [8083, 1014, 8082, 88]),
  (12, false, yX12_places, cX12_places, (some .int), 0, [7214, 1014, 7213, 73]),
  (12, false, yX12_marks, cX12_marks, (some .int), 0, [7229, 1014, 7228, 75]),
  (12, false, yX12_men, cX12_men, (some .int), 0, [8017, 1014, 8016, 79]),
  (12, false, yX12_years, cX12_years, (some .int), 0, [8103, 1014, 8102, 90]),
  (12, false, yX12_isPlace, cX12_isPlace, (some .boolean), 1, [7210, 1014, 7209, 72]),
  (12, false, yX12_isMark, cX12_isMark, (some .boolean), 1, [7225, 1014, 7224, 74]),
  (12, false, yX12_isFlue, cX12_isFlue, (some .boolean), 1, [7238, 1014, 7237, 76]),
  (12, false, yX12_isMan, cX12_isMan, (some .boolean), 1, [8013, 1014, 8012, 78]),
  (12, false, yX12_isYear, cX12_isYear, (some .boolean), 1, [8099, 1014, 8098, 89]),
  (12, false, yX12_isAhead, cX12_isAhead, (some .boolean), 1, [9217, 1014, 9216, 132]),
  (12, false, yX12_areTwo, cX12_areTwo, (some .boolean), 2, [9155, 1014, 9154, 126])]
def mds10 : List MD := [(12, true, yX12_isHalf, cX12_isHalf, (some .boolean), 1, [7217, 1014, 7216, 0]),
  (12, true, yX12_isBit, cX12_isBit, (some .boolean), 2, [8005, 1014, 8004, 0]),
  (12, true, yX12_sizeOf, cX12_sizeOf, (some .int), 1, [9066, 1014, 9065, 0]),
  (12, true, yX12_lessOf, cX12_lessOf, (some .int), 2, [8048, 1014, 8047, 0]),
  (12, true, yX12_moreOf, cX12_moreOf, (some .int), 2, [8051, 1014, 8050, 0]),
  (12, false, yX12_isBetween, cX12_isBetween, (some .boolean), 3, [8045, 1014, 8044, 84]),
  (12, false, yX12_hidesOf, cX12_hidesOf, (some .int), 2, [8041, 1014, 8040, 83]),
  (12, false, yX12_laysSees, cX12_laysSees, none, 0, [8037, 1014, 8036, 82]),
  (12, false, yX12_laysFlues, cX12_laysFlues, none, 0, [8002, 1014, 8001, 77]),
  (12, false, yX12_worthOf, cX12_worthOf, (some .int), 1, [8075, 1014, 8074, 87]),
  (12, false, yX12_placeWorth, cX12_placeWorth, (some .int), 1, [8071, 1014, 8070, 86]),
  (12, false, yX12_lays, cX12_lays, none, 0, [8033, 1014, 8032, 81]),
  (12, false, yX12_hopeOf, cX12_hopeOf, (some .int), 1, [8135, 1014, 8134, 98]),
  (12, false, yX12_isGlad, cX12_isGlad, (some .boolean), 2, [8131, 1014, 8130, 97]),
  (12, false, yX12_exchanges, cX12_exchanges, none, 1, [8115, 1014, 8114, 93]),
  (12, false, yX12_oneBy, cX12_oneBy, (some .int), 2, [8127, 1014, 8126, 96]),
  (12, false, yX12_changes, cX12_changes, none, 0, [8123, 1014, 8122, 95]),
  (12, false, yX12_nextPlace, cX12_nextPlace, (some .int), 2, [8139, 1014, 8138, 99]),
  (12, false, yX12_moves, cX12_moves, none, 0, [8119, 1014, 8118, 94]),
  (12, false, yX12_runs, cX12_runs, none, 0, [8111, 1014, 8110, 92]),
  (12, false, yX12_laysNow, cX12_laysNow, none, 0, [8107, 1014, 8106, 91]),
  (12, false, yX12_seesAt, cX12_seesAt, (some .int), 2, [8151, 1014, 8150, 100]),
  (12, false, yX12_joyOf, cX12_joyOf, (some .int), 2, [8159, 1014, 8158, 101]),
  (12, false, yX12_lifeOf, cX12_lifeOf, (some .int), 1, [8167, 1014, 8166, 102]),
  (12, false, yX12_joyAll, cX12_joyAll, (some .int), 0, [9135, 1014, 9134, 125])]
def mds11 : List MD := [(12, false, yX12_gladAt, cX12_gladAt, (some .int), 1, [8183, 1014, 8182, 104]),
  (12, false, yX12_drillOf, cX12_drillOf, (some .int), 1, [8179, 1014, 8178, 103]),
  (12, false, yX12_place, cX12_place, (some .int), 2, [7206, 1014, 7204, 7205]),
  (12, false, yX12_mark, cX12_mark, (some .int), 2, [7221, 1014, 7219, 7220]),
  (12, false, yX12_flue, cX12_flue, (some .int), 2, [7234, 1014, 7232, 7233]),
  (12, false, yX12_looker, cX12_looker, (some .int), 2, [8009, 1014, 8007, 8008]),
  (12, false, yX12_isWay, cX12_isWay, (some .boolean), 2, [8025, 1014, 8024, 80]),
  (12, false, yX12_ways, cX12_ways, (some .int), 1, [8021, 1014, 8019, 8020]),
  (12, false, yX12_sees, cX12_sees, (some .int), 1, [8029, 1014, 8027, 8028]),
  (12, false, yX12_fromOf, cX12_fromOf, (some .int), 1, [8059, 1014, 8058, 85]),
  (12, false, yX12_from, cX12_from, (some .int), 1, [8055, 1014, 8053, 8054]),
  (12, false, yX12_hides, cX12_hides, (some .int), 2, [8063, 1014, 8061, 8062]),
  (12, false, yX12_worth, cX12_worth, (some .int), 1, [8067, 1014, 8065, 8066]),
  (12, false, yX12_blind, cX12_blind, (some .int), 0, [8079, 1014, 8077, 8078]),
  (12, false, yX12_lost, cX12_lost, (some .int), 0, [8087, 1014, 8085, 8086]),
  (12, false, yX12_best, cX12_best, (some .int), 0, [8091, 1014, 8089, 8090]),
  (12, false, yX12_at, cX12_at, (some .int), 2, [8095, 1014, 8093, 8094]),
  (12, false, yX12_who, cX12_who, (some .int), 2, [8143, 1014, 8141, 8142]),
  (12, false, yX12_seen, cX12_seen, (some .int), 2, [8147, 1014, 8145, 8146]),
  (12, false, yX12_joy, cX12_joy, (some .int), 2, [8155, 1014, 8153, 8154]),
  (12, false, yX12_life, cX12_life, (some .int), 1, [8163, 1014, 8161, 8162]),
  (12, false, yX12_sad, cX12_sad, (some .int), 0, [8171, 1014, 8169, 8170]),
  (12, false, yX12_drill, cX12_drill, (some .int), 1, [8175, 1014, 8173, 8174]),
  (12, false, yX12_glad, cX12_glad, (some .int), 1, [8187, 1014, 8185, 8186]),
  (12, false, yX12_often, cX12_often, (some .int), 1, [8191, 1014, 8189, 8190])]
def mds12 : List MD := [(12, false, yX12_isAsFirst, cX12_isAsFirst, (some .boolean), 1, [8199, 1014, 8198, 105]),
  (12, false, yX12_round, cX12_round, (some .int), 0, [8195, 1014, 8193, 8194]),
  (12, false, yX12_walks, cX12_walks, (some .int), 1, [8203, 1014, 8201, 8202]),
  (12, false, yX12_joyAt, cX12_joyAt, (some .int), 1, [8211, 1014, 8210, 106]),
  (12, false, yX12_feast, cX12_feast, (some .int), 0, [8207, 1014, 8205, 8206]),
  (12, false, yX12_envies, cX12_envies, (some .int), 2, [8215, 1014, 8213, 8214]),
  (12, false, yX12_trade, cX12_trade, (some .int), 1, [8219, 1014, 8217, 8218]),
  (12, false, yX12_rowsFrom, cX12_rowsFrom, none, 2, [8231, 1014, 8230, 108]),
  (12, false, yX12_laysRows, cX12_laysRows, none, 0, [8227, 1014, 8226, 107]),
  (12, false, yX12_roster, cX12_roster, (some .int), 0, [8223, 1014, 8221, 8222]),
  (12, false, yX12_put, cX12_put, (some .int), 1, [8235, 1014, 8233, 8234]),
  (12, false, yX12_rosters, cX12_rosters, (some .int), 0, [8239, 1014, 8237, 8238]),
  (12, false, yX12_fair, cX12_fair, (some .int), 0, [9003, 1014, 9001, 9002]),
  (12, false, yX12_codeOf, cX12_codeOf, (some .int), 1, [9019, 1014, 9018, 111]),
  (12, false, yX12_decodes, cX12_decodes, none, 1, [9027, 1014, 9026, 113]),
  (12, false, yX12_isEmpty, cX12_isEmpty, (some .boolean), 1, [9031, 1014, 9030, 114]),
  (12, false, yX12_laysShifts, cX12_laysShifts, none, 1, [9023, 1014, 9022, 112]),
  (12, false, yX12_shiftsTo, cX12_shiftsTo, none, 3, [9035, 1014, 9034, 115]),
  (12, false, yX12_whyNotRow, cX12_whyNotRow, (some .int), 1, [9011, 1014, 9010, 109]),
  (12, false, yX12_startCode, cX12_startCode, (some .int), 0, [9039, 1014, 9038, 116]),
  (12, false, yX12_laysTo, cX12_laysTo, (some .int), 1, [9015, 1014, 9014, 110]),
  (12, false, yX12_shifts, cX12_shifts, (some .int), 1, [9007, 1014, 9005, 9006]),
  (12, false, yX12_first, cX12_first, (some .int), 1, [9043, 1014, 9041, 9042]),
  (12, false, yX12_reach, cX12_reach, (some .int), 0, [9047, 1014, 9045, 9046]),
  (12, false, yX12_far, cX12_far, (some .int), 0, [9051, 1014, 9049, 9050])]
def mds13 : List MD := [(12, true, yX12_times, cX12_times, (some .int), 1, [9069, 1014, 9068, 0]),
  (12, true, yX12_common, cX12_common, (some .long), 2, [9075, 1014, 9074, 0]),
  (12, true, yX12_part, cX12_part, (some .long), 3, [9072, 1014, 9071, 0]),
  (12, false, yX12_takesOf, cX12_takesOf, (some .int), 2, [9063, 1014, 9062, 118]),
  (12, false, yX12_lotsFrom, cX12_lotsFrom, (some .int), 4, [9059, 1014, 9058, 117]),
  (12, false, yX12_lot, cX12_lot, (some .int), 3, [9055, 1014, 9053, 9054]),
  (12, false, yX12_allOf, cX12_allOf, (some .int), 1, [9083, 1014, 9082, 119]),
  (12, false, yX12_all, cX12_all, (some .int), 1, [9079, 1014, 9077, 9078]),
  (12, false, yX12_share, cX12_share, (some .int), 2, [9087, 1014, 9085, 9086]),
  (12, false, yX12_watchOf, cX12_watchOf, (some .int), 0, [9095, 1014, 9094, 120]),
  (12, false, yX12_watch, cX12_watch, (some .int), 0, [9091, 1014, 9089, 9090]),
  (12, false, yX12_watches, cX12_watches, (some .int), 0, [9099, 1014, 9097, 9098]),
  (12, false, yX12_whyNotBook, cX12_whyNotBook, (some .int), 2, [9107, 1014, 9106, 121]),
  (12, false, yX12_isSo, cX12_isSo, (some .boolean), 2, [9115, 1014, 9114, 123]),
  (12, false, yX12_laysFirsts, cX12_laysFirsts, none, 2, [9111, 1014, 9110, 122]),
  (12, false, yX12_firsts, cX12_firsts, (some .int), 2, [9103, 1014, 9101, 9102]),
  (12, false, yX12_ask, cX12_ask, (some .int), 2, [9119, 1014, 9117, 9118]),
  (12, false, yX12_leaves, cX12_leaves, (some .int), 2, [9123, 1014, 9121, 9122]),
  (12, false, yX12_joyBy, cX12_joyBy, (some .int), 1, [9131, 1014, 9130, 124]),
  (12, false, yX12_laws, cX12_laws, (some .int), 2, [9127, 1014, 9125, 9126]),
  (12, false, yX12_by, cX12_by, (some .int), 1, [9139, 1014, 9137, 9138]),
  (12, false, yX12_law, cX12_law, (some .int), 0, [9143, 1014, 9141, 9142]),
  (12, false, yX12_fell, cX12_fell, (some .int), 0, [9147, 1014, 9145, 9146]),
  (12, false, yX12_turnedTo, cX12_turnedTo, (some .int), 2, [9163, 1014, 9162, 128]),
  (12, false, yX12_getsBy, cX12_getsBy, (some .int), 5, [9159, 1014, 9158, 127])]
def mds14 : List MD := [(12, false, yX12_rests, cX12_rests, (some .int), 2, [9151, 1014, 9149, 9150]),
  (12, false, yX12_gets, cX12_gets, (some .int), 4, [9167, 1014, 9165, 9166]),
  (12, true, yX12_power, cX12_power, (some .long), 2, [9182, 1014, 9181, 0]),
  (12, false, yX12_weightOf, cX12_weightOf, (some .long), 3, [9179, 1014, 9178, 130]),
  (12, false, yX12_isSoon, cX12_isSoon, (some .boolean), 1, [9175, 1014, 9174, 129]),
  (12, false, yX12_chance, cX12_chance, (some .int), 4, [9171, 1014, 9169, 9170]),
  (12, false, yX12_mean, cX12_mean, (some .long), 3, [9187, 1014, 9185, 9186]),
  (12, false, yX12_draws, cX12_draws, none, 1, [9200, 1014, 9199, 131]),
  (12, true, yX12_isSeed, cX12_isSeed, (some .boolean), 1, [9195, 1014, 9194, 0]),
  (12, false, yX12_drawn, cX12_drawn, (some .int), 2, [9192, 1014, 9190, 9191]),
  (12, false, yX12_luck, cX12_luck, (some .int), 3, [9208, 1014, 9206, 9207]),
  (12, false, yX12_does, cX12_does, none, 4, [9221, 1014, 9220, 133]),
  (12, false, yX12_swap, cX12_swap, (some .int), 3, [9213, 1014, 9211, 9212]),
  (12, false, yX12_clear, cX12_clear, (some .int), 1, [9225, 1014, 9223, 9224]),
  (12, false, yX12_undo, cX12_undo, (some .int), 0, [9229, 1014, 9227, 9228]),
  (12, false, yX12_anew, cX12_anew, (some .int), 0, [9233, 1014, 9231, 9232]),
  (12, false, yX12_rate, cX12_rate, (some .int), 2, [9237, 1014, 9235, 9236]),
  (12, false, yX12_count, cX12_count, (some .int), 1, [10002, 1014, 10000, 10001]),
  (12, false, yX12_image, cX12_image, (some .int), 1, [10007, 1014, 10005, 10006]),
  (12, false, yX12_back, cX12_back, (some .int), 1, [10011, 1014, 10009, 10010]),
  (13, true, yJ6_bitCount_0f7a4, cJ6_bitCount_0f7a4, (some .int), 1, [5038, 1020, 5037, 0])]
def mds : List MD := md0 :: (mds0 ++ (mds1 ++ (mds2 ++ (mds3 ++ (mds4 ++ (mds5 ++ (mds6 ++ (mds7 ++ (mds8 ++ (mds9 ++ (mds10 ++ (mds11 ++ (mds12 ++ (mds13 ++ (mds14)))))))))))))))
def fls : List (Nat × Nat × Nat × Nat × Nat) := [(4, 19, 4, 0, 1044), (4, 23, 4, 1, 1045), (4, 7, 4, 2, 1046), (7, 32, 4, 2, 1047), (3, 30, 4, 2, 1048), (8, 40, 4, 2, 1049), (9, 27, 4, 2, 1050), (1, 43, 4, 2, 1051), (5, 140, 4, 2, 1052), (6, 65, 4, 2, 1053), (11, 174, 4, 2, 1054), (0, 9, 0, 0, 1069), (0, 15, 0, 1, 1070), (0, 18, 0, 2, 1071), (0, 21, 0, 3, 1072), (6, 81, 0, 3, 1073), (11, 363, 0, 3, 1074), (1, 34, 6, 0, 1084), (6, 51, 6, 0, 1085), (3, 40, 6, 0, 1086), (5, 113, 6, 0, 1087), (2, 67, 6, 0, 1088), (11, 213, 6, 0, 1089), (2, 60, 6, 1, 1090), (5, 117, 6, 1, 1091), (1, 89, 6, 1, 1092), (6, 75, 6, 1, 1093), (11, 373, 6, 1, 1094), (2, 54, 6, 2, 1095), (5, 121, 6, 2, 1096), (6, 78, 6, 2, 1097), (11, 382, 6, 2, 1098), (6, 43, 6, 3, 1099), (5, 50, 6, 3, 1100), (11, 116, 6, 3, 1101), (6, 14, 6, 4, 1102), (7, 38, 6, 4, 1103), (9, 33, 6, 4, 1104), (8, 47, 6, 4, 1105), (1, 46, 6, 4, 1106), (5, 62, 6, 4, 1107), (11, 125, 6, 4, 1108), (3, 77, 6, 4, 1109), (6, 20, 6, 5, 1110), (9, 22, 6, 5, 1111), (1, 39, 6, 5, 1112), (5, 72, 6, 5, 1113), (11, 133, 6, 5, 1114), (6, 23, 6, 6, 1115), (6, 27, 6, 7, 1116), (9, 48, 6, 7, 1117), (5, 80, 6, 7, 1118), (11, 146, 6, 7, 1119), (6, 30, 6, 8, 1120), (5, 146, 6, 8, 1121), (11, 385, 6, 8, 1122), (6, 33, 6, 9, 1123), (7, 26, 6, 9, 1124), (3, 24, 6, 9, 1125), (8, 34, 6, 9, 1126), (11, 152, 6, 9, 1127), (5, 149, 6, 9, 1128), (6, 39, 6, 10, 1129), (3, 58, 6, 10, 1130), (11, 347, 6, 10, 1131), (5, 25, 5, 0, 1161), (5, 9, 5, 1, 1162), (5, 15, 5, 2, 1163), (11, 98, 5, 2, 1164), (5, 40, 5, 3, 1165), (5, 93, 5, 4, 1166), (5, 34, 5, 5, 1167), (5, 110, 5, 6, 1168), (5, 129, 5, 7, 1169), (5, 19, 5, 8, 1170), (11, 119, 5, 8, 1171), (5, 22, 5, 9, 1172), (11, 122, 5, 9, 1173), (9, 18, 9, 0, 1205), (9, 9, 9, 1, 1206), (9, 15, 9, 2, 1207), (3, 16, 3, 0, 1224), (3, 20, 3, 1, 1225), (3, 11, 3, 2, 1226), (7, 18, 7, 0, 2000), (7, 22, 7, 1, 2001), (7, 9, 7, 2, 2002), (7, 15, 7, 3, 2003), (7, 45, 7, 4, 2004), (11, 229, 7, 4, 2005), (7, 48, 7, 5, 2006), (11, 235, 7, 5, 2007), (8, 24, 8, 0, 2027), (8, 11, 8, 1, 2028), (8, 15, 8, 2, 2029), (8, 18, 8, 3, 2030), (8, 21, 8, 4, 2031), (8, 74, 8, 5, 2032), (11, 254, 8, 5, 2033), (8, 77, 8, 6, 2034), (11, 257, 8, 6, 2035), (2, 15, 2, 0, 2057), (2, 19, 2, 1, 2058), (2, 9, 2, 2, 2059), (1, 16, 1, 0, 2075), (1, 20, 1, 1, 2076), (1, 11, 1, 2, 2077), (1, 66, 1, 3, 2078), (11, 303, 1, 3, 2079), (10, 9, 10, 0, 2094), (11, 411, 10, 0, 2095), (10, 15, 10, 1, 2096), (11, 397, 10, 1, 2097), (10, 19, 10, 2, 2098), (11, 408, 10, 2, 2099), (8, 28, 10, 3, 2100), (1, 24, 10, 3, 2101), (10, 32, 10, 3, 2102), (11, 10, 11, 0, 2112), (11, 16, 11, 1, 2113), (11, 24, 11, 2, 2114), (11, 28, 11, 3, 2115), (11, 32, 11, 4, 2116), (11, 38, 11, 5, 2117), (11, 45, 11, 6, 2118), (11, 49, 11, 7, 2119), (11, 57, 11, 8, 2120), (11, 61, 11, 9, 2121), (11, 64, 11, 10, 2122), (11, 70, 11, 11, 2123), (11, 77, 11, 12, 2124), (11, 86, 11, 13, 2125), (11, 93, 11, 14, 2126), (12, 90, 12, 0, 6152), (12, 7, 12, 1, 6153), (12, 13, 12, 2, 6154), (12, 16, 12, 3, 6155), (12, 20, 12, 4, 6156), (12, 23, 12, 5, 6157), (12, 107, 12, 6, 6158), (12, 114, 12, 7, 6159), (12, 131, 12, 8, 6160), (12, 121, 12, 9, 6161), (12, 124, 12, 10, 6162), (12, 127, 12, 11, 6163), (12, 142, 12, 12, 6164), (12, 145, 12, 13, 6165), (12, 169, 12, 14, 6166), (12, 27, 12, 15, 6167), (12, 31, 12, 16, 6168), (12, 34, 12, 17, 6169), (12, 37, 12, 18, 6170), (12, 40, 12, 19, 6171), (12, 43, 12, 20, 6172), (12, 46, 12, 21, 6173), (12, 49, 12, 22, 6174), (12, 52, 12, 23, 6175), (12, 55, 12, 24, 6176), (12, 58, 12, 25, 6177), (12, 281, 12, 26, 6178), (12, 62, 12, 27, 6179), (12, 297, 12, 28, 6180), (12, 300, 12, 29, 6181), (12, 65, 12, 30, 6182), (12, 68, 12, 31, 6183), (12, 71, 12, 32, 6184), (12, 386, 12, 33, 6185), (12, 389, 12, 34, 6186), (12, 392, 12, 35, 6187), (12, 74, 12, 36, 6188), (12, 77, 12, 37, 6189), (12, 81, 12, 38, 6190), (12, 84, 12, 39, 6191), (12, 401, 12, 40, 6192), (12, 457, 12, 41, 6193), (12, 463, 12, 42, 6194), (12, 466, 12, 43, 6195), (12, 87, 12, 44, 6196)]
def mls : List (Nat × Nat × Nat × Nat) := [(11, 102, 53, 2162), (11, 106, 54, 2174), (5, 29, 79, 2178), (5, 37, 68, 2182), (5, 182, 69, 2186), (5, 43, 55, 2193), (5, 53, 56, 2197), (5, 102, 62, 2202), (5, 58, 66, 2206), (5, 96, 65, 3018), (5, 107, 64, 3023), (5, 163, 67, 3027), (5, 66, 57, 3035), (5, 123, 61, 3039), (5, 160, 45, 3043), (5, 126, 72, 3047), (6, 54, 49, 3051), (5, 132, 46, 3055), (4, 26, 45, 3059), (5, 75, 58, 3061), (5, 143, 75, 3066), (6, 62, 44, 3070), (5, 85, 59, 3076), (5, 90, 60, 3081), (5, 154, 50, 3086), (5, 47, 63, 3091), (11, 110, 80, 3095), (6, 82, 52, 3099), (4, 30, 46, 3103), (6, 92, 7, 3107), (0, 29, 2, 3111), (0, 25, 1, 3115), (11, 113, 182, 3119), (11, 421, 97, 3123), (9, 36, 44, 3127), (9, 40, 98, 3128), (9, 51, 73, 3132), (6, 58, 4, 3136), (9, 54, 99, 3140), (9, 58, 47, 3144), (9, 61, 48, 3148), (9, 44, 76, 3152), (11, 370, 23, 3156), (3, 36, 47, 3160), (11, 376, 25, 3161), (3, 43, 26, 3165), (3, 54, 29, 3169), (3, 62, 5, 3172), (0, 33, 6, 3176), (3, 47, 28, 3179), (3, 51, 27, 3183), (3, 73, 51, 3188), (3, 80, 30, 3192), (3, 99, 78, 3196), (3, 84, 31, 3200), (3, 88, 32, 3204), (3, 103, 101, 3208), (3, 91, 33, 3213), (3, 111, 48, 3217), (3, 114, 102, 3218), (3, 95, 34, 3222), (11, 129, 183, 3234), (11, 136, 44, 3237), (11, 260, 184, 3238), (11, 424, 47, 4001), (11, 427, 48, 4002), (11, 142, 74, 4007), (11, 149, 73, 4015), (11, 155, 77, 4024), (6, 68, 47, 4028), (6, 72, 48, 4029), (11, 158, 100, 4034), (11, 161, 103, 4042), (9, 64, 102, 4046), (11, 164, 98, 4051), (11, 168, 101, 4056), (11, 171, 70, 4061), (11, 177, 51, 4069), (11, 181, 104, 4070), (11, 184, 105, 4078), (11, 187, 188, 4086), (11, 195, 71, 4090), (6, 47, 70, 4094), (11, 191, 35, 4095), (11, 198, 37, 4107), (3, 118, 35, 4111), (3, 121, 100, 4112), (11, 201, 40, 4117), (3, 127, 37, 4121), (3, 130, 76, 4122), (11, 204, 41, 4127), (3, 133, 40, 4131), (11, 207, 39, 4140), (3, 124, 38, 4144), (11, 210, 38, 4152), (11, 216, 36, 4161), (11, 219, 42, 4173), (11, 222, 191, 4185), (11, 431, 102, 4189), (11, 226, 81, 4194), (11, 452, 201, 4205), (7, 55, 82, 4208), (7, 65, 48, 4212), (7, 69, 102, 4213), (11, 232, 83, 4219), (7, 75, 44, 4223), (11, 238, 107, 4232), (11, 241, 192, 5001), (11, 391, 185, 5005), (11, 434, 86, 5008), (8, 43, 112, 5012), (10, 35, 111, 5016), (11, 244, 87, 5020), (8, 50, 91, 5024), (8, 64, 77, 5028), (8, 80, 94, 5029), (11, 284, 371, 5036), (8, 88, 92, 5044), (8, 56, 96, 5048), (8, 68, 95, 5052), (8, 91, 93, 5056), (8, 53, 90, 5060), (8, 71, 47, 5064), (11, 248, 88, 5069), (8, 60, 87, 5073), (11, 251, 89, 5078), (11, 263, 199, 5090), (11, 266, 84, 5091), (7, 79, 85, 5095), (7, 82, 51, 5099), (7, 85, 106, 5100), (7, 88, 105, 5104), (11, 269, 203, 5105), (11, 273, 108, 5112), (9, 74, 103, 5116), (9, 77, 371, 5117), (9, 82, 74, 5118), (11, 278, 76, 5124), (11, 281, 109, 5129), (9, 85, 51, 5133), (9, 89, 104, 5134), (11, 289, 193, 5143), (11, 438, 8, 5147), (1, 30, 112, 5151), (11, 292, 9, 5152), (1, 49, 15, 5156), (1, 86, 24, 5160), (1, 58, 25, 5164), (1, 62, 16, 5165), (1, 92, 37, 5169), (11, 296, 11, 5174), (1, 69, 12, 5178), (1, 73, 35, 5182), (11, 300, 13, 5183), (1, 77, 14, 5187), (11, 306, 14, 5196), (11, 309, 10, 5201), (1, 53, 23, 5205), (11, 312, 186, 5210), (11, 315, 194, 5213), (11, 318, 43, 5217), (3, 136, 41, 5221), (11, 321, 195, 5230), (11, 324, 189, 5238), (11, 327, 196, 6002), (11, 441, 197, 6006), (11, 444, 78, 6010), (11, 331, 190, 6019), (11, 334, 18, 6023), (2, 25, 23, 6027), (2, 30, 26, 6028), (2, 40, 19, 6030), (2, 44, 35, 6034), (2, 47, 20, 6035), (2, 51, 27, 6039), (2, 63, 28, 6040), (11, 338, 21, 6041), (11, 342, 17, 6045), (11, 351, 1, 6058), (11, 356, 2, 6059), (11, 360, 3, 6064), (11, 364, 187, 6080), (11, 367, 22, 6084), (11, 379, 75, 6100), (11, 388, 198, 6105), (11, 394, 110, 6121), (11, 401, 111, 6131), (11, 404, 113, 6132), (10, 39, 114, 6136), (12, 99, 205, 7052), (12, 95, 204, 7056), (12, 103, 207, 7063), (12, 110, 211, 7074), (12, 223, 235, 7090), (12, 186, 227, 7094), (12, 226, 223, 7098), (12, 152, 214, 7102), (12, 117, 213, 7106), (12, 229, 215, 7115), (12, 161, 219, 7120), (12, 155, 218, 7124), (12, 148, 217, 7128), (12, 158, 216, 7132), (12, 194, 221, 7137), (12, 165, 220, 7141), (12, 241, 234, 7147), (12, 199, 233, 7152), (12, 174, 226, 7156), (12, 203, 229, 7160), (12, 178, 228, 7165), (12, 215, 231, 7173), (12, 182, 230, 7177), (12, 220, 232, 7182), (12, 244, 222, 7188), (12, 247, 224, 7192), (12, 250, 238, 7196), (12, 253, 237, 7200), (12, 351, 244, 7207), (12, 257, 240, 7211), (12, 354, 251, 7215), (12, 357, 245, 7222), (12, 260, 241, 7226), (12, 362, 246, 7235), (12, 303, 259, 7239), (12, 284, 252, 8003), (12, 272, 247, 8010), (12, 263, 242, 8014), (12, 365, 282, 8022), (12, 333, 262, 8030), (12, 306, 258, 8034), (12, 291, 257, 8038), (12, 288, 256, 8042), (12, 275, 254, 8046), (12, 278, 255, 8049), (12, 368, 285, 8056), (12, 312, 261, 8068), (12, 294, 260, 8072), (12, 266, 239, 8080), (12, 371, 248, 8096), (12, 269, 243, 8100), (12, 374, 271, 8104), (12, 336, 270, 8108), (12, 327, 265, 8112), (12, 330, 269, 8116), (12, 318, 267, 8120), (12, 315, 266, 8124), (12, 321, 264, 8128), (12, 309, 263, 8132), (12, 324, 268, 8136), (12, 339, 272, 8148), (12, 342, 273, 8156), (12, 345, 274, 8164), (12, 377, 277, 8176), (12, 348, 276, 8180), (12, 380, 301, 8196), (12, 383, 304, 8208), (12, 398, 309, 8224), (12, 395, 308, 8228), (12, 424, 319, 9008), (12, 427, 321, 9012), (12, 414, 314, 9016), (12, 418, 317, 9020), (12, 404, 315, 9024), (12, 407, 316, 9028), (12, 410, 318, 9032), (12, 421, 320, 9036), (12, 443, 330, 9056), (12, 437, 329, 9060), (12, 440, 253, 9064), (12, 430, 326, 9067), (12, 447, 328, 9070), (12, 433, 327, 9073), (12, 451, 332, 9080), (12, 454, 335, 9092), (12, 469, 338, 9104), (12, 472, 340, 9108), (12, 460, 339, 9112), (12, 478, 344, 9128), (12, 475, 275, 9132), (12, 484, 250, 9152), (12, 487, 350, 9156), (12, 481, 349, 9160), (12, 496, 355, 9172), (12, 499, 354, 9176), (12, 491, 353, 9180), (12, 515, 359, 9193), (12, 518, 358, 9197), (12, 523, 249, 9214), (12, 526, 362, 9218)]
def nls : List (Nat × Nat × Nat × Nat) := [(3, 108, 6, 3212), (7, 41, 199, 4198), (7, 51, 200, 4201), (8, 94, 202, 5033), (8, 84, 200, 5043)]
def prs : List (Nat × Nat × Nat × Nat) := [(4, 13, 3, 1041), (5, 176, 4, 2190), (5, 167, 1, 2210), (5, 171, 2, 2220), (6, 86, 0, 3104), (3, 67, 0, 3187), (11, 447, 4, 4204), (7, 59, 0, 4214), (9, 68, 3, 4236), (8, 98, 3, 5042), (1, 81, 3, 5191), (2, 34, 4, 6029), (10, 23, 4, 6125), (10, 29, 3, 6126), (11, 415, 0, 6144)]
def kis : List (Nat × Nat × Int32 × Nat) := [(5, 175, 1000000, 3031), (13, 265, 1431655765, 5039), (13, 266, 858993459, 5040), (13, 267, 252645135, 5041), (11, 430, 2000000000, 6083), (12, 80, 46656, 6151), (12, 140, 100000, 7113), (12, 141, 1000000, 7114)]
def kls : List (Nat × Nat × Int64 × Nat) := [(11, 276, 60, 5119), (2, 23, 10, 6048), (11, 345, -2, 6053), (2, 70, 1103515245, 6088), (2, 72, 12345, 6089), (2, 74, 2147483647, 6090), (2, 76, 65536, 6091), (12, 93, 3, 7055), (12, 134, -1, 7110), (12, 136, 27, 7111), (12, 138, 96, 7112), (12, 233, 365640, 7119), (12, 235, 13385674, 7136), (12, 237, 8798, 7145), (12, 239, 298288, 7146), (12, 197, 8740067, 7151), (12, 172, 30, 7164), (12, 207, 257105, 7169), (12, 209, 12532058, 7170), (12, 211, 127418, 7171), (12, 213, 16819, 7172), (12, 218, 180461916, 7181), (12, 190, 47, 7186), (12, 192, 4558591, 7187), (12, 360, 2, 7230), (12, 494, 10, 9183), (12, 503, -2, 9188), (12, 513, 2000000000, 9196), (12, 505, 1103515245, 9201), (12, 507, 12345, 9202), (12, 509, 2147483648, 9203), (12, 511, 65536, 9204), (12, 521, 20, 9209), (12, 530, 99, 9238), (12, 532, 8, 10003)]
end
section
/-! THE ABSTRACT MACHINE: values are ints, longs, and cells by tag and number; a store holds ints and longs by tag, number, place. A step is told over what comes behind it (K) and what calls answer (C). -/
abbrev AV : Type := Int32 ⊕ (Int64 ⊕ (Nat × Nat))
abbrev vI (x : Int32) : AV := .inl x
abbrev vL (x : Int64) : AV := .inr (.inl x)
abbrev vR (t i : Nat) : AV := .inr (.inr (t, i))
abbrev St : Type := (Nat → Nat → Nat → Int32) × (Nat → Nat → Nat → Int64)
abbrev AR : Type := Option AV × St
abbrev AL : Type := List (Option AV)
abbrev AK : Type := Nat → AL → List AV → St → Option AR
abbrev AC : Type := Nat → Nat → List AV → St → Option AR
abbrev TE : Type := Instr × Nat × List Nat × (Int32 ⊕ Int64)
def gI (σ : St) (t i j : Nat) : Int32 := σ.1 t i j
def gL (σ : St) (t i j : Nat) : Int64 := σ.2 t i j
def sI (σ : St) (t i j : Nat) (v : Int32) : St := (fun t' i' j' => if t' = t ∧ i' = i ∧ j' = j then v else σ.1 t' i' j', σ.2)
def sL (σ : St) (t i j : Nat) (v : Int64) : St := (σ.1, fun t' i' j' => if t' = t ∧ i' = i ∧ j' = j then v else σ.2 t' i' j')
def cpI (σ : St) (t1 i1 p1 t2 i2 p2 n : Nat) : St := (fun t' i' j' => if t' = t2 ∧ i' = i2 ∧ p2 ≤ j' ∧ j' < p2 + n then σ.1 t1 i1 (p1 + (j' - p2)) else σ.1 t' i' j', σ.2)
def cpL (σ : St) (t1 i1 p1 t2 i2 p2 n : Nat) : St := (σ.1, fun t' i' j' => if t' = t2 ∧ i' = i2 ∧ p2 ≤ j' ∧ j' < p2 + n then σ.2 t1 i1 (p1 + (j' - p2)) else σ.2 t' i' j')
/-- a place of an array of n -/
def ix (j : Int32) (n : Nat) (k : Nat → Option AR) : Option AR := if j < 0 ∨ n ≤ j.toNatClampNeg then none else k j.toNatClampNeg
def lk (t : Nat) : Nat := t % 8
def pln (i : Nat) : Nat := match i with
  | 1 => 7
  | 3 => 10
  | _ => 6
def ln (t i : Nat) : Nat := cond (Nat.beq (t / 512) 0) (pln (i % 5)) (t / 512)
def la (t i j : Nat) : Nat × Nat := cond (Nat.beq t 6869) (3289, 13 * i + j) (cond (Nat.beq t 2229) (80, j) (cond (Nat.beq t 6941) (3361, j) (48, 2 + j)))
def lfi (f b i : Nat) : Nat := match f with
  | 0 => b
  | 1 => i
  | 2 => 5 * i + b
  | _ => i / 2
def alen (σ : St) (t i : Nat) : Nat := cond (Nat.beq t 497) (gI σ 497 1 0).toNatClampNeg (ln t i)
def cI (o : Option AR) (k : Int32 → St → Option AR) : Option AR := match o with
  | some (some (.inl x), σ') => k x σ'
  | _ => none
def cL (o : Option AR) (k : Int64 → St → Option AR) : Option AR := match o with
  | some (some (.inr (.inl x)), σ') => k x σ'
  | _ => none
def cV (o : Option AR) (k : St → Option AR) : Option AR := match o with
  | some (none, σ') => k σ'
  | _ => none
def cAV (c : Int32 ⊕ Int64) : AV := match c with
  | .inl x => .inl x
  | .inr y => .inr (.inl y)
def isL (o : Option (Option AV)) : Bool := match o with
  | some (some (.inr (.inl _))) => true
  | _ => false
/-- before a store at i: a long that began just ahead of i is gone -/
def lcut (L : AL) (i : Nat) : AL := match i with
  | 0 => L
  | k + 1 => cond (isL L[k]?) (L.set k none) L
def lset1 (L : AL) (i : Nat) (v : AV) : AL := (lcut L i).set i (some v)
def lset2 (L : AL) (i : Nat) (v : AV) : AL := ((lcut L i).set i (some v)).set (i + 1) none
/-- forget some locals (at a loop's end: those that its head doesn't have) -/
def clr (L : AL) (ks : List Nat) : AL := match ks with
  | [] => L
  | k :: ks => clr (L.set k none) ks
def acat (v : AV) : Nat := match v with
  | .inr (.inl _) => 2
  | _ => 1
def asum (S : List AV) : Nat := match S with
  | [] => 0
  | v :: l => acat v + asum l
def bud (m r m' : Nat) : Option Nat := cond (Nat.beq m' m) (match r with
  | 0 => none
  | r' + 1 => some r') (some (R0 m'))
def ldI (K : AK) (pc : Nat) (L : AL) (S : List AV) (σ : St) (i : Nat) : Option AR := match L[i]? with
  | some (some (.inl x)) => K pc L (.inl x :: S) σ
  | _ => none
def ldL (K : AK) (pc : Nat) (L : AL) (S : List AV) (σ : St) (i : Nat) : Option AR := match L[i]? with
  | some (some (.inr (.inl x))) => K pc L (.inr (.inl x) :: S) σ
  | _ => none
def ldA (K : AK) (pc : Nat) (L : AL) (S : List AV) (σ : St) (i : Nat) : Option AR := match L[i]? with
  | some (some (.inr (.inr q))) => K pc L (.inr (.inr q) :: S) σ
  | _ => none
def stI (K : AK) (pc : Nat) (L : AL) (S : List AV) (σ : St) (i : Nat) : Option AR := match S with
  | .inl x :: S' => cond (Nat.blt i L.length) (K pc (lset1 L i (.inl x)) S' σ) none
  | _ => none
def stL (K : AK) (pc : Nat) (L : AL) (S : List AV) (σ : St) (i : Nat) : Option AR := match S with
  | .inr (.inl x) :: S' => cond (Nat.blt (i + 1) L.length) (K pc (lset2 L i (.inr (.inl x))) S' σ) none
  | _ => none
def stA (K : AK) (pc : Nat) (L : AL) (S : List AV) (σ : St) (i : Nat) : Option AR := match S with
  | .inr (.inr q) :: S' => cond (Nat.blt i L.length) (K pc (lset1 L i (.inr (.inr q))) S' σ) none
  | _ => none
def biI (K : AK) (pc : Nat) (L : AL) (S : List AV) (σ : St) (f : Int32 → Int32 → Int32) : Option AR := match S with
  | .inl y :: .inl x :: S' => K pc L (.inl (f x y) :: S') σ
  | _ => none
def biL (K : AK) (pc : Nat) (L : AL) (S : List AV) (σ : St) (f : Int64 → Int64 → Int64) : Option AR := match S with
  | .inr (.inl y) :: .inr (.inl x) :: S' => K pc L (.inr (.inl (f x y)) :: S') σ
  | _ => none
def dvI (K : AK) (pc : Nat) (L : AL) (S : List AV) (σ : St) (f : Int32 → Int32 → Int32) : Option AR := match S with
  | .inl y :: .inl x :: S' => if y = 0 then none else K pc L (.inl (f x y) :: S') σ
  | _ => none
def dvL (K : AK) (pc : Nat) (L : AL) (S : List AV) (σ : St) (f : Int64 → Int64 → Int64) : Option AR := match S with
  | .inr (.inl y) :: .inr (.inl x) :: S' => if y = 0 then none else K pc L (.inr (.inl (f x y)) :: S') σ
  | _ => none
def mmI (K : AK) (pc : Nat) (L : AL) (S : List AV) (σ : St) (f : Int32 → Int32 → Int32) : Option AR := match S with
  | .inl y :: .inl x :: S' => cond (Nat.ble (asum S') 8) (K pc L (.inl (f x y) :: S') σ) none
  | _ => none
def br1 (K : AK) (pc tgt : Nat) (L : AL) (S : List AV) (σ : St) (cd : ClassFile.Cond) : Option AR := match S with
  | .inl x :: S' => match cd with
    | .eq => if x = 0 then K tgt L S' σ else K pc L S' σ
    | .ne => if x = 0 then K pc L S' σ else K tgt L S' σ
    | .lt => if x < 0 then K tgt L S' σ else K pc L S' σ
    | .ge => if x < 0 then K pc L S' σ else K tgt L S' σ
    | .gt => if x ≤ 0 then K pc L S' σ else K tgt L S' σ
    | .le => if x ≤ 0 then K tgt L S' σ else K pc L S' σ
  | _ => none
def br2 (K : AK) (pc tgt : Nat) (L : AL) (S : List AV) (σ : St) (cd : ClassFile.Cond) : Option AR := match S with
  | .inl y :: .inl x :: S' => match cd with
    | .eq => if x = y then K tgt L S' σ else K pc L S' σ
    | .ne => if x = y then K pc L S' σ else K tgt L S' σ
    | .lt => if x < y then K tgt L S' σ else K pc L S' σ
    | .ge => if x < y then K pc L S' σ else K tgt L S' σ
    | .gt => if x ≤ y then K pc L S' σ else K tgt L S' σ
    | .le => if x ≤ y then K tgt L S' σ else K pc L S' σ
  | _ => none
def gtF (K : AK) (pc : Nat) (L : AL) (S : List AV) (σ : St) (xs : List Nat) : Option AR := match S, xs with
  | .inr (.inr (t, i)) :: S', [c, k, d] => cond (Nat.beq t (8 * c)) (match d with
    | 1 => K pc L (.inr (.inl (gL σ t i k)) :: S') σ
    | _ => K pc L (.inl (gI σ t i k) :: S') σ) none
  | .inr (.inr (t, i)) :: S', [c, _, t', f, b] => cond (Nat.beq t (8 * c)) (K pc L (.inr (.inr (t', lfi f b i)) :: S') σ) none
  | _, _ => none
def ptF (K : AK) (pc : Nat) (L : AL) (S : List AV) (σ : St) (xs : List Nat) : Option AR := match S, xs with
  | .inl x :: .inr (.inr (t, i)) :: S', [c, k, d] => cond (Nat.beq t (8 * c)) (match d with
    | 0 => K pc L S' (sI σ t i k x)
    | 3 => if x = 0 ∨ x = 1 then K pc L S' (sI σ t i k x) else none
    | _ => none) none
  | .inr (.inl x) :: .inr (.inr (t, i)) :: S', [c, k, d] => cond (Nat.beq t (8 * c) && Nat.beq d 1) (K pc L S' (sL σ t i k x)) none
  | _, _ => none
def jmp (K : AK) (L : AL) (S : List AV) (σ : St) (x : Int32) (d : Nat) : Int → List Nat → Option AR
  | _, [] => K d L S σ
  | lo, t :: ts => if x.toInt = lo then K t L S σ else jmp K L S σ x d (lo + 1) ts
def cpA (K : AK) (pc : Nat) (L : AL) (S : List AV) (σ : St) : Option AR := match S with
  | [.inl n, .inl dp, .inr (.inr (t2, i2)), .inl sp, .inr (.inr (t1, i1))] =>
    if 0 ≤ n.toInt ∧ 0 ≤ sp.toInt ∧ 0 ≤ dp.toInt ∧ sp.toInt + n.toInt ≤ ln t1 i1 ∧ dp.toInt + n.toInt ≤ ln t2 i2 then
      (cond (Nat.beq (lk t1) 1 && Nat.beq (lk t2) 1 && !(Nat.beq t1 497) && !(Nat.beq t2 497)) (K pc L [] (cpI σ t1 i1 sp.toNatClampNeg t2 i2 dp.toNatClampNeg n.toNatClampNeg))
      (cond (Nat.beq (lk t1) 2 && Nat.beq (lk t2) 2) (K pc L [] (cpL σ t1 i1 sp.toNatClampNeg t2 i2 dp.toNatClampNeg n.toNatClampNeg)) none)) else none
  | _ => none
def inv (K : AK) (C : AC) (m r pc : Nat) (L : AL) (S : List AV) (σ : St) (xs : List Nat) : Option AR := match xs with
  | [m', n, rt] => cond (Nat.ble n S.length && Nat.ble (asum (S.drop n)) 8) (match bud m r m' with
    | none => none
    | some r' => match rt with
      | 0 => cV (C m' r' (S.take n).reverse σ) (fun σ' => K pc L (S.drop n) σ')
      | 1 => cI (C m' r' (S.take n).reverse σ) (fun x σ' => K pc L (.inl x :: S.drop n) σ')
      | _ => cL (C m' r' (S.take n).reverse σ) (fun x σ' => K pc L (.inr (.inl x) :: S.drop n) σ')) none
  | _ => none
/-- a call on an object: of its class -/
def inw (K : AK) (C : AC) (m r pc : Nat) (L : AL) (S : List AV) (σ : St) (m' n rt cl : Nat) : Option AR := match S.drop (n - 1) with
  | .inr (.inr (t, _)) :: _ => cond (Nat.beq t (8 * cl)) (inv K C m r pc L S σ [m', n, rt]) none
  | _ => none
def prm (K : AK) (pc : Nat) (L : AL) (S : List AV) (σ : St) (w : Nat) : Option AR := match w with
  | 0 => cpA K pc L S σ
  | 1 => (match S with
    | .inr (.inr (t, i)) :: S' => cond (Nat.beq t 494 && Nat.ble (asum S') 8) (K pc L (.inl (Int32.ofNat (slen i)) :: S') σ) none
    | _ => none)
  | 2 => (match S with
    | .inl j :: .inr (.inr (t, i)) :: S' => cond (Nat.beq t 494 && Nat.ble (asum S') 8) (ix j (slen i) (fun k => K pc L (.inl (sch i k) :: S') σ)) none
    | _ => none)
  | 3 => mmI K pc L S σ (fun x y => if x < y then y else x)
  | _ => mmI K pc L S σ (fun x y => if y < x then y else x)
/-- what a boolean method answers -/
def retZ (x : Int32) (σ : St) : Option AR := if x = 0 ∨ x = 1 then some (some (.inl x), σ) else none
def stepI (K : AK) (C : AC) (m r pc : Nat) (L : AL) (S : List AV) (σ : St) (ins : Instr) (len : Nat) (xs : List Nat) (cv : Int32 ⊕ Int64) : Option AR := match ins with
  | .iconst _ => K (pc + len) L (cAV cv :: S) σ
  | .bipush _ => K (pc + len) L (cAV cv :: S) σ
  | .sipush _ => K (pc + len) L (cAV cv :: S) σ
  | .lconst _ => K (pc + len) L (cAV cv :: S) σ
  | .ldc2_w _ => K (pc + len) L (cAV cv :: S) σ
  | .ldc_w _ => K (pc + len) L (cAV cv :: S) σ
  | .ldc _ => (match xs with
    | [] => K (pc + len) L (cAV cv :: S) σ
    | k :: _ => K (pc + len) L (.inr (.inr (494, k)) :: S) σ)
  | .iload i => ldI K (pc + len) L S σ i
  | .iload_n i => ldI K (pc + len) L S σ i.val
  | .lload i => ldL K (pc + len) L S σ i
  | .lload_n i => ldL K (pc + len) L S σ i.val
  | .aload i => ldA K (pc + len) L S σ i
  | .aload_n i => ldA K (pc + len) L S σ i.val
  | .istore i => stI K (pc + len) L S σ i
  | .istore_n i => stI K (pc + len) L S σ i.val
  | .lstore i => stL K (pc + len) L S σ i
  | .lstore_n i => stL K (pc + len) L S σ i.val
  | .astore i => stA K (pc + len) L S σ i
  | .astore_n i => stA K (pc + len) L S σ i.val
  | .iinc i _ => (match L[i]?, cv with
    | some (some (.inl x)), .inl n => K (pc + len) (lset1 L i (.inl (x + n))) S σ
    | _, _ => none)
  | .iadd => biI K (pc + len) L S σ (fun x y => x + y)
  | .isub => biI K (pc + len) L S σ (fun x y => x - y)
  | .imul => biI K (pc + len) L S σ (fun x y => x * y)
  | .iand => biI K (pc + len) L S σ (fun x y => x &&& y)
  | .ior => biI K (pc + len) L S σ (fun x y => x ||| y)
  | .ixor => biI K (pc + len) L S σ (fun x y => x ^^^ y)
  | .ishl => biI K (pc + len) L S σ (fun x y => x <<< (y &&& 31))
  | .ishr => biI K (pc + len) L S σ (fun x y => x >>> (y &&& 31))
  | .iushr => biI K (pc + len) L S σ (fun x y => (x.toUInt32 >>> (y.toUInt32 &&& Int32.toUInt32 31)).toInt32)
  | .idiv => dvI K (pc + len) L S σ (fun x y => x / y)
  | .irem => dvI K (pc + len) L S σ (fun x y => x - x / y * y)
  | .ladd => biL K (pc + len) L S σ (fun x y => x + y)
  | .lsub => biL K (pc + len) L S σ (fun x y => x - y)
  | .lmul => biL K (pc + len) L S σ (fun x y => x * y)
  | .land => biL K (pc + len) L S σ (fun x y => x &&& y)
  | .lor => biL K (pc + len) L S σ (fun x y => x ||| y)
  | .lshl => (match S with
    | .inl y :: .inr (.inl x) :: S' => K (pc + len) L (.inr (.inl (x <<< (y.toInt64 &&& 63))) :: S') σ
    | _ => none)
  | .ldiv => dvL K (pc + len) L S σ (fun x y => x / y)
  | .lrem => dvL K (pc + len) L S σ (fun x y => x - x / y * y)
  | .lcmp => (match S with
    | .inr (.inl y) :: .inr (.inl x) :: S' => K (pc + len) L (.inl (lg_cmp x y) :: S') σ
    | _ => none)
  | .i2l => (match S with
    | .inl x :: S' => K (pc + len) L (.inr (.inl x.toInt64) :: S') σ
    | _ => none)
  | .l2i => (match S with
    | .inr (.inl x) :: S' => K (pc + len) L (.inl x.toInt32 :: S') σ
    | _ => none)
  | .i2b => (match S with
    | .inl x :: S' => K (pc + len) L (.inl x.toInt8.toInt32 :: S') σ
    | _ => none)
  | .i2s => (match S with
    | .inl x :: S' => K (pc + len) L (.inl x.toInt16.toInt32 :: S') σ
    | _ => none)
  | .dup => (match S with
    | v :: S' => cond (Nat.beq (acat v) 1) (K (pc + len) L (v :: v :: S') σ) none
    | _ => none)
  | .dup2 => (match S with
    | .inl x :: v :: S' => cond (Nat.beq (acat v) 1) (K (pc + len) L (.inl x :: v :: .inl x :: v :: S') σ) none
    | _ => none)
  | .pop => (match S with
    | .inl _ :: S' => K (pc + len) L S' σ
    | _ => none)
  | .goto _ => (match xs with
    | t :: ks => K t (clr L ks) S σ
    | _ => none)
  | .ifCond cd _ => (match xs with
    | [t] => br1 K (pc + len) t L S σ cd
    | _ => none)
  | .if_icmp cd _ => (match xs with
    | [t] => br2 K (pc + len) t L S σ cd
    | _ => none)
  | .tableswitch _ lo _ _ => (match S, xs with
    | .inl x :: S', d :: ts => jmp K L S' σ x d lo ts
    | _, _ => none)
  | .getfield _ => gtF K (pc + len) L S σ xs
  | .putfield _ => ptF K (pc + len) L S σ xs
  | .iaload => (match S with
    | .inl j :: .inr (.inr (t, i)) :: S' => cond (Nat.beq (lk t) 1) (ix j (alen σ t i) (fun k => K (pc + len) L (.inl (gI σ t i k) :: S') σ)) none
    | _ => none)
  | .baload => (match S with
    | .inl j :: .inr (.inr (t, i)) :: S' => cond (Nat.beq (lk t) 3 || Nat.beq (lk t) 4) (ix j (ln t i) (fun k => K (pc + len) L (.inl (gI σ t i k) :: S') σ)) none
    | _ => none)
  | .laload => (match S with
    | .inl j :: .inr (.inr (t, i)) :: S' => cond (Nat.beq (lk t) 2) (ix j (ln t i) (fun k => K (pc + len) L (.inr (.inl (gL σ t i k)) :: S') σ)) none
    | _ => none)
  | .aaload => (match S with
    | .inl j :: .inr (.inr (t, i)) :: S' => cond (Nat.beq (lk t) 5) (ix j (ln t i) (fun k => K (pc + len) L (.inr (.inr (la t i k)) :: S') σ)) none
    | _ => none)
  | .iastore => (match S with
    | .inl x :: .inl j :: .inr (.inr (t, i)) :: S' => cond (Nat.beq (lk t) 1 && !(Nat.beq t 497)) (ix j (ln t i) (fun k => K (pc + len) L S' (sI σ t i k x))) none
    | _ => none)
  | .bastore => (match S with
    | .inl x :: .inl j :: .inr (.inr (t, i)) :: S' => cond (Nat.beq (lk t) 3) (ix j (ln t i) (fun k => K (pc + len) L S' (sI σ t i k x.toInt8.toInt32))) (cond (Nat.beq (lk t) 4) (if x = 0 ∨ x = 1 then ix j (ln t i) (fun k => K (pc + len) L S' (sI σ t i k x)) else none) none)
    | _ => none)
  | .lastore => (match S with
    | .inr (.inl x) :: .inl j :: .inr (.inr (t, i)) :: S' => cond (Nat.beq (lk t) 2) (ix j (ln t i) (fun k => K (pc + len) L S' (sL σ t i k x))) none
    | _ => none)
  | .arraylength => (match S with
    | .inr (.inr (t, i)) :: S' => cond (Nat.ble 1 (lk t) && Nat.ble (lk t) 5) (K (pc + len) L (.inl (Int32.ofNat (alen σ t i)) :: S') σ) none
    | _ => none)
  | .invokevirtual _ => (match xs with
    | [w] => prm K (pc + len) L S σ w
    | [m', n, rt, cl] => inw K C m r (pc + len) L S σ m' n rt cl
    | _ => none)
  | .invokestatic _ => (match xs with
    | [w] => prm K (pc + len) L S σ w
    | _ => inv K C m r (pc + len) L S σ xs)
  | .ireturn => (match S, xs with
    | [.inl x], [] => some (some (.inl x), σ)
    | [.inl x], _ => retZ x σ
    | _, _ => none)
  | .lreturn => (match S with
    | [.inr (.inl x)] => some (some (.inr (.inl x)), σ)
    | _ => none)
  | .return_ => (match S with
    | [] => some (none, σ)
    | _ => none)
  | _ => none
def stepF (K : AK) (C : AC) (m r pc : Nat) (L : AL) (S : List AV) (σ : St) : Option AR := match atab m pc with
  | none => none
  | some (ins, len, xs, cv) => stepI K C m r pc L S σ ins len xs cv
end
section
/-! WHAT THE MACHINE COMES TO: exec by steps, run by depth, their limits V and C, and that V is one step ahead of itself -/
def exec (C : AC) (m r : Nat) : Nat → AK
  | 0 => fun _ _ _ _ => none
  | n + 1 => stepF (exec C m r n) C m r
def entL (args : List AV) : AL := match args with
  | [] => []
  | .inr (.inl x) :: l => some (.inr (.inl x)) :: none :: entL l
  | v :: l => some v :: entL l
def pad : Nat → AL → AL
  | 0, L => L
  | n + 1, [] => none :: pad n []
  | n + 1, v :: L => v :: pad n L
def entry (m : Nat) (args : List AV) : AL := pad (maxL m) (entL args)
def run (N : Nat) : Nat → AC
  | 0 => fun _ _ _ _ => none
  | d + 1 => fun m r args σ => cond (Nat.ble (entL args).length (maxL m)) (exec (run N d) m r N 0 (entry m args) [] σ) none
def le (a b : Option AR) : Prop := ∀ x, a = some x → b = some x
def kle (K K' : AK) : Prop := ∀ pc L S σ, le (K pc L S σ) (K' pc L S σ)
def cle (C C' : AC) : Prop := ∀ m r a σ, le (C m r a σ) (C' m r a σ)
/-- grows with K and C, and needs only so much of them -/
def Good (F : AK → AC → Option AR) : Prop :=
  (∀ K K' C C', kle K K' → cle C C' → le (F K C) (F K' C')) ∧
  ∀ (Kn : Nat → AK) (Cn : Nat → AC) (K : AK) (C : AC), (∀ a b, a ≤ b → kle (Kn a) (Kn b)) → (∀ a b, a ≤ b → cle (Cn a) (Cn b)) →
    (∀ pc L S σ x, K pc L S σ = some x → ∃ n, Kn n pc L S σ = some x) → (∀ m r a σ x, C m r a σ = some x → ∃ n, Cn n m r a σ = some x) →
    ∀ x, F K C = some x → ∃ n, F (Kn n) (Cn n) = some x
theorem good_none : Good (fun _ _ => none) := ⟨fun _ _ _ _ _ _ _ h => (by cases h), fun _ _ _ _ _ _ _ _ _ h => (by cases h)⟩
theorem good_some (v : AR) : Good (fun _ _ => some v) := ⟨fun _ _ _ _ _ _ _ h => h, fun _ _ _ _ _ _ _ _ _ h => ⟨0, h⟩⟩
theorem good_K (pc : Nat) (L : AL) (S : List AV) (σ : St) : Good (fun K _ => K pc L S σ) := ⟨fun _ _ _ _ hk _ => hk pc L S σ, fun _ _ _ _ _ _ h _ x hx => h pc L S σ x hx⟩
theorem good_ite {c : Prop} (d : Decidable c) {F G : AK → AC → Option AR} (hF : Good F) (hG : Good G) : Good (fun K C => if c then F K C else G K C) := by
  by_cases h : c
  · simp only [if_pos h]; exact hF
  · simp only [if_neg h]; exact hG
theorem good_cond {b : Bool} {F G : AK → AC → Option AR} (hF : Good F) (hG : Good G) : Good (fun K C => cond b (F K C) (G K C)) := by
  cases b
  · exact hG
  · exact hF
theorem good_ix {j : Int32} {n : Nat} {F : Nat → AK → AC → Option AR} (hF : ∀ k, Good (F k)) : Good (fun K C => ix j n (fun k => F k K C)) := by
  unfold ix
  exact good_ite _ good_none (hF _)
theorem cI_iff {o : Option AR} {k : Int32 → St → Option AR} {z : AR} : cI o k = some z ↔ ∃ x s, o = some (some (.inl x), s) ∧ k x s = some z := by
  unfold cI
  constructor
  · intro h
    split at h
    · exact ⟨_, _, rfl, h⟩
    · cases h
  · rintro ⟨x, s, rfl, h⟩
    exact h
theorem good_cI {m r : Nat} {a : List AV} {σ : St} {F : Int32 → St → AK → AC → Option AR} (hF : ∀ x s, Good (F x s)) : Good (fun K C => cI (C m r a σ) (fun x s => F x s K C)) := by
  constructor
  · intro K K' C C' hk hc z h
    obtain ⟨x, s, e, h⟩ := cI_iff.mp h
    exact cI_iff.mpr ⟨x, s, hc m r a σ _ e, (hF x s).1 K K' C C' hk hc z h⟩
  · intro Kn Cn K C mk mc hk hc z h
    obtain ⟨x, s, e, h⟩ := cI_iff.mp h
    obtain ⟨n1, h1⟩ := hc m r a σ _ e
    obtain ⟨n2, h2⟩ := (hF x s).2 Kn Cn K C mk mc hk hc z h
    exact ⟨max n1 n2, cI_iff.mpr ⟨x, s, mc n1 (max n1 n2) (by omega) m r a σ _ h1, (hF x s).1 _ _ _ _ (mk n2 (max n1 n2) (by omega)) (mc n2 (max n1 n2) (by omega)) z h2⟩⟩
theorem cL_iff {o : Option AR} {k : Int64 → St → Option AR} {z : AR} : cL o k = some z ↔ ∃ x s, o = some (some (.inr (.inl x)), s) ∧ k x s = some z := by
  unfold cL
  constructor
  · intro h
    split at h
    · exact ⟨_, _, rfl, h⟩
    · cases h
  · rintro ⟨x, s, rfl, h⟩
    exact h
theorem good_cL {m r : Nat} {a : List AV} {σ : St} {F : Int64 → St → AK → AC → Option AR} (hF : ∀ x s, Good (F x s)) : Good (fun K C => cL (C m r a σ) (fun x s => F x s K C)) := by
  constructor
  · intro K K' C C' hk hc z h
    obtain ⟨x, s, e, h⟩ := cL_iff.mp h
    exact cL_iff.mpr ⟨x, s, hc m r a σ _ e, (hF x s).1 K K' C C' hk hc z h⟩
  · intro Kn Cn K C mk mc hk hc z h
    obtain ⟨x, s, e, h⟩ := cL_iff.mp h
    obtain ⟨n1, h1⟩ := hc m r a σ _ e
    obtain ⟨n2, h2⟩ := (hF x s).2 Kn Cn K C mk mc hk hc z h
    exact ⟨max n1 n2, cL_iff.mpr ⟨x, s, mc n1 (max n1 n2) (by omega) m r a σ _ h1, (hF x s).1 _ _ _ _ (mk n2 (max n1 n2) (by omega)) (mc n2 (max n1 n2) (by omega)) z h2⟩⟩
theorem cV_iff {o : Option AR} {k : St → Option AR} {z : AR} : cV o k = some z ↔ ∃ s, o = some (none, s) ∧ k s = some z := by
  unfold cV
  constructor
  · intro h
    split at h
    · exact ⟨_, rfl, h⟩
    · cases h
  · rintro ⟨s, rfl, h⟩
    exact h
theorem good_cV {m r : Nat} {a : List AV} {σ : St} {F : St → AK → AC → Option AR} (hF : ∀ s, Good (F s)) : Good (fun K C => cV (C m r a σ) (fun s => F s K C)) := by
  constructor
  · intro K K' C C' hk hc z h
    obtain ⟨s, e, h⟩ := cV_iff.mp h
    exact cV_iff.mpr ⟨s, hc m r a σ _ e, (hF s).1 K K' C C' hk hc z h⟩
  · intro Kn Cn K C mk mc hk hc z h
    obtain ⟨s, e, h⟩ := cV_iff.mp h
    obtain ⟨n1, h1⟩ := hc m r a σ _ e
    obtain ⟨n2, h2⟩ := (hF s).2 Kn Cn K C mk mc hk hc z h
    exact ⟨max n1 n2, cV_iff.mpr ⟨s, mc n1 (max n1 n2) (by omega) m r a σ _ h1, (hF s).1 _ _ _ _ (mk n2 (max n1 n2) (by omega)) (mc n2 (max n1 n2) (by omega)) z h2⟩⟩
theorem good_jmp {L : AL} {S : List AV} {σ : St} {x : Int32} {d : Nat} : ∀ (ts : List Nat) (lo : Int), Good (fun K _ => jmp K L S σ x d lo ts)
  | [], _ => good_K _ _ _ _
  | t :: ts, lo => good_ite _ (good_K _ _ _ _) (good_jmp ts (lo + 1))
theorem good_step (m r pc : Nat) (L : AL) (S : List AV) (σ : St) : Good (fun K C => stepF K C m r pc L S σ) := by
  unfold stepF
  split
  · exact good_none
  · next ins len xs cv e =>
    clear e
    unfold stepI
    cases ins <;> dsimp only <;> (try exact good_none) <;> (try exact good_K _ _ _ _)
    all_goals (try simp only [ldI, ldL, ldA, stI, stL, stA, biI, biL, dvI, dvL, br1, br2, gtF, ptF, inw, inv, prm, cpA, retZ, mmI])
    all_goals repeat' first
      | exact good_none
      | exact good_some _
      | exact good_K _ _ _ _
      | exact good_jmp _ _
      | refine good_cond ?_ ?_
      | refine good_ite _ ?_ ?_
      | refine good_ix (fun _ => ?_)
      | refine good_cI (fun _ _ => ?_)
      | refine good_cL (fun _ _ => ?_)
      | refine good_cV (fun _ => ?_)
      | split
theorem exec_mono {C C' : AC} (hc : cle C C') (m r : Nat) : ∀ n n', n ≤ n' → kle (exec C m r n) (exec C' m r n')
  | 0, _, _ => fun _ _ _ _ _ h => by cases h
  | n + 1, 0, h => absurd h (by omega)
  | n + 1, n' + 1, h => fun pc L S σ => (good_step m r pc L S σ).1 _ _ _ _ (exec_mono hc m r n n' (by omega)) hc
theorem run_mono {N N' : Nat} (hN : N ≤ N') : ∀ d d', d ≤ d' → cle (run N d) (run N' d')
  | 0, _, _ => fun _ _ _ _ _ h => by cases h
  | d + 1, 0, h => absurd h (by omega)
  | d + 1, d' + 1, h => fun m r a σ => by
    show le (cond _ _ none) (cond _ _ none)
    cases Nat.ble (entL a).length (maxL m)
    · exact fun _ h => by cases h
    · exact exec_mono (run_mono hN d d' (by omega)) m r N N' hN 0 (entry m a) [] σ
noncomputable def lim (f : Nat → Option AR) : Option AR := by classical exact if h : ∃ x n, f n = some x then some h.choose else none
theorem lim_iff {f : Nat → Option AR} (mono : ∀ a b, a ≤ b → le (f a) (f b)) {x : AR} : lim f = some x ↔ ∃ n, f n = some x := by
  unfold lim
  constructor
  · intro h
    split at h
    · next hx =>
      obtain ⟨n, hn⟩ := hx.choose_spec
      cases h
      exact ⟨n, hn⟩
    · cases h
  · rintro ⟨n, hn⟩
    have hx : ∃ x n, f n = some x := ⟨x, n, hn⟩
    rw [dif_pos hx]
    obtain ⟨k, hk⟩ := hx.choose_spec
    have h1 := mono n (max n k) (by omega) _ hn
    have h2 := mono k (max n k) (by omega) _ hk
    rw [h1] at h2
    exact h2.symm
noncomputable def Cc : AC := fun m r a σ => lim (fun n => run n n m r a σ)
noncomputable def Vv (m r : Nat) : AK := fun pc L S σ => lim (fun n => exec (run n n) m r n pc L S σ)
theorem Cc_iff {m r : Nat} {a : List AV} {σ : St} {x : AR} : Cc m r a σ = some x ↔ ∃ n, run n n m r a σ = some x := lim_iff (fun a' b h => run_mono h a' b h m r a σ)
theorem Vv_iff {m r pc : Nat} {L : AL} {S : List AV} {σ : St} {x : AR} : Vv m r pc L S σ = some x ↔ ∃ n, exec (run n n) m r n pc L S σ = some x := lim_iff (fun a' b h => exec_mono (run_mono h a' b h) m r a' b h pc L S σ)
theorem opt_ext {a b : Option AR} (h : ∀ x, a = some x ↔ b = some x) : a = b := by
  cases a with
  | none =>
    cases b with
    | none => rfl
    | some y => exact absurd ((h y).mpr rfl) (by simp)
  | some x => exact ((h x).mp rfl).symm
theorem Vv_eq (m r pc : Nat) (L : AL) (S : List AV) (σ : St) : Vv m r pc L S σ = stepF (Vv m r) Cc m r pc L S σ := by
  refine opt_ext (fun x => ?_)
  constructor
  · intro h
    obtain ⟨n, h⟩ := Vv_iff.mp h
    cases n with
    | zero => cases h
    | succ n => exact (good_step m r pc L S σ).1 _ _ _ _ (fun pc' L' S' σ' y hy => Vv_iff.mpr ⟨n + 1, exec_mono (fun _ _ _ _ _ h => h) m r n (n + 1) (by omega) pc' L' S' σ' y hy⟩) (fun m' r' a' σ' y hy => Cc_iff.mpr ⟨_, hy⟩) x h
  · intro h
    obtain ⟨n, h⟩ := (good_step m r pc L S σ).2 (fun n => exec (run n n) m r n) (fun n => run n n) (Vv m r) Cc (fun a b h => exec_mono (run_mono h a b h) m r a b h) (fun a b h => run_mono h a b h) (fun pc' L' S' σ' y hy => Vv_iff.mp hy) (fun m' r' a' σ' y hy => Cc_iff.mp hy) x h
    exact Vv_iff.mpr ⟨n + 1, exec_mono (run_mono (by omega) n (n + 1) (by omega)) m r (n + 1) (n + 1) (by omega) pc L S σ x h⟩
theorem Cc_eq (m r : Nat) (a : List AV) (σ : St) : Cc m r a σ = cond (Nat.ble (entL a).length (maxL m)) (Vv m r 0 (entry m a) [] σ) none := by
  refine opt_ext (fun x => ?_)
  constructor
  · intro h
    obtain ⟨n, h⟩ := Cc_iff.mp h
    cases n with
    | zero => cases h
    | succ n =>
      have h : cond (Nat.ble (entL a).length (maxL m)) (exec (run (n + 1) n) m r (n + 1) 0 (entry m a) [] σ) none = some x := h
      cases hb : Nat.ble (entL a).length (maxL m)
      · rw [hb] at h; cases h
      · rw [hb] at h
        exact Vv_iff.mpr ⟨n + 1, exec_mono (run_mono (by omega) n (n + 1) (by omega)) m r (n + 1) (n + 1) (by omega) _ _ _ _ x h⟩
  · intro h
    cases hb : Nat.ble (entL a).length (maxL m)
    · rw [hb] at h; cases h
    · rw [hb] at h
      obtain ⟨n, h⟩ := Vv_iff.mp h
      refine Cc_iff.mpr ⟨n + 1, ?_⟩
      show cond (Nat.ble (entL a).length (maxL m)) (exec (run (n + 1) n) m r (n + 1) 0 (entry m a) [] σ) none = some x
      rw [hb]
      exact exec_mono (run_mono (by omega) n n (by omega)) m r n (n + 1) (by omega) _ _ _ _ x h
/-- some steps at once, up to the next place of cut -/
noncomputable def U (cut : Nat → Bool) (m r : Nat) : Nat → AK
  | 0 => Vv m r
  | k + 1 => stepF (fun pc L S σ => cond (cut pc) (Vv m r pc L S σ) (U cut m r k pc L S σ)) Cc m r
theorem U_eq (cut : Nat → Bool) (m r : Nat) : ∀ k, U cut m r k = Vv m r
  | 0 => rfl
  | k + 1 => by
    funext pc L S σ
    rw [Vv_eq]
    show stepF (fun pc L S σ => cond (cut pc) (Vv m r pc L S σ) (U cut m r k pc L S σ)) Cc m r pc L S σ = _
    congr 1
    funext pc' L' S' σ'
    rw [U_eq cut m r k]
    cases cut pc' <;> rfl
theorem U_at (cut : Nat → Bool) (k : Nat) {m r pc : Nat} {L : AL} {S : List AV} {σ : St} {x : Option AR} (h : U cut m r k pc L S σ = x) : Vv m r pc L S σ = x := by rw [← h, U_eq]
end
section
/-! THE TABLES ARE THE CODE'S: each entry is what decode gives, each link stands among the words -/
/-- the pool places of the texts -/
def sks : List Nat := [152, 78, 158, 115, 88, 70, 119, 56, 100, 83, 138, 105]
def tbj (j : Nat) : List Cond := match j with
  | 0 => k2_sels lw_privs
  | 1 => tables_1_1
  | 2 => tables_1_2
  | 3 => tables_1_3
  | 4 => tables_1_4
  | 5 => tables_1_5
  | 6 => tables_1_6
  | 7 => tables_1_7
  | 8 => tables_1_8
  | 9 => tables_1_9
  | _ => tables_1_10
theorem tbj_in {j : Nat} {w : Cond} (h : w ∈ tbj j) : w ∈ lw_tbl := by
  unfold lw_tbl tables_1
  simp only [List.mem_append]
  unfold tbj at h
  split at h
  · exact Or.inl h
  · exact Or.inr (Or.inl h)
  · exact Or.inr (Or.inr (Or.inl h))
  · exact Or.inr (Or.inr (Or.inr (Or.inl h)))
  · exact Or.inr (Or.inr (Or.inr (Or.inr (Or.inl h))))
  · exact Or.inr (Or.inr (Or.inr (Or.inr (Or.inr (Or.inl h)))))
  · exact Or.inr (Or.inr (Or.inr (Or.inr (Or.inr (Or.inr (Or.inl h))))))
  · exact Or.inr (Or.inr (Or.inr (Or.inr (Or.inr (Or.inr (Or.inr (Or.inl h)))))))
  · exact Or.inr (Or.inr (Or.inr (Or.inr (Or.inr (Or.inr (Or.inr (Or.inr (Or.inl h))))))))
  · exact Or.inr (Or.inr (Or.inr (Or.inr (Or.inr (Or.inr (Or.inr (Or.inr (Or.inr (Or.inl h)))))))))
  · exact Or.inr (Or.inr (Or.inr (Or.inr (Or.inr (Or.inr (Or.inr (Or.inr (Or.inr (Or.inr h)))))))))
noncomputable def nthR {α : Type} (l : List α) : Nat → Option α := List.rec (motive := fun _ => Nat → Option α) (fun _ => none) (fun a _ ih k => Nat.casesOn (motive := fun _ => Option α) k (some a) ih) l
theorem nthR_mem {α : Type} {x : α} : ∀ (l : List α) (k : Nat), nthR l k = some x → x ∈ l
  | [], _, h => by cases h
  | a :: l, 0, h => by
    have h : some a = some x := h
    cases h
    exact List.mem_cons_self
  | a :: l, k + 1, h => List.mem_cons_of_mem _ (nthR_mem l k h)
noncomputable def inT (k : Nat) (w : Cond) : Bool := decide (nthR (tbj (k / 1000)) (k % 1000) = some w)
theorem inT_mem {k : Nat} {w : Cond} (h : inT k w = true) : w ∈ lw_tbl := tbj_in (nthR_mem _ _ (of_decide_eq_true h))
def beqL : List UInt8 → List UInt8 → Bool
  | [], [] => true
  | x :: xs, y :: ys => Nat.beq x.toNat y.toNat && beqL xs ys
  | _, _ => false
theorem beqL_eq : ∀ (a b : List UInt8), beqL a b = true → a = b
  | [], [], _ => rfl
  | [], _ :: _, h => by cases h
  | _ :: _, [], h => by cases h
  | x :: xs, y :: ys, h => by
    have h : (Nat.beq x.toNat y.toNat && beqL xs ys) = true := h
    rw [Bool.and_eq_true] at h
    rw [UInt8.toNat_inj.mp (Nat.eq_of_beq_eq_true h.1), beqL_eq xs ys h.2]
noncomputable def inC (k : Nat) (y : MethodName) (b : ByteArray) (n : Nat) (r : Option FieldType) : Bool := match nthR (tbj (k / 1000)) (k % 1000) with
  | some (.code y' b' n' r') => decide (y' = y) && beqL b'.data.toList b.data.toList && Nat.beq n' n && decide (r' = r)
  | _ => false
theorem inC_mem {k : Nat} {y : MethodName} {b : ByteArray} {n : Nat} {r : Option FieldType} (h : inC k y b n r = true) : Cond.code y b n r ∈ lw_tbl := by
  unfold inC at h
  split at h
  · next y' b' n' r' e =>
    simp only [Bool.and_eq_true, decide_eq_true_eq] at h
    obtain ⟨⟨⟨h1, h2⟩, h3⟩, h4⟩ := h
    have e2 : b' = b := by
      have := beqL_eq _ _ h2
      cases b' with
      | mk d' =>
        cases b with
        | mk d =>
          have hd : d' = d := by
            cases d'; cases d
            exact congrArg _ this
          rw [hd]
    rw [← h1, ← e2, ← Nat.eq_of_beq_eq_true h3, ← h4]
    exact tbj_in (nthR_mem _ _ e)
  · cases h
def mdt (m : Nat) : MD := mds.getD m md0
def mcl (m : Nat) : Nat := (mdt m).1
def mst (m : Nat) : Bool := (mdt m).2.1
def myn (m : Nat) : MethodName := (mdt m).2.2.1
def mbt (m : Nat) : ByteArray := (mdt m).2.2.2.1
def mrt (m : Nat) : Option FieldType := (mdt m).2.2.2.2.1
def mnp (m : Nat) : Nat := (mdt m).2.2.2.2.2.1
def mpl (m k : Nat) : Nat := (mdt m).2.2.2.2.2.2.getD k 0
noncomputable def okm (m : Nat) : Bool := inC (mpl m 0) (myn m) (mbt m) (maxL m) (mrt m) && inT (mpl m 1) (.initialized (myn m).cls) &&
  cond (mst m) (inT (mpl m 2) (.static (myn m))) (inT (mpl m 2) (.instanceMethod (myn m)) && inT (mpl m 3) (.selects (myn m).cls (myn m) (myn m))) &&
  decide ((myn m).cls = cnm (mcl m) ∧ plainName (myn m).cls = true ∧ (myn m).cls ≠ "java/lang/invoke/MethodHandle" ∧ (myn m).cls ≠ "java/lang/invoke/VarHandle" ∧ (parseMethodDescriptor (myn m).desc).map (fun d => d.parameters.length) = some (mnp m) ∧ maxL m ≤ 40)
theorem okm_1 : (List.range 50).all (fun k => okm (k + 1)) = true := by decide +kernel
theorem okm_51 : (List.range 50).all (fun k => okm (k + 51)) = true := by decide +kernel
theorem okm_101 : (List.range 50).all (fun k => okm (k + 101)) = true := by decide +kernel
theorem okm_151 : (List.range 50).all (fun k => okm (k + 151)) = true := by decide +kernel
theorem okm_201 : (List.range 50).all (fun k => okm (k + 201)) = true := by decide +kernel
theorem okm_251 : (List.range 50).all (fun k => okm (k + 251)) = true := by decide +kernel
theorem okm_301 : (List.range 50).all (fun k => okm (k + 301)) = true := by decide +kernel
theorem okm_351 : (List.range 21).all (fun k => okm (k + 351)) = true := by decide +kernel
def Tc (c : Nat) : vw_C := vwCl.getD c (RX0, TX0, 4)
def fkd (c k : Nat) : Nat × Nat × Nat × Nat := (fds.getD c []).getD k (9, 0, 0, 0)
def okfd (k : Nat) (ty : FieldType) : Bool := match k with
  | 0 => decide (ty = .int)
  | 1 => decide (ty = .long)
  | 3 => decide (ty = .boolean)
  | _ => true
noncomputable def okf (e : Nat × Nat × Nat × Nat × Nat) : Bool := inT e.2.2.2.2 (.fieldLink (cnm e.1) e.2.1 (((Tc e.2.2.1).2.1 e.2.2.2.1).1) (((Tc e.2.2.1).2.1 e.2.2.2.1).2.1) (((Tc e.2.2.1).2.1 e.2.2.2.1).2.2.1)) && decide (e.2.2.2.1 < (Tc e.2.2.1).2.2 ∧ e.2.2.1 < 13)
theorem okf_all : fls.all okf = true := by decide +kernel
noncomputable def okl (e : Nat × Nat × Nat × Nat) : Bool := inT e.2.2.2 (.methodLink (cnm e.1) e.2.1 (myn e.2.2.1))
theorem okl_all : mls.all okl = true := by decide +kernel
def pnm (w : Nat) : MethodName := match w with
  | 0 => arraycopyName
  | 1 => yJ0_length_8abf5
  | 2 => yJ0_charAt_5068e
  | 3 => Lib.Math.max.name
  | _ => Lib.Math.min.name
theorem okp_all : prs.all (fun e => inT e.2.2.2 (.methodLink (cnm e.1) e.2.1 (pnm e.2.2.1))) = true := by decide +kernel
def nwd (e : Nat × Nat × Nat × Nat) : Cond := .methodLinkNest (cnm e.1) e.2.1 (myn e.2.2.1) "HassockRoof"
theorem okn_all : nls.all (fun e => inT e.2.2.2 (nwd e)) = true := by decide +kernel
theorem oki_all : kis.all (fun e => inT e.2.2.2 (.constant (cnm e.1) e.2.1 e.2.2.1)) = true := by decide +kernel
theorem okj_all : kls.all (fun e => inT e.2.2.2 (.constantLong (cnm e.1) e.2.1 e.2.2.1)) = true := by decide +kernel
def rtk (rt : Nat) (ty : Option FieldType) : Bool := match rt, ty with
  | 0, none => true
  | 1, some .int => true
  | 1, some .boolean => true
  | 2, some .long => true
  | _, _ => false
def okc1 (m idx m' n rt : Nat) (vt : Bool) : Bool := (mls.any (fun e => Nat.beq e.1 (mcl m) && Nat.beq e.2.1 idx && Nat.beq e.2.2.1 m') || (!vt && nls.any (fun e => Nat.beq e.1 (mcl m) && Nat.beq e.2.1 idx && Nat.beq e.2.2.1 m'))) && decide (mst m' = !vt ∧ n = cond vt (mnp m' + 1) (mnp m') ∧ rtk rt (mrt m') = true ∧ 1 ≤ m' ∧ m' ≤ 371 ∧ (m' = m ∨ lev m' + R0 m' < lev m))
def okc (m idx : Nat) (vt : Bool) (xs : List Nat) : Bool := match xs with
  | [m', n, rt] => !vt && okc1 m idx m' n rt vt
  | [m', n, rt, cl] => vt && okc1 m idx m' n rt vt && decide (cl = mcl m' ∧ cl < 13)
  | [w] => prs.any (fun e => Nat.beq e.1 (mcl m) && Nat.beq e.2.1 idx && Nat.beq e.2.2.1 w) && decide (w ≤ 4 ∧ vt = (w == 1 || w == 2) ∧ 1 ≤ lev m ∧ (w = 1 ∨ w = 2 → 8 ≤ lev m))
  | _ => false
def okfl (m idx : Nat) (xs : List Nat) (put : Bool) : Bool := match xs with
  | [c, k, d] => fls.any (fun e => Nat.beq e.1 (mcl m) && Nat.beq e.2.1 idx && Nat.beq e.2.2.1 c && Nat.beq e.2.2.2.1 k) && decide ((fkd c k).1 = d ∧ d ≠ 2 ∧ d ≤ 3)
  | [c, k, t, f, b] => fls.any (fun e => Nat.beq e.1 (mcl m) && Nat.beq e.2.1 idx && Nat.beq e.2.2.1 c && Nat.beq e.2.2.2.1 k) && decide (fkd c k = (2, t, f, b) ∧ put = false)
  | _ => false
def tgts (pc : Nat) : List Nat → List Int → Bool
  | [], [] => true
  | t :: ts, o :: os => decide ((pc : Int) + o = (t : Int)) && tgts pc ts os
  | _, _ => false
def okX (m pc : Nat) (ins : Instr) (len : Nat) (xs : List Nat) (cv : Int32 ⊕ Int64) : Bool := match ins with
  | .iconst n => decide (len = 1 ∧ cv = .inl (Int32.ofInt n))
  | .bipush n => decide (len = 2 ∧ cv = .inl (Int8.ofInt n).toInt32)
  | .sipush n => decide (len = 3 ∧ cv = .inl (Int16.ofInt n).toInt32)
  | .lconst n => decide (len = 1 ∧ cv = .inr (Int64.ofNat n.val))
  | .ldc i => decide (len = 2) && (match xs with
    | [] => kis.any (fun e => decide (e.1 = mcl m ∧ e.2.1 = i ∧ cv = .inl e.2.2.1))
    | [k] => decide (mcl m = 5 ∧ sks.getD k 0 = i ∧ k < 12)
    | _ => false)
  | .ldc_w i => decide (len = 3) && kis.any (fun e => decide (e.1 = mcl m ∧ e.2.1 = i ∧ cv = .inl e.2.2.1))
  | .ldc2_w i => decide (len = 3) && kls.any (fun e => decide (e.1 = mcl m ∧ e.2.1 = i ∧ cv = .inr e.2.2.1))
  | .iload _ => decide (len = 2)
  | .lload _ => decide (len = 2)
  | .aload _ => decide (len = 2)
  | .istore _ => decide (len = 2)
  | .lstore _ => decide (len = 2)
  | .astore _ => decide (len = 2)
  | .iinc _ n => decide (len = 3 ∧ cv = .inl (Int32.ofInt n))
  | .goto o => decide (len = 3) && tgts pc (xs.take 1) [o]
  | .ifCond _ o => decide (len = 3) && tgts pc xs [o]
  | .if_icmp _ o => decide (len = 3) && tgts pc xs [o]
  | .tableswitch d lo hi os => tgts pc xs (d :: os.toList) && decide (hi = lo + os.size - 1)
  | .getfield i => decide (len = 3) && okfl m i xs false
  | .putfield i => decide (len = 3) && okfl m i xs true
  | .invokevirtual i => decide (len = 3) && okc m i true xs
  | .invokestatic i => decide (len = 3) && okc m i false xs
  | .ireturn => decide (len = 1) && (match xs with
    | [] => decide (mrt m = some .int)
    | _ => decide (mrt m = some .boolean))
  | .lreturn => decide (len = 1 ∧ mrt m = some .long)
  | .return_ => decide (len = 1 ∧ mrt m = none)
  | _ => decide (len = 1)
def okE (m : Nat) (e : Nat × Instr × Nat × List Nat × (Int32 ⊕ Int64)) : Bool := decide (decode (mbt m) e.1 = .ok (e.2.1, e.2.2.1)) && okX m e.1 e.2.1 e.2.2.1 e.2.2.2.1 e.2.2.2.2
end
section
/-! THE WORLD: a store as cells of the heap -/
def conc (α : Nat → Nat → Nat) (v : AV) : Value := match v with
  | .inl x => .int x
  | .inr (.inl x) => .long x
  | .inr (.inr q) => .ref (α q.1 q.2)
def fv (α : Nat → Nat → Nat) (σ : St) (t i k : Nat) (e : Nat × Nat × Nat × Nat) : Value := match e.1 with
  | 1 => .long (gL σ t i k)
  | 2 => .ref (α e.2.1 (lfi e.2.2.1 e.2.2.2 i))
  | _ => .int (gI σ t i k)
def fvs (α : Nat → Nat → Nat) (σ : St) (t i : Nat) : List Value := (List.range (fds.getD (t / 8) []).length).map (fun k => fv α σ t i k (fkd (t / 8) k))
def ce (α : Nat → Nat → Nat) (cT : Nat → ClassId) (σ : St) (t i : Nat) : va_E := match lk t with
  | 0 => .inr (t / 8, fvs α σ t i)
  | 2 => .inl (cT t, ln t i, .inr (.inl (gL σ t i)))
  | 5 => .inl (cT t, ln t i, .inr (.inr (.inr (.inr (fun j => some (α (la t i j).1 (la t i j).2))))))
  | _ => .inl (cT t, ln t i, .inl (gI σ t i))
def wl (α : Nat → Nat → Nat) (cT : Nat → ClassId) (σ : St) : va_W := dom.map (fun q => (α q.1 q.2, ce α cT σ q.1 q.2))
def nodupB : List (Nat × Nat) → Bool
  | [] => true
  | a :: l => l.all (fun b => !(Nat.beq a.1 b.1 && Nat.beq a.2 b.2)) && nodupB l
theorem dom_nodup : nodupB dom = true := by decide +kernel
theorem nodupB_inj : ∀ (l : List (Nat × Nat)), nodupB l = true → ∀ (i j : Nat) (q : Nat × Nat), l[i]? = some q → l[j]? = some q → i = j
  | [], _, i, j, q, h, _ => by simp at h
  | a :: l, hn, i, j, q, h1, h2 => by
    have hn : (l.all (fun b => !(Nat.beq a.1 b.1 && Nat.beq a.2 b.2)) && nodupB l) = true := hn
    rw [Bool.and_eq_true] at hn
    have hno : ∀ q', q' ∈ l → q' = a → False := by
      intro q' hq e
      have := List.all_eq_true.mp hn.1 q' hq
      subst e
      simp at this
    cases i with
    | zero =>
      cases j with
      | zero => rfl
      | succ j =>
        rw [List.getElem?_cons_zero] at h1
        rw [List.getElem?_cons_succ] at h2
        cases h1
        exact (hno _ (List.mem_of_getElem? h2) rfl).elim
    | succ i =>
      rw [List.getElem?_cons_succ] at h1
      cases j with
      | zero =>
        rw [List.getElem?_cons_zero] at h2
        cases h2
        exact (hno _ (List.mem_of_getElem? h1) rfl).elim
      | succ j =>
        rw [List.getElem?_cons_succ] at h2
        rw [nodupB_inj l hn.2 i j q h1 h2]
theorem wl_at {α : Nat → Nat → Nat} {cT : Nat → ClassId} {σ : St} {q0 : Nat} {t i : Nat} (h : dom[q0]? = some (t, i)) : (wl α cT σ)[q0]? = some (α t i, ce α cT σ t i) := by
  unfold wl
  rw [List.getElem?_map, h]
  rfl
theorem wl_set {α : Nat → Nat → Nat} {cT : Nat → ClassId} {σ σ' : St} {q0 t i : Nat} (h : dom[q0]? = some (t, i)) {e : va_E} (he : e = ce α cT σ' t i) (ho : ∀ t' i', ¬ (t' = t ∧ i' = i) → ce α cT σ' t' i' = ce α cT σ t' i') : (wl α cT σ).set q0 (α t i, e) = wl α cT σ' := by
  subst he
  apply List.ext_getElem?
  intro j
  by_cases hj : j = q0
  · subst hj
    have hl : j < (wl α cT σ).length := by
      unfold wl
      rw [List.length_map]
      exact (List.getElem?_eq_some_iff.mp h).1
    rw [List.getElem?_set_self hl, wl_at h]
  · rw [List.getElem?_set_ne (Ne.symm hj)]
    unfold wl
    rw [List.getElem?_map, List.getElem?_map]
    cases hd : dom[j]? with
    | none => rfl
    | some q =>
      obtain ⟨t', i'⟩ := q
      show some (α t' i', ce α cT σ t' i') = some (α t' i', ce α cT σ' t' i')
      rw [ho t' i' (fun z => hj (nodupB_inj dom dom_nodup j q0 (t, i) (by rw [hd, z.1, z.2]) h))]
theorem ce_same {α : Nat → Nat → Nat} {cT : Nat → ClassId} {σ σ' : St} {t i : Nat} (h1 : ∀ j, gI σ' t i j = gI σ t i j) (h2 : ∀ j, gL σ' t i j = gL σ t i j) : ce α cT σ' t i = ce α cT σ t i := by
  have e1 : gI σ' t i = gI σ t i := funext h1
  have e2 : gL σ' t i = gL σ t i := funext h2
  unfold ce fvs fv
  rw [e1, e2]
theorem gI_sI (σ : St) (t i j : Nat) (v : Int32) (t' i' j' : Nat) : gI (sI σ t i j v) t' i' j' = if t' = t ∧ i' = i ∧ j' = j then v else gI σ t' i' j' := rfl
theorem gL_sI (σ : St) (t i j : Nat) (v : Int32) (t' i' j' : Nat) : gL (sI σ t i j v) t' i' j' = gL σ t' i' j' := rfl
theorem gL_sL (σ : St) (t i j : Nat) (v : Int64) (t' i' j' : Nat) : gL (sL σ t i j v) t' i' j' = if t' = t ∧ i' = i ∧ j' = j then v else gL σ t' i' j' := rfl
theorem gI_sL (σ : St) (t i j : Nat) (v : Int64) (t' i' j' : Nat) : gI (sL σ t i j v) t' i' j' = gI σ t' i' j' := rfl
theorem ce_sI {α : Nat → Nat → Nat} {cT : Nat → ClassId} {σ : St} {t i j : Nat} {v : Int32} : ∀ t' i', ¬ (t' = t ∧ i' = i) → ce α cT (sI σ t i j v) t' i' = ce α cT σ t' i' := fun t' i' h => ce_same (fun j' => by rw [gI_sI, if_neg (fun z => h ⟨z.1, z.2.1⟩)]) (fun _ => rfl)
theorem ce_sL {α : Nat → Nat → Nat} {cT : Nat → ClassId} {σ : St} {t i j : Nat} {v : Int64} : ∀ t' i', ¬ (t' = t ∧ i' = i) → ce α cT (sL σ t i j v) t' i' = ce α cT σ t' i' := fun t' i' h => ce_same (fun _ => rfl) (fun j' => by rw [gL_sL, if_neg (fun z => h ⟨z.1, z.2.1⟩)])
theorem upd_sI (σ : St) (t i k : Nat) (v : Int32) : upd (gI σ t i) k v = gI (sI σ t i k v) t i := by
  funext j
  rw [gI_sI]
  unfold upd
  by_cases h : j = k
  · rw [if_pos h, if_pos ⟨rfl, rfl, h⟩]
  · rw [if_neg h, if_neg (fun z => h z.2.2)]
theorem upd_sL (σ : St) (t i k : Nat) (v : Int64) : vp_updL (gL σ t i) k v = gL (sL σ t i k v) t i := by
  funext j
  rw [gL_sL]
  unfold vp_updL
  by_cases h : j = k
  · rw [if_pos h, if_pos ⟨rfl, rfl, h⟩]
  · rw [if_neg h, if_neg (fun z => h z.2.2)]
theorem fvs_len (α : Nat → Nat → Nat) (σ : St) (t i : Nat) : (fvs α σ t i).length = (fds.getD (t / 8) []).length := by simp [fvs]
theorem fvs_at {α : Nat → Nat → Nat} {σ : St} {t i k : Nat} (hk : k < (fds.getD (t / 8) []).length) : (fvs α σ t i)[k]? = some (fv α σ t i k (fkd (t / 8) k)) := by
  unfold fvs
  rw [List.getElem?_map, List.getElem?_range hk]
  rfl
theorem fvs_setI {α : Nat → Nat → Nat} {σ : St} {t i k : Nat} {x : Int32} (hk : (fkd (t / 8) k).1 ≠ 1 ∧ (fkd (t / 8) k).1 ≠ 2) : (fvs α σ t i).set k (.int x) = fvs α (sI σ t i k x) t i := by
  apply List.ext_getElem?
  intro j
  by_cases hl : j < (fds.getD (t / 8) []).length
  · by_cases hj : j = k
    · subst hj
      rw [List.getElem?_set_self (by rw [fvs_len]; exact hl), fvs_at hl]
      unfold fv
      split
      · next h => exact absurd h hk.1
      · next h => exact absurd h hk.2
      · rw [gI_sI, if_pos ⟨rfl, rfl, rfl⟩]
    · rw [List.getElem?_set_ne (Ne.symm hj), fvs_at hl, fvs_at hl]
      unfold fv
      rw [gI_sI, gL_sI, if_neg (fun z => hj z.2.2)]
  · rw [List.getElem?_eq_none (by rw [List.length_set, fvs_len]; omega), List.getElem?_eq_none (by rw [fvs_len]; omega)]
theorem fvs_setL {α : Nat → Nat → Nat} {σ : St} {t i k : Nat} {x : Int64} (hk : (fkd (t / 8) k).1 = 1) : (fvs α σ t i).set k (.long x) = fvs α (sL σ t i k x) t i := by
  apply List.ext_getElem?
  intro j
  by_cases hl : j < (fds.getD (t / 8) []).length
  · by_cases hj : j = k
    · subst hj
      rw [List.getElem?_set_self (by rw [fvs_len]; exact hl), fvs_at hl]
      unfold fv
      rw [hk]
      show some (Value.long x) = some (.long (gL (sL σ t i j x) t i j))
      rw [gL_sL, if_pos ⟨rfl, rfl, rfl⟩]
    · rw [List.getElem?_set_ne (Ne.symm hj), fvs_at hl, fvs_at hl]
      unfold fv
      rw [gL_sL, gI_sL, if_neg (fun z => hj z.2.2)]
  · rw [List.getElem?_eq_none (by rw [List.length_set, fvs_len]; omega), List.getElem?_eq_none (by rw [fvs_len]; omega)]
def tyl (cT : Nat → ClassId) : List (ClassId × FieldType) := atg.map (fun q => (cT q.1, q.2))
/-- the texts -/
def stx : List String := ["at", "flue", "hopes", "law", "looker", "mark", "odds", "place", "roof", "way", "worth", "years"]
def slens : List Nat := sws.map List.length
/-- what the tables say, and the places of the texts -/
def KK (α : Nat → Nat → Nat) (cT : Nat → ClassId) (D : va_G) (U : State) : Prop := va_K D vwCl (tyl cT) U ∧ (∀ e ∈ nls, va_Nw (nwd e) U) ∧ ∀ k, k < 12 → vk_R RX5 (sks.getD k 0) (stx.getD k "") (α 494 k) U
theorem KK.moved {α : Nat → Nat → Nat} {cT : Nat → ClassId} {D : va_G} {s U : State} (hW : s.WarmedH U.vm) (h : KK α cT D s) : KK α cT D U := ⟨va_K.moved hW.alike h.1, fun e he => va_Nw.warmM hW (h.2.1 e he), fun k hk => vk_R.warm hW (h.2.2 k hk)⟩
theorem KK.same {α : Nat → Nat → Nat} {cT : Nat → ClassId} {D : va_G} {s U : State} (hv : U.vm = s.vm) (h : KK α cT D s) : KK α cT D U := ⟨va_K.moved (by rw [hv]; exact Vm.Alike.refl s.vm) h.1, fun e he => va_Nw.same rfl hv.symm (h.2.1 e he), fun k hk => vk_R.same hv (h.2.2 k hk)⟩
/-- which cells a method may change -/
def AA (α : Nat → Nat → Nat) (sz : Nat) : Nat → Prop := fun q => (∃ p, p ∈ dom ∧ q = α p.1 p.2) ∨ sz ≤ q
/-- a cell of the world, a text, or the script -/
def okr (scr : Bool) (q : Nat × Nat) : Prop := q ∈ dom ∨ (q.1 = 494 ∧ q.2 < 12) ∨ (scr = true ∧ q = (497, 0))
def okv (scr : Bool) (v : AV) : Prop := match v with
  | .inr (.inr q) => okr scr q
  | _ => True
theorem dom_at {q : Nat × Nat} (h : q ∈ dom) : ∃ q0 : Nat, dom[q0]? = some q := List.getElem?_of_mem h
/-- the tags of the domain: objects' are 8 times their number, arrays' stand in atg with their kind -/
def tagok (t : Nat) : Bool := match lk t with
  | 0 => decide (t / 8 < 13 ∧ t = 8 * (t / 8) ∧ (fds.getD (t / 8) []).length = (Tc (t / 8)).2.2)
  | 1 => atg.any (fun e => decide (e = (t, .int)))
  | 2 => atg.any (fun e => decide (e = (t, .long)))
  | 3 => atg.any (fun e => decide (e = (t, .byte)))
  | 4 => atg.any (fun e => decide (e = (t, .boolean)))
  | 5 => atg.any (fun e => decide (e.1 = t) && e.2.isReference)
  | _ => false
theorem dom_tags : dom.all (fun q => tagok q.1 && !(Nat.beq q.1 497) && !(Nat.beq q.1 494)) = true := by decide +kernel
def refsok (q : Nat × Nat) : Bool := match lk q.1 with
  | 0 => (List.range (fds.getD (q.1 / 8) []).length).all (fun k => match fkd (q.1 / 8) k with
    | (2, t', f, b) => dom.contains (t', lfi f b q.2)
    | _ => true)
  | 5 => (List.range (ln q.1 q.2)).all (fun j => dom.contains (la q.1 q.2 j))
  | _ => true
theorem dom_refs : dom.all refsok = true := by decide +kernel
end
section
/-! THE MACHINE COMES TO WHAT THE ABSTRACT MACHINE COMES TO: locals, stack, the simple instructions -/
def WS : List Cond := lw_tbl.filter goodWord
theorem WS_in {w : Cond} (h : w ∈ lw_tbl) (hg : goodWord w = true) : w ∈ WS := List.mem_filter.mpr ⟨h, hg⟩
def lvl (α : Nat → Nat → Nat) : Nat → AL → List (Nat × Value)
  | _, [] => []
  | i, none :: L => lvl α (i + 1) L
  | i, some v :: L => (i, conc α v) :: lvl α (i + 1) L
theorem lvl_mem {α : Nat → Nat → Nat} {q : Nat × Value} : ∀ (L : AL) (i : Nat), q ∈ lvl α i L ↔ ∃ k v, L[k]? = some (some v) ∧ q = (i + k, conc α v)
  | [], i => by simp [lvl]
  | none :: L, i => by
    show q ∈ lvl α (i + 1) L ↔ _
    rw [lvl_mem L (i + 1)]
    constructor
    · rintro ⟨k, v, h1, rfl⟩
      exact ⟨k + 1, v, by simpa using h1, by rw [Nat.add_assoc, Nat.add_comm 1 k]⟩
    · rintro ⟨k, v, h1, rfl⟩
      cases k with
      | zero => simp at h1
      | succ k => exact ⟨k, v, by simpa using h1, by rw [Nat.add_assoc, Nat.add_comm 1 k]⟩
  | some u :: L, i => by
    show q ∈ (i, conc α u) :: lvl α (i + 1) L ↔ _
    rw [List.mem_cons, lvl_mem L (i + 1)]
    constructor
    · rintro (rfl | ⟨k, v, h1, rfl⟩)
      · exact ⟨0, u, by simp, rfl⟩
      · exact ⟨k + 1, v, by simpa using h1, by rw [Nat.add_assoc, Nat.add_comm 1 k]⟩
    · rintro ⟨k, v, h1, rfl⟩
      cases k with
      | zero =>
        simp at h1
        exact Or.inl (by rw [h1]; rfl)
      | succ k => exact Or.inr ⟨k, v, by simpa using h1, by rw [Nat.add_assoc, Nat.add_comm 1 k]⟩
theorem lvl_get {α : Nat → Nat → Nat} {ls : Array Slot} {nL : Nat} {L : AL} (h : lv_has ls nL (lvl α 0 L)) {i : Nat} {v : AV} (hi : L[i]? = some (some v)) : ls[i]? = some (.val (conc α v)) := h.2.2 (i, conc α v) ((lvl_mem L 0).mpr ⟨i, v, hi, by rw [Nat.zero_add]⟩)
theorem lvl_idx {α : Nat → Nat → Nat} {L : AL} {i : Nat} {v : AV} (hi : L[i]? = some (some v)) : ∃ k : Nat, (lvl α 0 L)[k]? = some (i, conc α v) := List.getElem?_of_mem ((lvl_mem L 0).mpr ⟨i, v, hi, by rw [Nat.zero_add]⟩)
theorem cat_conc (α : Nat → Nat → Nat) (v : AV) : (conc α v).category = acat v := by
  rcases v with x | x | x <;> rfl
theorem isL_of {v : AV} (h : acat v = 2) : isL (some (some v)) = true := by
  rcases v with x | x | x <;> first | rfl | (simp [acat] at h)
theorem lcut_get {L : AL} {i j : Nat} {o : Option AV} {v : AV} (h : (lcut L i)[j]? = some (some v)) : L[j]? = some (some v) ∧ ¬ (j + 1 = i ∧ acat v = 2) := by
  cases i with
  | zero => exact ⟨h, by omega⟩
  | succ k =>
    have h : (cond (isL L[k]?) (L.set k none) L)[j]? = some (some v) := h
    cases hb : isL L[k]?
    · rw [hb] at h
      refine ⟨h, fun z => ?_⟩
      have hjk : j = k := by omega
      subst hjk
      have h : L[j]? = some (some v) := h
      rw [h, isL_of z.2] at hb
      cases hb
    · rw [hb] at h
      have h : (L.set k none)[j]? = some (some v) := h
      by_cases hjk : j = k
      · subst hjk
        rw [List.getElem?_set] at h
        simp at h
      · rw [List.getElem?_set_ne (Ne.symm hjk)] at h
        exact ⟨h, by omega⟩
theorem lcut_len (L : AL) (i : Nat) : (lcut L i).length = L.length := by
  cases i with
  | zero => rfl
  | succ k =>
    show (cond (isL L[k]?) (L.set k none) L).length = _
    cases isL L[k]? <;> simp
theorem lset1_len (L : AL) (i : Nat) (v : AV) : (lset1 L i v).length = L.length := by simp [lset1, lcut_len]
theorem lset2_len (L : AL) (i : Nat) (v : AV) : (lset2 L i v).length = L.length := by simp [lset2, lcut_len]
theorem lset1_get {L : AL} {i j : Nat} {u v : AV} (h : (lset1 L i u)[j]? = some (some v)) : (j = i ∧ v = u) ∨ (j ≠ i ∧ L[j]? = some (some v) ∧ ¬ (j + 1 = i ∧ acat v = 2)) := by
  unfold lset1 at h
  by_cases hj : j = i
  · subst hj
    rw [List.getElem?_set] at h
    simp at h
    exact Or.inl ⟨rfl, h.2.symm⟩
  · rw [List.getElem?_set_ne (Ne.symm hj)] at h
    exact Or.inr ⟨hj, lcut_get (o := none) h⟩
theorem lset2_get {L : AL} {i j : Nat} {u v : AV} (h : (lset2 L i u)[j]? = some (some v)) : (j = i ∧ v = u) ∨ (j ≠ i ∧ j ≠ i + 1 ∧ L[j]? = some (some v) ∧ ¬ (j + 1 = i ∧ acat v = 2)) := by
  unfold lset2 at h
  by_cases hj1 : j = i + 1
  · subst hj1
    rw [List.getElem?_set] at h
    simp at h
  · rw [List.getElem?_set_ne (Ne.symm hj1)] at h
    rcases lset1_get h with h | ⟨h1, h2⟩
    · exact Or.inl h
    · exact Or.inr ⟨h1, hj1, h2⟩
theorem lset1_has {α : Nat → Nat → Nat} {ls : Array Slot} {nL i : Nat} {L : AL} {v : AV} (h : lv_has ls nL ((i, conc α v) :: (lvl α 0 L).filter (fun q => !(q.1 == i) && !(q.1 + 1 == i && q.2.category == 2)))) : lv_has ls nL (lvl α 0 (lset1 L i v)) := by
  refine ⟨h.1, h.2.1, fun q hq => h.2.2 q ?_⟩
  obtain ⟨k, u, h1, rfl⟩ := (lvl_mem _ 0).mp hq
  rw [Nat.zero_add]
  rcases lset1_get h1 with ⟨rfl, rfl⟩ | ⟨h2, h3, h4⟩
  · exact List.mem_cons_self
  · refine List.mem_cons_of_mem _ (List.mem_filter.mpr ⟨(lvl_mem L 0).mpr ⟨k, u, h3, by rw [Nat.zero_add]⟩, ?_⟩)
    have hc := cat_conc α u
    simp only [Bool.and_eq_true, Bool.not_eq_true', beq_eq_false_iff_ne, Bool.and_eq_false_iff]
    refine ⟨h2, ?_⟩
    by_cases hk : k + 1 = i
    · exact Or.inr (fun z => h4 ⟨hk, by rw [← hc]; exact z⟩)
    · exact Or.inl hk
theorem lset2_has {α : Nat → Nat → Nat} {ls : Array Slot} {nL i : Nat} {L : AL} {v : AV} (h : lv_has ls nL ((i, conc α v) :: (lvl α 0 L).filter (fun q => !(q.1 == i) && (!(q.1 == i + 1) && !(q.1 + 1 == i && q.2.category == 2))))) : lv_has ls nL (lvl α 0 (lset2 L i v)) := by
  refine ⟨h.1, h.2.1, fun q hq => h.2.2 q ?_⟩
  obtain ⟨k, u, h1, rfl⟩ := (lvl_mem _ 0).mp hq
  rw [Nat.zero_add]
  rcases lset2_get h1 with ⟨rfl, rfl⟩ | ⟨h2, h5, h3, h4⟩
  · exact List.mem_cons_self
  · refine List.mem_cons_of_mem _ (List.mem_filter.mpr ⟨(lvl_mem L 0).mpr ⟨k, u, h3, by rw [Nat.zero_add]⟩, ?_⟩)
    have hc := cat_conc α u
    simp only [Bool.and_eq_true, Bool.not_eq_true', beq_eq_false_iff_ne, Bool.and_eq_false_iff]
    refine ⟨h2, h5, ?_⟩
    by_cases hk : k + 1 = i
    · exact Or.inr (fun z => h4 ⟨hk, by rw [← hc]; exact z⟩)
    · exact Or.inl hk
theorem clr_get {j : Nat} {v : AV} : ∀ (ks : List Nat) (L : AL), (clr L ks)[j]? = some (some v) → L[j]? = some (some v)
  | [], _, h => h
  | k :: ks, L, h => by
    have h1 := clr_get ks (L.set k none) h
    by_cases hk : j = k
    · subst hk
      rw [List.getElem?_set] at h1
      simp at h1
    · rwa [List.getElem?_set_ne (Ne.symm hk)] at h1
theorem clr_len : ∀ (ks : List Nat) (L : AL), (clr L ks).length = L.length
  | [], _ => rfl
  | k :: ks, L => by
    show (clr (L.set k none) ks).length = _
    rw [clr_len ks, List.length_set]
theorem clr_has {α : Nat → Nat → Nat} {ls : Array Slot} {nL : Nat} {L : AL} (ks : List Nat) (h : lv_has ls nL (lvl α 0 L)) : lv_has ls nL (lvl α 0 (clr L ks)) := by
  refine ⟨h.1, h.2.1, fun q hq => h.2.2 q ?_⟩
  obtain ⟨k, v, h1, rfl⟩ := (lvl_mem _ 0).mp hq
  exact (lvl_mem L 0).mpr ⟨k, v, clr_get ks L h1, rfl⟩
theorem clr_ok {scr : Bool} {L : AL} (ks : List Nat) (h : ∀ v, some v ∈ L → okv scr v) : ∀ v, some v ∈ clr L ks → okv scr v := fun v hv => by
  obtain ⟨j, hj⟩ := List.getElem?_of_mem hv
  exact h v (List.mem_of_getElem? (clr_get ks L hj))
def IW (α : Nat → Nat → Nat) (cT : Nat → ClassId) (D : va_G) (s : State) (scr : Bool) (xs : Nat → Int32) (Ln : Nat) (σ : St) (H : Heap) (locs : List Loc) : Prop :=
  va_P D vwCl (wl α cT σ) H ∧ va_D (AA α s.heap.size) (wl α cT σ) ∧ va_S (AA α s.heap.size) s.heap H locs ∧ (scr = true → (∀ j, j < Ln → gI σ 497 0 j = xs j) ∧ gI σ 497 1 0 = Int32.ofNat Ln)
def CX (p : Program) (s : State) (mi : MethodId) (args : Array Value) (c : Code) (α : Nat → Nat → Nat) (cT : Nat → ClassId) (D : va_G) (adV : Nat → Nat) (scr : Bool) (xs : Nat → Int32) (Ln : Nat) (m : Nat) : Prop :=
  p.tables.exec = Jvm.exec ∧ c.code = mbt m ∧ c.maxLocals = maxL m ∧ s.vm.findClass (cnm (mcl m)) = some mi.cls ∧ (∀ w ∈ WS, w.before args s = true) ∧ KK α cT D s ∧ vk_S 12 slens sws (α 494) adV (AA α s.heap.size) s s.heap ∧
  (scr = true → va_X (α 497 0) Ln xs s s.heap ∧ α 497 0 < s.heap.size ∧ ¬ AA α s.heap.size (α 497 0) ∧ Ln < 2 ^ 31)
/-- what comes behind is sound -/
def KS (p : Program) (l : Launch) (e : Env) (R : Room) (s : State) (mi : MethodId) (args : Array Value) (below : List Frame) (meth : Method) (c : Code) (cells slots : Nat) (Q : State → Prop) (α : Nat → Nat → Nat) (cT : Nat → ClassId) (D : va_G) (scr : Bool) (xs : Nat → Int32) (Ln nL : Nat) (K : AK) (z : AR) : Prop :=
  ∀ pc L S σ, K pc L S σ = some z → (∀ v ∈ S, okv scr v) → (∀ v, some v ∈ L → okv scr v) → L.length = nL → ∀ H locs ls, IW α cT D s scr xs Ln σ H locs → lv_has ls nL (lvl α 0 L) →
    W p l e R s mi args below meth c H locs cells slots Q (F0 mi pc ls (S.map (conc α)))
section SND
variable {p : Program} {l : Launch} {e : Env} {R : Room} {s : State} {mi : MethodId} {args : Array Value} {below : List Frame} {meth : Method} {c : Code} {cells slots : Nat} {Q : State → Prop} {α : Nat → Nat → Nat} {cT : Nat → ClassId} {D : va_G} {adV : Nat → Nat} {scr : Bool} {xs : Nat → Int32} {Ln m : Nat} {K : AK} {z : AR}
variable {pc : Nat} {L : AL} {S : List AV} {σ : St} {H : Heap} {locs : List Loc} {ls : Array Slot}
theorem okS_cons {v : AV} (hv : okv scr v) (hS : ∀ u ∈ S, okv scr u) : ∀ u ∈ (v :: S), okv scr u := fun u hu => (List.mem_cons.mp hu).elim (fun h => by rw [h]; exact hv) (hS u)
theorem okS_tail {v : AV} (hS : ∀ u ∈ (v :: S), okv scr u) : ∀ u ∈ S, okv scr u := fun u hu => hS u (List.mem_cons_of_mem _ hu)
theorem okL_set1 {i : Nat} {v : AV} (hL : ∀ v, some v ∈ L → okv scr v) (hv : okv scr v) : ∀ u, some u ∈ lset1 L i v → okv scr u := by
  intro u hu
  obtain ⟨j, hj⟩ := List.getElem?_of_mem hu
  rcases lset1_get hj with ⟨-, rfl⟩ | ⟨-, h, -⟩
  · exact hv
  · exact hL u (List.mem_of_getElem? h)
theorem okL_set2 {i : Nat} {v : AV} (hL : ∀ v, some v ∈ L → okv scr v) (hv : okv scr v) : ∀ u, some u ∈ lset2 L i v → okv scr u := by
  intro u hu
  obtain ⟨j, hj⟩ := List.getElem?_of_mem hu
  rcases lset2_get hj with ⟨-, rfl⟩ | ⟨-, -, h, -⟩
  · exact hv
  · exact hL u (List.mem_of_getElem? h)
theorem snd_ldI (hx : p.tables.exec = Jvm.exec) (hb : c.code = mbt m) (hK : KS p l e R s mi args below meth c cells slots Q α cT D scr xs Ln (maxL m) K z) {len i : Nat} (hd : (decode (mbt m) pc = .ok (.iload i, 2) ∧ len = 2) ∨ (∃ k : Fin 4, decode (mbt m) pc = .ok (.iload_n k, 1) ∧ k.val = i ∧ len = 1))
    (h : ldI K (pc + len) L S σ i = some z) (hS : ∀ v ∈ S, okv scr v) (hL : ∀ v, some v ∈ L → okv scr v) (hn : L.length = maxL m) (hI : IW α cT D s scr xs Ln σ H locs) (hl : lv_has ls (maxL m) (lvl α 0 L)) : W p l e R s mi args below meth c H locs cells slots Q (F0 mi pc ls (S.map (conc α))) := by
  unfold ldI at h
  split at h
  · next x hx2 =>
    have hg := lvl_get hl hx2
    have kk := hK _ _ _ _ h (okS_cons trivial hS) hL hn H locs ls hI hl
    rcases hd with ⟨hd, rfl⟩ | ⟨k, hd, hk, rfl⟩
    · exact lv_iload hx hb hd hg kk
    · exact lv_iload_n hx hb hd hk hg kk
  · cases h
theorem snd_ldL (hx : p.tables.exec = Jvm.exec) (hb : c.code = mbt m) (hK : KS p l e R s mi args below meth c cells slots Q α cT D scr xs Ln (maxL m) K z) {len i : Nat} (hd : (decode (mbt m) pc = .ok (.lload i, 2) ∧ len = 2) ∨ (∃ k : Fin 4, decode (mbt m) pc = .ok (.lload_n k, 1) ∧ k.val = i ∧ len = 1))
    (h : ldL K (pc + len) L S σ i = some z) (hS : ∀ v ∈ S, okv scr v) (hL : ∀ v, some v ∈ L → okv scr v) (hn : L.length = maxL m) (hI : IW α cT D s scr xs Ln σ H locs) (hl : lv_has ls (maxL m) (lvl α 0 L)) : W p l e R s mi args below meth c H locs cells slots Q (F0 mi pc ls (S.map (conc α))) := by
  unfold ldL at h
  split at h
  · next x hx2 =>
    have hg := lvl_get hl hx2
    have kk := hK _ _ _ _ h (okS_cons trivial hS) hL hn H locs ls hI hl
    rcases hd with ⟨hd, rfl⟩ | ⟨k, hd, hk, rfl⟩
    · exact lv_lload hx hb hd hg kk
    · exact lv_lload_n hx hb hd hk hg kk
  · cases h
theorem snd_ldA (hx : p.tables.exec = Jvm.exec) (hb : c.code = mbt m) (hK : KS p l e R s mi args below meth c cells slots Q α cT D scr xs Ln (maxL m) K z) {len i : Nat} (hd : (decode (mbt m) pc = .ok (.aload i, 2) ∧ len = 2) ∨ (∃ k : Fin 4, decode (mbt m) pc = .ok (.aload_n k, 1) ∧ k.val = i ∧ len = 1))
    (h : ldA K (pc + len) L S σ i = some z) (hS : ∀ v ∈ S, okv scr v) (hL : ∀ v, some v ∈ L → okv scr v) (hn : L.length = maxL m) (hI : IW α cT D s scr xs Ln σ H locs) (hl : lv_has ls (maxL m) (lvl α 0 L)) : W p l e R s mi args below meth c H locs cells slots Q (F0 mi pc ls (S.map (conc α))) := by
  unfold ldA at h
  split at h
  · next q hx2 =>
    have hg := lvl_get hl hx2
    have hq : okv scr (.inr (.inr q)) := hL _ (List.mem_of_getElem? hx2)
    have kk := hK _ _ _ _ h (okS_cons hq hS) hL hn H locs ls hI hl
    rcases hd with ⟨hd, rfl⟩ | ⟨k, hd, hk, rfl⟩
    · exact lv_aload hx hb hd hg kk
    · exact lv_aload_n hx hb hd hk hg kk
  · cases h
theorem snd_stI (hx : p.tables.exec = Jvm.exec) (hb : c.code = mbt m) (hK : KS p l e R s mi args below meth c cells slots Q α cT D scr xs Ln (maxL m) K z) {len i : Nat} (hd : (decode (mbt m) pc = .ok (.istore i, 2) ∧ len = 2) ∨ (∃ k : Fin 4, decode (mbt m) pc = .ok (.istore_n k, 1) ∧ k.val = i ∧ len = 1))
    (h : stI K (pc + len) L S σ i = some z) (hS : ∀ v ∈ S, okv scr v) (hL : ∀ v, some v ∈ L → okv scr v) (hn : L.length = maxL m) (hI : IW α cT D s scr xs Ln σ H locs) (hl : lv_has ls (maxL m) (lvl α 0 L)) : W p l e R s mi args below meth c H locs cells slots Q (F0 mi pc ls (S.map (conc α))) := by
  unfold stI at h
  split at h
  · next x S' =>
    cases hlt : Nat.blt i L.length
    · rw [hlt] at h; cases h
    · rw [hlt] at h
      have hi : i < maxL m := by rw [← hn]; exact Nat.le_of_ble_eq_true hlt
      have kk := fun ls' hl' => hK _ _ _ _ h (fun v hv => hS v (List.mem_cons_of_mem _ hv)) (okL_set1 hL (v := .inl x) trivial) (by rw [lset1_len]; exact hn) H locs ls' hI (lset1_has (v := .inl x) hl')
      rcases hd with ⟨hd, rfl⟩ | ⟨k, hd, hk, rfl⟩
      · exact lv_istore hx hb hd hl hi rfl kk
      · exact lv_istore_n hx hb hd hk hl hi rfl kk
  · cases h
theorem snd_stL (hx : p.tables.exec = Jvm.exec) (hb : c.code = mbt m) (hK : KS p l e R s mi args below meth c cells slots Q α cT D scr xs Ln (maxL m) K z) {len i : Nat} (hd : (decode (mbt m) pc = .ok (.lstore i, 2) ∧ len = 2) ∨ (∃ k : Fin 4, decode (mbt m) pc = .ok (.lstore_n k, 1) ∧ k.val = i ∧ len = 1))
    (h : stL K (pc + len) L S σ i = some z) (hS : ∀ v ∈ S, okv scr v) (hL : ∀ v, some v ∈ L → okv scr v) (hn : L.length = maxL m) (hI : IW α cT D s scr xs Ln σ H locs) (hl : lv_has ls (maxL m) (lvl α 0 L)) : W p l e R s mi args below meth c H locs cells slots Q (F0 mi pc ls (S.map (conc α))) := by
  unfold stL at h
  split at h
  · next x S' =>
    cases hlt : Nat.blt (i + 1) L.length
    · rw [hlt] at h; cases h
    · rw [hlt] at h
      have hi : i + 1 < maxL m := by rw [← hn]; exact Nat.le_of_ble_eq_true hlt
      have kk := fun ls' hl' => hK _ _ _ _ h (fun v hv => hS v (List.mem_cons_of_mem _ hv)) (okL_set2 hL (v := .inr (.inl x)) trivial) (by rw [lset2_len]; exact hn) H locs ls' hI (lset2_has (v := .inr (.inl x)) hl')
      rcases hd with ⟨hd, rfl⟩ | ⟨k, hd, hk, rfl⟩
      · exact lv_lstore hx hb hd hl hi rfl kk
      · exact lv_lstore_n hx hb hd hk hl hi rfl kk
  · cases h
theorem snd_stA (hx : p.tables.exec = Jvm.exec) (hb : c.code = mbt m) (hK : KS p l e R s mi args below meth c cells slots Q α cT D scr xs Ln (maxL m) K z) {len i : Nat} (hd : (decode (mbt m) pc = .ok (.astore i, 2) ∧ len = 2) ∨ (∃ k : Fin 4, decode (mbt m) pc = .ok (.astore_n k, 1) ∧ k.val = i ∧ len = 1))
    (h : stA K (pc + len) L S σ i = some z) (hS : ∀ v ∈ S, okv scr v) (hL : ∀ v, some v ∈ L → okv scr v) (hn : L.length = maxL m) (hI : IW α cT D s scr xs Ln σ H locs) (hl : lv_has ls (maxL m) (lvl α 0 L)) : W p l e R s mi args below meth c H locs cells slots Q (F0 mi pc ls (S.map (conc α))) := by
  unfold stA at h
  split at h
  · next q S' =>
    cases hlt : Nat.blt i L.length
    · rw [hlt] at h; cases h
    · rw [hlt] at h
      have hi : i < maxL m := by rw [← hn]; exact Nat.le_of_ble_eq_true hlt
      have hq : okv scr (.inr (.inr q)) := hS _ List.mem_cons_self
      have kk := fun ls' hl' => hK _ _ _ _ h (fun v hv => hS v (List.mem_cons_of_mem _ hv)) (okL_set1 hL hq) (by rw [lset1_len]; exact hn) H locs ls' hI (lset1_has (v := .inr (.inr q)) hl')
      rcases hd with ⟨hd, rfl⟩ | ⟨k, hd, hk, rfl⟩
      · exact lv_astore hx hb hd hl hi rfl kk
      · exact lv_astore_n hx hb hd hk hl hi rfl kk
  · cases h
end SND
end
section
/-! arithmetic, branches, constants -/
section SND2
variable {p : Program} {l : Launch} {e : Env} {R : Room} {s : State} {mi : MethodId} {args : Array Value} {below : List Frame} {meth : Method} {c : Code} {cells slots : Nat} {Q : State → Prop} {α : Nat → Nat → Nat} {cT : Nat → ClassId} {D : va_G} {adV : Nat → Nat} {scr : Bool} {xs : Nat → Int32} {Ln m : Nat} {K : AK} {z : AR}
variable {pc : Nat} {L : AL} {S : List AV} {σ : St} {H : Heap} {locs : List Loc} {ls : Array Slot}
theorem snd_biI (hK : KS p l e R s mi args below meth c cells slots Q α cT D scr xs Ln (maxL m) K z) {f : Int32 → Int32 → Int32}
    (hop : ∀ (x y : Int32) (rest : List Value), W p l e R s mi args below meth c H locs cells slots Q (F0 mi (pc + 1) ls (.int (f x y) :: rest)) → W p l e R s mi args below meth c H locs cells slots Q (F0 mi pc ls (.int y :: .int x :: rest)))
    (h : biI K (pc + 1) L S σ f = some z) (hS : ∀ v ∈ S, okv scr v) (hL : ∀ v, some v ∈ L → okv scr v) (hn : L.length = maxL m) (hI : IW α cT D s scr xs Ln σ H locs) (hl : lv_has ls (maxL m) (lvl α 0 L)) : W p l e R s mi args below meth c H locs cells slots Q (F0 mi pc ls (S.map (conc α))) := by
  unfold biI at h
  split at h
  · exact hop _ _ _ (hK _ _ _ _ h (okS_cons trivial (okS_tail (okS_tail hS))) hL hn H locs ls hI hl)
  · cases h
theorem snd_biL (hK : KS p l e R s mi args below meth c cells slots Q α cT D scr xs Ln (maxL m) K z) {f : Int64 → Int64 → Int64}
    (hop : ∀ (x y : Int64) (rest : List Value), W p l e R s mi args below meth c H locs cells slots Q (F0 mi (pc + 1) ls (.long (f x y) :: rest)) → W p l e R s mi args below meth c H locs cells slots Q (F0 mi pc ls (.long y :: .long x :: rest)))
    (h : biL K (pc + 1) L S σ f = some z) (hS : ∀ v ∈ S, okv scr v) (hL : ∀ v, some v ∈ L → okv scr v) (hn : L.length = maxL m) (hI : IW α cT D s scr xs Ln σ H locs) (hl : lv_has ls (maxL m) (lvl α 0 L)) : W p l e R s mi args below meth c H locs cells slots Q (F0 mi pc ls (S.map (conc α))) := by
  unfold biL at h
  split at h
  · exact hop _ _ _ (hK _ _ _ _ h (okS_cons trivial (okS_tail (okS_tail hS))) hL hn H locs ls hI hl)
  · cases h
theorem snd_dvI (hK : KS p l e R s mi args below meth c cells slots Q α cT D scr xs Ln (maxL m) K z) {f : Int32 → Int32 → Int32}
    (hop : ∀ (x y : Int32) (rest : List Value), ¬ y = 0 → W p l e R s mi args below meth c H locs cells slots Q (F0 mi (pc + 1) ls (.int (f x y) :: rest)) → W p l e R s mi args below meth c H locs cells slots Q (F0 mi pc ls (.int y :: .int x :: rest)))
    (h : dvI K (pc + 1) L S σ f = some z) (hS : ∀ v ∈ S, okv scr v) (hL : ∀ v, some v ∈ L → okv scr v) (hn : L.length = maxL m) (hI : IW α cT D s scr xs Ln σ H locs) (hl : lv_has ls (maxL m) (lvl α 0 L)) : W p l e R s mi args below meth c H locs cells slots Q (F0 mi pc ls (S.map (conc α))) := by
  unfold dvI at h
  split at h
  · split at h
    · cases h
    · next hy => exact hop _ _ _ hy (hK _ _ _ _ h (okS_cons trivial (okS_tail (okS_tail hS))) hL hn H locs ls hI hl)
  · cases h
theorem snd_dvL (hK : KS p l e R s mi args below meth c cells slots Q α cT D scr xs Ln (maxL m) K z) {f : Int64 → Int64 → Int64}
    (hop : ∀ (x y : Int64) (rest : List Value), ¬ y = 0 → W p l e R s mi args below meth c H locs cells slots Q (F0 mi (pc + 1) ls (.long (f x y) :: rest)) → W p l e R s mi args below meth c H locs cells slots Q (F0 mi pc ls (.long y :: .long x :: rest)))
    (h : dvL K (pc + 1) L S σ f = some z) (hS : ∀ v ∈ S, okv scr v) (hL : ∀ v, some v ∈ L → okv scr v) (hn : L.length = maxL m) (hI : IW α cT D s scr xs Ln σ H locs) (hl : lv_has ls (maxL m) (lvl α 0 L)) : W p l e R s mi args below meth c H locs cells slots Q (F0 mi pc ls (S.map (conc α))) := by
  unfold dvL at h
  split at h
  · split at h
    · cases h
    · next hy => exact hop _ _ _ hy (hK _ _ _ _ h (okS_cons trivial (okS_tail (okS_tail hS))) hL hn H locs ls hI hl)
  · cases h
theorem snd_br1 (hx : p.tables.exec = Jvm.exec) (hb : c.code = mbt m) (hK : KS p l e R s mi args below meth c cells slots Q α cT D scr xs Ln (maxL m) K z) {cd : ClassFile.Cond} {off : Int} {t : Nat} (hd : decode (mbt m) pc = .ok (.ifCond cd off, 3)) (ht : (pc : Int) + off = (t : Int))
    (h : br1 K (pc + 3) t L S σ cd = some z) (hS : ∀ v ∈ S, okv scr v) (hL : ∀ v, some v ∈ L → okv scr v) (hn : L.length = maxL m) (hI : IW α cT D s scr xs Ln σ H locs) (hl : lv_has ls (maxL m) (lvl α 0 L)) : W p l e R s mi args below meth c H locs cells slots Q (F0 mi pc ls (S.map (conc α))) := by
  unfold br1 at h
  split at h
  · next x S' =>
    have kk : ∀ pc', K pc' L S' σ = some z → W p l e R s mi args below meth c H locs cells slots Q (F0 mi pc' ls (S'.map (conc α))) := fun pc' h' => hK _ _ _ _ h' (okS_tail hS) hL hn H locs ls hI hl
    split at h
    · refine lv_if_eq hx hb hd ht (fun q => kk _ ?_) (fun q => kk _ ?_)
      · rw [if_pos q] at h; exact h
      · rw [if_neg q] at h; exact h
    · refine lv_if_ne hx hb hd ht (fun q => kk _ ?_) (fun q => kk _ ?_)
      · rw [if_neg q] at h; exact h
      · rw [if_pos q] at h; exact h
    · refine lv_if_lt hx hb hd ht (fun q => kk _ ?_) (fun q => kk _ ?_)
      · rw [if_pos q] at h; exact h
      · rw [if_neg q] at h; exact h
    · refine lv_if_ge hx hb hd ht (fun q => kk _ ?_) (fun q => kk _ ?_)
      · rw [if_neg (Int32.not_lt.mpr q)] at h; exact h
      · rw [if_pos (Int32.not_le.mp q)] at h; exact h
    · refine lv_if_gt hx hb hd ht (fun q => kk _ ?_) (fun q => kk _ ?_)
      · rw [if_neg (Int32.not_le.mpr q)] at h; exact h
      · rw [if_pos (Int32.not_lt.mp q)] at h; exact h
    · refine lv_if_le hx hb hd ht (fun q => kk _ ?_) (fun q => kk _ ?_)
      · rw [if_pos q] at h; exact h
      · rw [if_neg q] at h; exact h
  · cases h
theorem snd_br2 (hx : p.tables.exec = Jvm.exec) (hb : c.code = mbt m) (hK : KS p l e R s mi args below meth c cells slots Q α cT D scr xs Ln (maxL m) K z) {cd : ClassFile.Cond} {off : Int} {t : Nat} (hd : decode (mbt m) pc = .ok (.if_icmp cd off, 3)) (ht : (pc : Int) + off = (t : Int))
    (h : br2 K (pc + 3) t L S σ cd = some z) (hS : ∀ v ∈ S, okv scr v) (hL : ∀ v, some v ∈ L → okv scr v) (hn : L.length = maxL m) (hI : IW α cT D s scr xs Ln σ H locs) (hl : lv_has ls (maxL m) (lvl α 0 L)) : W p l e R s mi args below meth c H locs cells slots Q (F0 mi pc ls (S.map (conc α))) := by
  unfold br2 at h
  split at h
  · next y x S' =>
    have kk : ∀ pc', K pc' L S' σ = some z → W p l e R s mi args below meth c H locs cells slots Q (F0 mi pc' ls (S'.map (conc α))) := fun pc' h' => hK _ _ _ _ h' (okS_tail (okS_tail hS)) hL hn H locs ls hI hl
    split at h
    · refine lv_icmp_eq hx hb hd ht (fun q => kk _ ?_) (fun q => kk _ ?_)
      · rw [if_pos q] at h; exact h
      · rw [if_neg q] at h; exact h
    · refine lv_icmp_ne hx hb hd ht (fun q => kk _ ?_) (fun q => kk _ ?_)
      · rw [if_neg q] at h; exact h
      · rw [if_pos q] at h; exact h
    · refine lv_icmp_lt hx hb hd ht (fun q => kk _ ?_) (fun q => kk _ ?_)
      · rw [if_pos q] at h; exact h
      · rw [if_neg q] at h; exact h
    · refine lv_icmp_ge hx hb hd ht (fun q => kk _ ?_) (fun q => kk _ ?_)
      · rw [if_neg (Int32.not_lt.mpr q)] at h; exact h
      · rw [if_pos (Int32.not_le.mp q)] at h; exact h
    · refine lv_icmp_gt hx hb hd ht (fun q => kk _ ?_) (fun q => kk _ ?_)
      · rw [if_neg (Int32.not_le.mpr q)] at h; exact h
      · rw [if_pos (Int32.not_lt.mp q)] at h; exact h
    · refine lv_icmp_le hx hb hd ht (fun q => kk _ ?_) (fun q => kk _ ?_)
      · rw [if_pos q] at h; exact h
      · rw [if_neg q] at h; exact h
  · cases h
/-- the tables of types -/
theorem tyl_at {t : Nat} {ty : FieldType} (h : atg.any (fun e => decide (e = (t, ty))) = true) : ∃ t0 : Nat, (tyl cT)[t0]? = some (cT t, ty) := by
  obtain ⟨q, hq, hd⟩ := List.any_eq_true.mp h
  have hd := of_decide_eq_true hd
  subst hd
  exact List.getElem?_of_mem (List.mem_map.mpr ⟨_, hq, rfl⟩)
theorem tag_of {t i : Nat} (h : (t, i) ∈ dom) : tagok t = true ∧ t ≠ 497 ∧ t ≠ 494 := by
  have h1 := List.all_eq_true.mp dom_tags _ h
  simp only [Bool.and_eq_true, Bool.not_eq_true'] at h1
  refine ⟨h1.1.1, fun q => ?_, fun q => ?_⟩
  · have h2 := h1.1.2; rw [q] at h2; simp at h2
  · have h2 := h1.2; rw [q] at h2; simp at h2
theorem okr_dom {t i : Nat} (h : okr scr (t, i)) (h1 : t ≠ 497) (h2 : t ≠ 494) : (t, i) ∈ dom := by
  rcases h with h | ⟨h, -⟩ | ⟨-, h⟩
  · exact h
  · exact absurd h h2
  · cases h; exact absurd rfl h1
theorem inb_of {j : Int32} {n : Nat} {k : Nat → Option AR} (h : ix j n k = some z) : vp_in j n ∧ k j.toNatClampNeg = some z := by
  unfold ix at h
  split at h
  · cases h
  · next hj => exact ⟨hj, h⟩
end SND2
end
section
/-! fields and arrays -/
def uwok (w : Cond) : Bool := goodWord w && (List.range 11).any (fun j => (tbj j).any (fun x => decide (x = w)))
theorem uw_all : (List.range 13).all (fun k => (u_ws (Tc k).1 (Tc k).2.1 (Tc k).2.2).all uwok) = true := by decide +kernel
theorem uw_in {k : Nat} (hk : k < 13) : ∀ w ∈ u_ws (Tc k).1 (Tc k).2.1 (Tc k).2.2, w ∈ WS := by
  intro w hw
  have h1 := List.all_eq_true.mp (List.all_eq_true.mp uw_all k (List.mem_range.mpr hk)) w hw
  unfold uwok at h1
  rw [Bool.and_eq_true] at h1
  obtain ⟨j, -, hj⟩ := List.any_eq_true.mp h1.2
  obtain ⟨x, hx, hd⟩ := List.any_eq_true.mp hj
  have hd := of_decide_eq_true hd
  subst hd
  exact WS_in (tbj_in hx) h1.1
theorem Tc_at {k : Nat} (hk : k < 13) : vwCl[k]? = some ((Tc k).1, (Tc k).2.1, (Tc k).2.2) := by
  match k, hk with
  | 0, _ => rfl
  | 1, _ => rfl
  | 2, _ => rfl
  | 3, _ => rfl
  | 4, _ => rfl
  | 5, _ => rfl
  | 6, _ => rfl
  | 7, _ => rfl
  | 8, _ => rfl
  | 9, _ => rfl
  | 10, _ => rfl
  | 11, _ => rfl
  | 12, _ => rfl
  | n + 13, h => omega
theorem Tc_ty {k : Nat} (hk : k < 13) : ∃ ty0 : Nat → FieldType, (∀ a, a < (Tc k).2.2 → parseFieldDescriptor ((Tc k).2.1 a).2.2.1 = some (ty0 a)) ∧ ∀ a, a < (Tc k).2.2 → ∀ b, b < (Tc k).2.2 → a ≠ b → ((Tc k).2.1 a).2.1 ≠ ((Tc k).2.1 b).2.1 := by
  match k, hk with
  | 0, _ => exact ⟨tyX0, tyX0_ok, nmX0⟩
  | 1, _ => exact ⟨tyX1, tyX1_ok, nmX1⟩
  | 2, _ => exact ⟨tyX2, tyX2_ok, nmX2⟩
  | 3, _ => exact ⟨tyX3, tyX3_ok, nmX3⟩
  | 4, _ => exact ⟨tyX4, tyX4_ok, nmX4⟩
  | 5, _ => exact ⟨tyX5, tyX5_ok, nmX5⟩
  | 6, _ => exact ⟨tyX6, tyX6_ok, nmX6⟩
  | 7, _ => exact ⟨tyX7, tyX7_ok, nmX7⟩
  | 8, _ => exact ⟨tyX8, tyX8_ok, nmX8⟩
  | 9, _ => exact ⟨tyX9, tyX9_ok, nmX9⟩
  | 10, _ => exact ⟨tyX10, tyX10_ok, nmX10⟩
  | 11, _ => exact ⟨tyX11, tyX11_ok, nmX11⟩
  | 12, _ => exact ⟨tyX12, tyX12_ok, nmX12⟩
  | n + 13, h => omega
def fkok (c k : Nat) : Bool := match (fkd c k).1 with
  | 0 => decide (parseFieldDescriptor ((Tc c).2.1 k).2.2.1 = some .int ∧ ((Tc c).2.1 k).2.2.2 = false)
  | 1 => decide (parseFieldDescriptor ((Tc c).2.1 k).2.2.1 = some .long ∧ ((Tc c).2.1 k).2.2.2 = false)
  | 3 => decide (parseFieldDescriptor ((Tc c).2.1 k).2.2.1 = some .boolean ∧ ((Tc c).2.1 k).2.2.2 = false)
  | _ => true
theorem fk_all : (List.range 13).all (fun c => (List.range (Tc c).2.2).all (fkok c)) = true := by decide +kernel
theorem fk_at {c k : Nat} (hc : c < 13) (hk : k < (Tc c).2.2) : fkok c k = true := List.all_eq_true.mp (List.all_eq_true.mp fk_all c (List.mem_range.mpr hc)) k (List.mem_range.mpr hk)
theorem fl_at {m idx c k : Nat} (h : fls.any (fun e => Nat.beq e.1 (mcl m) && Nat.beq e.2.1 idx && Nat.beq e.2.2.1 c && Nat.beq e.2.2.2.1 k) = true) : c < 13 ∧ k < (Tc c).2.2 ∧ Cond.fieldLink (cnm (mcl m)) idx ((Tc c).2.1 k).1 ((Tc c).2.1 k).2.1 ((Tc c).2.1 k).2.2.1 ∈ WS := by
  obtain ⟨q, hq, hd⟩ := List.any_eq_true.mp h
  simp only [Bool.and_eq_true] at hd
  obtain ⟨⟨⟨h1, h2⟩, h3⟩, h4⟩ := hd
  have h1 := Nat.eq_of_beq_eq_true h1
  have h2 := Nat.eq_of_beq_eq_true h2
  have h3 := Nat.eq_of_beq_eq_true h3
  have h4 := Nat.eq_of_beq_eq_true h4
  have ho := List.all_eq_true.mp okf_all q hq
  unfold okf at ho
  rw [Bool.and_eq_true, h1, h2, h3, h4] at ho
  have ho2 := of_decide_eq_true ho.2
  exact ⟨ho2.2, ho2.1, WS_in (inT_mem ho.1) rfl⟩
theorem tag_obj {c : Nat} (hc : c < 13) : lk (8 * c) = 0 ∧ 8 * c / 8 = c ∧ 8 * c ≠ 497 ∧ 8 * c ≠ 494 := by
  refine ⟨by unfold lk; omega, by omega, by omega, by omega⟩
end
section
section SND3
variable {p : Program} {l : Launch} {e : Env} {R : Room} {s : State} {mi : MethodId} {args : Array Value} {below : List Frame} {meth : Method} {c : Code} {cells slots : Nat} {Q : State → Prop} {α : Nat → Nat → Nat} {cT : Nat → ClassId} {D : va_G} {adV : Nat → Nat} {scr : Bool} {xs : Nat → Int32} {Ln m : Nat} {K : AK} {z : AR}
variable {pc : Nat} {L : AL} {S : List AV} {σ : St} {H : Heap} {locs : List Loc} {ls : Array Slot}
theorem ce_obj {cc i : Nat} (hc : cc < 13) : ce α cT σ (8 * cc) i = .inr (cc, fvs α σ (8 * cc) i) := by
  obtain ⟨h1, h2, -⟩ := tag_obj hc
  unfold ce
  rw [h1]
  show Sum.inr (8 * cc / 8, _) = _
  rw [h2]
theorem snd_gtF (X : CX p s mi args c α cT D adV scr xs Ln m) (hK : KS p l e R s mi args below meth c cells slots Q α cT D scr xs Ln (maxL m) K z) {idx : Nat} {ys : List Nat} (hd : decode (mbt m) pc = .ok (.getfield idx, 3)) (hok : okfl m idx ys false = true)
    (h : gtF K (pc + 3) L S σ ys = some z) (hS : ∀ v ∈ S, okv scr v) (hL : ∀ v, some v ∈ L → okv scr v) (hn : L.length = maxL m) (hI : IW α cT D s scr xs Ln σ H locs) (hl : lv_has ls (maxL m) (lvl α 0 L)) : W p l e R s mi args below meth c H locs cells slots Q (F0 mi pc ls (S.map (conc α))) := by
  obtain ⟨hx, hb, -, hown, hts, hKK, -, -⟩ := X
  unfold gtF at h
  split at h
  · next t i S' c1 k d =>
    unfold okfl at hok
    rw [Bool.and_eq_true] at hok
    obtain ⟨hfl, hdd⟩ := hok
    have hdd := of_decide_eq_true hdd
    obtain ⟨hc, hk, hlk⟩ := fl_at hfl
    cases hbq : Nat.beq t (8 * c1)
    · rw [hbq] at h; cases h
    · rw [hbq] at h
      have ht := Nat.eq_of_beq_eq_true hbq
      subst ht
      obtain ⟨g1, g2, g3, g4⟩ := tag_obj hc
      have hin : (8 * c1, i) ∈ dom := okr_dom (hS _ List.mem_cons_self) g3 g4
      obtain ⟨q0, hq0⟩ := dom_at hin
      have htg := (tag_of hin).1
      unfold tagok at htg
      rw [g1] at htg
      have htg := of_decide_eq_true htg
      rw [g2] at htg
      have hat := wl_at (α := α) (cT := cT) (σ := σ) hq0
      rw [ce_obj hc] at hat
      have hfv := fvs_at (α := α) (σ := σ) (t := 8 * c1) (i := i) (k := k) (by rw [g2, htg.2.2]; exact hk)
      rw [g2] at hfv
      have kk : ∀ v : AV, okv scr v → K (pc + 3) L (v :: S') σ = some z → fv α σ (8 * c1) i k (fkd c1 k) = conc α v → W p l e R s mi args below meth c H locs cells slots Q (F0 mi pc ls ((Sum.inr (Sum.inr (8 * c1, i)) :: S').map (conc α))) := by
        intro v hv hz hf
        rw [hf] at hfv
        exact va_get (ci := c1) (v := conc α v) hx hb hts (uw_in hc) hown hKK.1 hI.1 q0 hat (Tc_at hc) k hk (hts _ hlk) (fun _ h9 => h9) hfv hd (hK _ _ _ _ hz (okS_cons hv (okS_tail hS)) hL hn H locs ls hI hl)
      simp only [cond_true] at h
      split at h
      · refine kk (.inr (.inl (gL σ (8 * c1) i k))) trivial h ?_
        unfold fv
        rw [hdd.1]
        rfl
      · next d' hd1 =>
        refine kk (.inl (gI σ (8 * c1) i k)) trivial h ?_
        unfold fv
        split
        · next q => exact (hd1 (hdd.1.symm.trans q)).elim
        · next q => exact absurd (hdd.1.symm.trans q) hdd.2.1
        · rfl
  · next t i S' c1 k t' f b =>
    unfold okfl at hok
    rw [Bool.and_eq_true] at hok
    obtain ⟨hfl, hdd⟩ := hok
    have hdd := of_decide_eq_true hdd
    obtain ⟨hc, hk, hlk⟩ := fl_at hfl
    cases hbq : Nat.beq t (8 * c1)
    · rw [hbq] at h; cases h
    · rw [hbq] at h
      have ht := Nat.eq_of_beq_eq_true hbq
      subst ht
      obtain ⟨g1, g2, g3, g4⟩ := tag_obj hc
      have hin : (8 * c1, i) ∈ dom := okr_dom (hS _ List.mem_cons_self) g3 g4
      obtain ⟨q0, hq0⟩ := dom_at hin
      have htg := (tag_of hin).1
      unfold tagok at htg
      rw [g1] at htg
      have htg := of_decide_eq_true htg
      rw [g2] at htg
      have hat := wl_at (α := α) (cT := cT) (σ := σ) hq0
      rw [ce_obj hc] at hat
      have hfv := fvs_at (α := α) (σ := σ) (t := 8 * c1) (i := i) (k := k) (by rw [g2, htg.2.2]; exact hk)
      rw [g2] at hfv
      have hfe : fv α σ (8 * c1) i k (fkd c1 k) = conc α (.inr (.inr (t', lfi f b i))) := by
        unfold fv
        rw [hdd.1]
        rfl
      rw [hfe] at hfv
      have hrf := List.all_eq_true.mp dom_refs _ hin
      unfold refsok at hrf
      rw [g1] at hrf
      have hrf := List.all_eq_true.mp hrf k (List.mem_range.mpr (by show k < (fds.getD (8 * c1 / 8) []).length; rw [g2, htg.2.2]; exact hk))
      have hrf : (match fkd (8 * c1 / 8) k with
        | (2, t', f, b) => dom.contains (t', lfi f b i)
        | _ => true) = true := hrf
      rw [g2, hdd.1] at hrf
      have hmem : (t', lfi f b i) ∈ dom := by simpa using hrf
      exact va_get (ci := c1) (v := conc α (.inr (.inr (t', lfi f b i)))) hx hb hts (uw_in hc) hown hKK.1 hI.1 q0 hat (Tc_at hc) k hk (hts _ hlk) (fun _ h9 => h9) hfv hd (hK _ _ _ _ h (okS_cons (Or.inl hmem) (okS_tail hS)) hL hn H locs ls hI hl)
  · cases h
theorem IW_sI {t i k : Nat} {x : Int32} {H1 : Heap} {locs1 : List Loc} (hI : IW α cT D s scr xs Ln σ H locs) (ht : t ≠ 497) (h1 : va_P D vwCl (wl α cT (sI σ t i k x)) H1) (h2 : va_D (AA α s.heap.size) (wl α cT (sI σ t i k x))) (h3 : va_S (AA α s.heap.size) s.heap H1 locs1) : IW α cT D s scr xs Ln (sI σ t i k x) H1 locs1 :=
  ⟨h1, h2, h3, fun hs => ⟨fun j hj => by rw [gI_sI, if_neg (fun z => ht z.1.symm)]; exact (hI.2.2.2 hs).1 j hj, by rw [gI_sI, if_neg (fun z => ht z.1.symm)]; exact (hI.2.2.2 hs).2⟩⟩
theorem IW_sL {t i k : Nat} {x : Int64} {H1 : Heap} {locs1 : List Loc} (hI : IW α cT D s scr xs Ln σ H locs) (h1 : va_P D vwCl (wl α cT (sL σ t i k x)) H1) (h2 : va_D (AA α s.heap.size) (wl α cT (sL σ t i k x))) (h3 : va_S (AA α s.heap.size) s.heap H1 locs1) : IW α cT D s scr xs Ln (sL σ t i k x) H1 locs1 :=
  ⟨h1, h2, h3, fun hs => ⟨fun j hj => (hI.2.2.2 hs).1 j hj, (hI.2.2.2 hs).2⟩⟩
theorem bool01 {x : Int32} (h : x = 0 ∨ x = 1) : narrow .boolean (.int x) = .int x ∧ fits .boolean (.int x) = true ∧ vp_nar .boolean x = x := by
  rcases h with rfl | rfl
  · exact ⟨by decide, by decide, by decide⟩
  · exact ⟨by decide, by decide, by decide⟩
theorem snd_ptF (X : CX p s mi args c α cT D adV scr xs Ln m) (hK : KS p l e R s mi args below meth c cells slots Q α cT D scr xs Ln (maxL m) K z) {idx : Nat} {ys : List Nat} (hd : decode (mbt m) pc = .ok (.putfield idx, 3)) (hok : okfl m idx ys true = true)
    (h : ptF K (pc + 3) L S σ ys = some z) (hS : ∀ v ∈ S, okv scr v) (hL : ∀ v, some v ∈ L → okv scr v) (hn : L.length = maxL m) (hI : IW α cT D s scr xs Ln σ H locs) (hl : lv_has ls (maxL m) (lvl α 0 L)) : W p l e R s mi args below meth c H locs cells slots Q (F0 mi pc ls (S.map (conc α))) := by
  obtain ⟨hx, hb, -, hown, hts, hKK, -, -⟩ := X
  unfold ptF at h
  split at h
  · next x t i S' c1 k d =>
    unfold okfl at hok
    rw [Bool.and_eq_true] at hok
    obtain ⟨hfl, hdd⟩ := hok
    have hdd := of_decide_eq_true hdd
    obtain ⟨hc, hk, hlk⟩ := fl_at hfl
    cases hbq : Nat.beq t (8 * c1)
    · rw [hbq] at h; cases h
    · rw [hbq] at h
      have ht := Nat.eq_of_beq_eq_true hbq
      subst ht
      obtain ⟨g1, g2, g3, g4⟩ := tag_obj hc
      have hin : (8 * c1, i) ∈ dom := okr_dom (hS _ (List.mem_cons_of_mem _ List.mem_cons_self)) g3 g4
      obtain ⟨q0, hq0⟩ := dom_at hin
      have htg := (tag_of hin).1
      unfold tagok at htg
      rw [g1] at htg
      have htg := of_decide_eq_true htg
      rw [g2] at htg
      have hat := wl_at (α := α) (cT := cT) (σ := σ) hq0
      rw [ce_obj hc] at hat
      obtain ⟨ty0, hty, hnm⟩ := Tc_ty hc
      have hfk := fk_at hc hk
      have hkl : k < (fvs α σ (8 * c1) i).length := by rw [fvs_len, g2, htg.2.2]; exact hk
      have go : ∀ ty : FieldType, parseFieldDescriptor ((Tc c1).2.1 k).2.2.1 = some ty → ((Tc c1).2.1 k).2.2.2 = false → narrow ty (.int x) = .int x → fits ty (.int x) = true → (fkd c1 k).1 ≠ 1 ∧ (fkd c1 k).1 ≠ 2 → K (pc + 3) L S' (sI σ (8 * c1) i k x) = some z → W p l e R s mi args below meth c H locs cells slots Q (F0 mi pc ls ((Sum.inl x :: Sum.inr (Sum.inr (8 * c1, i)) :: S').map (conc α))) := by
        intro ty h1 h2 h3 h4 h5 hz
        refine va_put (ci := c1) (v := .int x) (ty := ty) hx hb hts (uw_in hc) ty0 hty hnm hown hKK.1 hI.1 hI.2.1 hI.2.2.1 q0 hat (Tc_at hc) k hk (hts _ hlk) (fun _ h9 => h9) h2 h1 h3 h4 hkl hd (fun H1 locs1 e1 e2 e3 => ?_)
        have hset : (wl α cT σ).set q0 (α (8 * c1) i, .inr (c1, (fvs α σ (8 * c1) i).set k (.int x))) = wl α cT (sI σ (8 * c1) i k x) := wl_set hq0 (by rw [ce_obj hc, fvs_setI (by rw [g2]; exact h5)]) ce_sI
        rw [hset] at e1 e2
        exact hK _ _ _ _ hz (okS_tail (okS_tail hS)) hL hn H1 locs1 ls (IW_sI hI g3 e1 e2 e3) hl
      simp only [cond_true] at h
      unfold fkok at hfk
      split at h
      · rw [hdd.1] at hfk
        have hfk := of_decide_eq_true hfk
        exact go .int hfk.1 hfk.2 rfl rfl (by rw [hdd.1]; decide) h
      · rw [hdd.1] at hfk
        have hfk := of_decide_eq_true hfk
        split at h
        · next h01 => exact go .boolean hfk.1 hfk.2 (bool01 h01).1 (bool01 h01).2.1 (by rw [hdd.1]; decide) h
        · cases h
      · cases h
  · next x t i S' c1 k d =>
    unfold okfl at hok
    rw [Bool.and_eq_true] at hok
    obtain ⟨hfl, hdd⟩ := hok
    have hdd := of_decide_eq_true hdd
    obtain ⟨hc, hk, hlk⟩ := fl_at hfl
    cases hbq : Nat.beq t (8 * c1)
    · rw [hbq] at h; cases h
    · rw [hbq] at h
      cases hb1 : Nat.beq d 1
      · rw [hb1] at h; cases h
      · rw [hb1] at h
        have hd1 := Nat.eq_of_beq_eq_true hb1
        subst hd1
        have ht := Nat.eq_of_beq_eq_true hbq
        subst ht
        obtain ⟨g1, g2, g3, g4⟩ := tag_obj hc
        have hin : (8 * c1, i) ∈ dom := okr_dom (hS _ (List.mem_cons_of_mem _ List.mem_cons_self)) g3 g4
        obtain ⟨q0, hq0⟩ := dom_at hin
        have htg := (tag_of hin).1
        unfold tagok at htg
        rw [g1] at htg
        have htg := of_decide_eq_true htg
        rw [g2] at htg
        have hat := wl_at (α := α) (cT := cT) (σ := σ) hq0
        rw [ce_obj hc] at hat
        obtain ⟨ty0, hty, hnm⟩ := Tc_ty hc
        have hfk := fk_at hc hk
        have hkl : k < (fvs α σ (8 * c1) i).length := by rw [fvs_len, g2, htg.2.2]; exact hk
        unfold fkok at hfk
        rw [hdd.1] at hfk
        have hfk := of_decide_eq_true hfk
        refine va_put (ci := c1) (v := .long x) (ty := .long) hx hb hts (uw_in hc) ty0 hty hnm hown hKK.1 hI.1 hI.2.1 hI.2.2.1 q0 hat (Tc_at hc) k hk (hts _ hlk) (fun _ h9 => h9) hfk.2 hfk.1 rfl rfl hkl hd (fun H1 locs1 e1 e2 e3 => ?_)
        have hset : (wl α cT σ).set q0 (α (8 * c1) i, .inr (c1, (fvs α σ (8 * c1) i).set k (.long x))) = wl α cT (sL σ (8 * c1) i k x) := wl_set hq0 (by rw [ce_obj hc, fvs_setL (by rw [g2]; exact hdd.1)]) ce_sL
        rw [hset] at e1 e2
        exact hK _ _ _ _ h (okS_tail (okS_tail hS)) hL hn H1 locs1 ls (IW_sL hI e1 e2 e3) hl
  · cases h
end SND3
end
section
/-! arrays -/
section SND4
variable {p : Program} {l : Launch} {e : Env} {R : Room} {s : State} {mi : MethodId} {args : Array Value} {below : List Frame} {meth : Method} {c : Code} {cells slots : Nat} {Q : State → Prop} {α : Nat → Nat → Nat} {cT : Nat → ClassId} {D : va_G} {adV : Nat → Nat} {scr : Bool} {xs : Nat → Int32} {Ln m : Nat} {K : AK} {z : AR}
variable {pc : Nat} {L : AL} {S : List AV} {σ : St} {H : Heap} {locs : List Loc} {ls : Array Slot}
theorem lk_ty {t i k : Nat} (hin : (t, i) ∈ dom) (hk : Nat.beq (lk t) k = true) {ty : FieldType} (hkt : (k = 1 ∧ ty = .int) ∨ (k = 2 ∧ ty = .long) ∨ (k = 3 ∧ ty = .byte) ∨ (k = 4 ∧ ty = .boolean)) : ∃ t0 : Nat, (tyl cT)[t0]? = some (cT t, ty) := by
  have hk := Nat.eq_of_beq_eq_true hk
  have h := (tag_of hin).1
  unfold tagok at h
  rw [hk] at h
  rcases hkt with ⟨rfl, rfl⟩ | ⟨rfl, rfl⟩ | ⟨rfl, rfl⟩ | ⟨rfl, rfl⟩ <;> exact tyl_at h
theorem ce_int {t i k : Nat} (hk : Nat.beq (lk t) k = true) (h1 : k = 1 ∨ k = 3 ∨ k = 4) : ce α cT σ t i = .inl (cT t, ln t i, .inl (gI σ t i)) := by
  have hk := Nat.eq_of_beq_eq_true hk
  unfold ce
  rw [hk]
  rcases h1 with rfl | rfl | rfl <;> rfl
theorem ce_long {t i : Nat} (hk : Nat.beq (lk t) 2 = true) : ce α cT σ t i = .inl (cT t, ln t i, .inr (.inl (gL σ t i))) := by
  have hk := Nat.eq_of_beq_eq_true hk
  unfold ce
  rw [hk]
  rfl
theorem ce_refs {t i : Nat} (hk : Nat.beq (lk t) 5 = true) : ce α cT σ t i = .inl (cT t, ln t i, .inr (.inr (.inr (.inr (fun j => some (α (la t i j).1 (la t i j).2)))))) := by
  have hk := Nat.eq_of_beq_eq_true hk
  unfold ce
  rw [hk]
  rfl
theorem str_lk : lk 494 = 6 := rfl
theorem lk_notStr {t k : Nat} (hk : Nat.beq (lk t) k = true) (h6 : k ≠ 6) : t ≠ 494 := fun q => h6 ((Nat.eq_of_beq_eq_true hk).symm.trans (by rw [q]; exact str_lk))
theorem snd_iald (X : CX p s mi args c α cT D adV scr xs Ln m) (hK : KS p l e R s mi args below meth c cells slots Q α cT D scr xs Ln (maxL m) K z) (hd : decode (mbt m) pc = .ok (.iaload, 1)) {j : Int32} {t i : Nat} {S' : List AV} (hk : Nat.beq (lk t) 1 = true)
    (h : ix j (alen σ t i) (fun k => K (pc + 1) L (.inl (gI σ t i k) :: S') σ) = some z) (hS : ∀ v ∈ (.inl j :: .inr (.inr (t, i)) :: S' : List AV), okv scr v) (hL : ∀ v, some v ∈ L → okv scr v) (hn : L.length = maxL m) (hI : IW α cT D s scr xs Ln σ H locs) (hl : lv_has ls (maxL m) (lvl α 0 L)) : W p l e R s mi args below meth c H locs cells slots Q (F0 mi pc ls ((.inl j :: .inr (.inr (t, i)) :: S' : List AV).map (conc α))) := by
  obtain ⟨hx, hb, -, hown, hts, hKK, -, hsc⟩ := X
  obtain ⟨hj, h⟩ := inb_of h
  have kk := hK _ _ _ _ h (okS_cons trivial (okS_tail (okS_tail hS))) hL hn H locs ls hI hl
  have ho : okr scr (t, i) := hS _ (List.mem_cons_of_mem _ List.mem_cons_self)
  by_cases hts2 : t = 497
  · rcases ho with ho | ⟨ho, -⟩ | ⟨hs, ho⟩
    · exact absurd hts2 (tag_of ho).2.1
    · exact absurd ho (lk_notStr hk (by decide))
    · cases ho
      obtain ⟨hX, hbl, hbA, hLn⟩ := hsc hs
      have hal : alen σ 497 0 = Ln := by
        show (gI σ 497 1 0).toNatClampNeg = Ln
        rw [(hI.2.2.2 hs).2]
        exact nI_clamp hLn
      rw [hal] at hj
      have hlt : j.toNatClampNeg < Ln := Nat.not_le.mp fun q => hj (Or.inr q)
      have kk : W p l e R s mi args below meth c H locs cells slots Q (F0 mi (pc + 1) ls (.int (gI σ 497 0 j.toNatClampNeg) :: S'.map (conc α))) := kk
      rw [(hI.2.2.2 hs).1 _ hlt] at kk
      exact va_sld hx hb hX hbl hbA hI.2.2.1 hj hd kk
  · have hin := okr_dom ho hts2 (lk_notStr hk (by decide))
    obtain ⟨q0, hq0⟩ := dom_at hin
    have hat := wl_at (α := α) (cT := cT) (σ := σ) hq0
    rw [ce_int hk (Or.inl rfl)] at hat
    obtain ⟨t0, ht0⟩ := lk_ty (cT := cT) hin hk (Or.inl ⟨rfl, rfl⟩)
    have hal : alen σ t i = ln t i := by
      unfold alen
      cases hq : Nat.beq t 497
      · rfl
      · exact absurd (Nat.eq_of_beq_eq_true hq) hts2
    rw [hal] at hj
    exact va_iald hx hb hKK.1 hI.1 q0 t0 hat ht0 hj hd kk
theorem snd_bald (X : CX p s mi args c α cT D adV scr xs Ln m) (hK : KS p l e R s mi args below meth c cells slots Q α cT D scr xs Ln (maxL m) K z) (hd : decode (mbt m) pc = .ok (.baload, 1)) {j : Int32} {t i : Nat} {S' : List AV} (hk : (Nat.beq (lk t) 3 || Nat.beq (lk t) 4) = true)
    (h : ix j (ln t i) (fun k => K (pc + 1) L (.inl (gI σ t i k) :: S') σ) = some z) (hS : ∀ v ∈ (.inl j :: .inr (.inr (t, i)) :: S' : List AV), okv scr v) (hL : ∀ v, some v ∈ L → okv scr v) (hn : L.length = maxL m) (hI : IW α cT D s scr xs Ln σ H locs) (hl : lv_has ls (maxL m) (lvl α 0 L)) : W p l e R s mi args below meth c H locs cells slots Q (F0 mi pc ls ((.inl j :: .inr (.inr (t, i)) :: S' : List AV).map (conc α))) := by
  obtain ⟨hx, hb, -, hown, hts, hKK, -, hsc⟩ := X
  obtain ⟨hj, h⟩ := inb_of h
  have kk := hK _ _ _ _ h (okS_cons trivial (okS_tail (okS_tail hS))) hL hn H locs ls hI hl
  have ho : okr scr (t, i) := hS _ (List.mem_cons_of_mem _ List.mem_cons_self)
  rw [Bool.or_eq_true] at hk
  have hns : t ≠ 497 := by
    rintro rfl
    rcases hk with hk | hk
    · exact absurd (Nat.eq_of_beq_eq_true hk) (by decide)
    · exact absurd (Nat.eq_of_beq_eq_true hk) (by decide)
  rcases hk with hk | hk
  · have hin := okr_dom ho hns (lk_notStr hk (by decide))
    obtain ⟨q0, hq0⟩ := dom_at hin
    have hat := wl_at (α := α) (cT := cT) (σ := σ) hq0
    rw [ce_int hk (Or.inr (Or.inl rfl))] at hat
    obtain ⟨t0, ht0⟩ := lk_ty (cT := cT) hin hk (Or.inr (Or.inr (Or.inl ⟨rfl, rfl⟩)))
    exact va_bald hx hb hKK.1 hI.1 q0 t0 hat ht0 hj hd kk
  · have hin := okr_dom ho hns (lk_notStr hk (by decide))
    obtain ⟨q0, hq0⟩ := dom_at hin
    have hat := wl_at (α := α) (cT := cT) (σ := σ) hq0
    rw [ce_int hk (Or.inr (Or.inr rfl))] at hat
    obtain ⟨t0, ht0⟩ := lk_ty (cT := cT) hin hk (Or.inr (Or.inr (Or.inr ⟨rfl, rfl⟩)))
    exact va_zald hx hb hKK.1 hI.1 q0 t0 hat ht0 hj hd kk
theorem lk_notScr {t k : Nat} (hk : Nat.beq (lk t) k = true) (h1 : k ≠ 1) : t ≠ 497 := fun q => h1 ((Nat.eq_of_beq_eq_true hk).symm.trans (by rw [q]; rfl))
theorem snd_lald (X : CX p s mi args c α cT D adV scr xs Ln m) (hK : KS p l e R s mi args below meth c cells slots Q α cT D scr xs Ln (maxL m) K z) (hd : decode (mbt m) pc = .ok (.laload, 1)) {j : Int32} {t i : Nat} {S' : List AV} (hk : Nat.beq (lk t) 2 = true)
    (h : ix j (ln t i) (fun k => K (pc + 1) L (.inr (.inl (gL σ t i k)) :: S') σ) = some z) (hS : ∀ v ∈ (.inl j :: .inr (.inr (t, i)) :: S' : List AV), okv scr v) (hL : ∀ v, some v ∈ L → okv scr v) (hn : L.length = maxL m) (hI : IW α cT D s scr xs Ln σ H locs) (hl : lv_has ls (maxL m) (lvl α 0 L)) : W p l e R s mi args below meth c H locs cells slots Q (F0 mi pc ls ((.inl j :: .inr (.inr (t, i)) :: S' : List AV).map (conc α))) := by
  obtain ⟨hx, hb, -, hown, hts, hKK, -, hsc⟩ := X
  obtain ⟨hj, h⟩ := inb_of h
  have kk := hK _ _ _ _ h (okS_cons trivial (okS_tail (okS_tail hS))) hL hn H locs ls hI hl
  have hin := okr_dom (hS _ (List.mem_cons_of_mem _ List.mem_cons_self)) (lk_notScr hk (by decide)) (lk_notStr hk (by decide))
  obtain ⟨q0, hq0⟩ := dom_at hin
  have hat := wl_at (α := α) (cT := cT) (σ := σ) hq0
  rw [ce_long hk] at hat
  obtain ⟨t0, ht0⟩ := lk_ty (cT := cT) hin hk (Or.inr (Or.inl ⟨rfl, rfl⟩))
  exact va_lald hx hb hKK.1 hI.1 q0 t0 hat ht0 hj hd kk
theorem snd_aald (X : CX p s mi args c α cT D adV scr xs Ln m) (hK : KS p l e R s mi args below meth c cells slots Q α cT D scr xs Ln (maxL m) K z) (hd : decode (mbt m) pc = .ok (.aaload, 1)) {j : Int32} {t i : Nat} {S' : List AV} (hk : Nat.beq (lk t) 5 = true)
    (h : ix j (ln t i) (fun k => K (pc + 1) L (.inr (.inr (la t i k)) :: S') σ) = some z) (hS : ∀ v ∈ (.inl j :: .inr (.inr (t, i)) :: S' : List AV), okv scr v) (hL : ∀ v, some v ∈ L → okv scr v) (hn : L.length = maxL m) (hI : IW α cT D s scr xs Ln σ H locs) (hl : lv_has ls (maxL m) (lvl α 0 L)) : W p l e R s mi args below meth c H locs cells slots Q (F0 mi pc ls ((.inl j :: .inr (.inr (t, i)) :: S' : List AV).map (conc α))) := by
  obtain ⟨hx, hb, -, hown, hts, hKK, -, hsc⟩ := X
  obtain ⟨hj, h⟩ := inb_of h
  have hin := okr_dom (hS _ (List.mem_cons_of_mem _ List.mem_cons_self)) (lk_notScr hk (by decide)) (lk_notStr hk (by decide))
  have hlt : j.toNatClampNeg < ln t i := Nat.not_le.mp fun q => hj (Or.inr q)
  have hrf := List.all_eq_true.mp dom_refs _ hin
  unfold refsok at hrf
  have hk5 : lk (t, i).1 = 5 := Nat.eq_of_beq_eq_true hk
  rw [hk5] at hrf
  have hmem : la t i j.toNatClampNeg ∈ dom := by simpa using List.all_eq_true.mp hrf _ (List.mem_range.mpr hlt)
  have kk := hK _ _ _ _ h (okS_cons (v := .inr (.inr (la t i j.toNatClampNeg))) (Or.inl hmem) (okS_tail (okS_tail hS))) hL hn H locs ls hI hl
  obtain ⟨q0, hq0⟩ := dom_at hin
  have hat := wl_at (α := α) (cT := cT) (σ := σ) hq0
  rw [ce_refs hk] at hat
  have htg := (tag_of hin).1
  unfold tagok at htg
  rw [show lk t = 5 from hk5] at htg
  obtain ⟨⟨t', ty⟩, hq, hd2⟩ := List.any_eq_true.mp htg
  rw [Bool.and_eq_true] at hd2
  have hte : t' = t := of_decide_eq_true hd2.1
  subst hte
  obtain ⟨t0, ht0⟩ := List.getElem?_of_mem (List.mem_map.mpr ⟨_, hq, rfl⟩ : (cT t', ty) ∈ tyl cT)
  exact W.aald (v := .ref (α (la t' i j.toNatClampNeg).1 (la t' i j.toNatClampNeg).2)) (ty := ty) hx hb (hI.1 q0 _ hat) ((hKK.1.2 t0 _ ht0).1 (ln t' i) (fun j => va_rf (some (α (la t' i j).1 (la t' i j).2)))) hd2.2 (fun q => by cases q) (by show ¬ (j < 0 ∨ (arrV _ _ _).slots.size ≤ _); rw [arrV_size]; exact hj) (by show (arrV _ _ _).slots[_]? = _; rw [arrV_read _ _ hlt]; rfl) rfl rfl hd kk
theorem snd_alen (X : CX p s mi args c α cT D adV scr xs Ln m) (hK : KS p l e R s mi args below meth c cells slots Q α cT D scr xs Ln (maxL m) K z) (hd : decode (mbt m) pc = .ok (.arraylength, 1)) {t i : Nat} {S' : List AV} (hk : (Nat.ble 1 (lk t) && Nat.ble (lk t) 5) = true)
    (h : K (pc + 1) L (.inl (Int32.ofNat (alen σ t i)) :: S') σ = some z) (hS : ∀ v ∈ (.inr (.inr (t, i)) :: S' : List AV), okv scr v) (hL : ∀ v, some v ∈ L → okv scr v) (hn : L.length = maxL m) (hI : IW α cT D s scr xs Ln σ H locs) (hl : lv_has ls (maxL m) (lvl α 0 L)) : W p l e R s mi args below meth c H locs cells slots Q (F0 mi pc ls ((.inr (.inr (t, i)) :: S' : List AV).map (conc α))) := by
  obtain ⟨hx, hb, -, hown, hts, hKK, -, hsc⟩ := X
  rw [Bool.and_eq_true] at hk
  have hk1 := Nat.le_of_ble_eq_true hk.1
  have hk2 := Nat.le_of_ble_eq_true hk.2
  have kk := hK _ _ _ _ h (okS_cons trivial (okS_tail hS)) hL hn H locs ls hI hl
  have ho : okr scr (t, i) := hS _ List.mem_cons_self
  rcases ho with hin | ⟨ho, -⟩ | ⟨hs, ho⟩
  · obtain ⟨htg, hns, -⟩ := tag_of hin
    have hal : alen σ t i = ln t i := by
      unfold alen
      cases hq : Nat.beq t 497
      · rfl
      · exact absurd (Nat.eq_of_beq_eq_true hq) hns
    obtain ⟨q0, hq0⟩ := dom_at hin
    have hat := wl_at (α := α) (cT := cT) (σ := σ) hq0
    have hty : ∃ (t0 : Nat) (ty : FieldType), (tyl cT)[t0]? = some (cT t, ty) := by
      unfold tagok at htg
      split at htg
      · next q => omega
      · exact (tyl_at htg).elim fun t0 q => ⟨t0, _, q⟩
      · exact (tyl_at htg).elim fun t0 q => ⟨t0, _, q⟩
      · exact (tyl_at htg).elim fun t0 q => ⟨t0, _, q⟩
      · exact (tyl_at htg).elim fun t0 q => ⟨t0, _, q⟩
      · obtain ⟨⟨t', ty⟩, hq, hd2⟩ := List.any_eq_true.mp htg
        rw [Bool.and_eq_true] at hd2
        have hte : t' = t := of_decide_eq_true hd2.1
        subst hte
        exact (List.getElem?_of_mem (List.mem_map.mpr ⟨_, hq, rfl⟩ : (cT t', ty) ∈ tyl cT)).elim fun t0 q => ⟨t0, ty, q⟩
      · cases htg
    obtain ⟨t0, ty, ht0⟩ := hty
    have hce : ∃ a, ce α cT σ t i = .inl (cT t, ln t i, a) := by
      unfold ce
      split
      · next q => omega
      · exact ⟨_, rfl⟩
      · exact ⟨_, rfl⟩
      · exact ⟨_, rfl⟩
    obtain ⟨a, hce⟩ := hce
    rw [hce] at hat
    exact va_alen (x := (ln t i, a)) hx hb hKK.1 hI.1 q0 t0 hat ht0 (v := Int32.ofNat (alen σ t i)) (by rw [hal]) hd kk
  · rw [show t = 494 from ho, str_lk] at hk2
    omega
  · cases ho
    obtain ⟨hX, hbl, hbA, hLn⟩ := hsc hs
    have hal : alen σ 497 0 = Ln := by
      show (gI σ 497 1 0).toNatClampNeg = Ln
      rw [(hI.2.2.2 hs).2]
      exact nI_clamp hLn
    rw [hal] at kk
    exact va_slen hx hb hX hbl hbA hI.2.2.1 hd kk
theorem snd_iast (X : CX p s mi args c α cT D adV scr xs Ln m) (hK : KS p l e R s mi args below meth c cells slots Q α cT D scr xs Ln (maxL m) K z) (hd : decode (mbt m) pc = .ok (.iastore, 1)) {x j : Int32} {t i : Nat} {S' : List AV} (hk : Nat.beq (lk t) 1 = true) (hns : t ≠ 497)
    (h : ix j (ln t i) (fun k => K (pc + 1) L S' (sI σ t i k x)) = some z) (hS : ∀ v ∈ (.inl x :: .inl j :: .inr (.inr (t, i)) :: S' : List AV), okv scr v) (hL : ∀ v, some v ∈ L → okv scr v) (hn : L.length = maxL m) (hI : IW α cT D s scr xs Ln σ H locs) (hl : lv_has ls (maxL m) (lvl α 0 L)) : W p l e R s mi args below meth c H locs cells slots Q (F0 mi pc ls ((.inl x :: .inl j :: .inr (.inr (t, i)) :: S' : List AV).map (conc α))) := by
  obtain ⟨hx, hb, -, hown, hts, hKK, -, hsc⟩ := X
  obtain ⟨hj, h⟩ := inb_of h
  have hin := okr_dom (hS _ (List.mem_cons_of_mem _ (List.mem_cons_of_mem _ List.mem_cons_self))) hns (lk_notStr hk (by decide))
  obtain ⟨q0, hq0⟩ := dom_at hin
  have hat := wl_at (α := α) (cT := cT) (σ := σ) hq0
  rw [ce_int hk (Or.inl rfl)] at hat
  obtain ⟨t0, ht0⟩ := lk_ty (cT := cT) hin hk (Or.inl ⟨rfl, rfl⟩)
  refine va_iast hx hb hKK.1 hI.1 hI.2.1 hI.2.2.1 q0 t0 hat ht0 hj hd (fun H1 locs1 e1 e2 e3 => ?_)
  have hset : (wl α cT σ).set q0 (α t i, .inl (cT t, ln t i, .inl (upd (gI σ t i) j.toNatClampNeg x))) = wl α cT (sI σ t i j.toNatClampNeg x) := wl_set hq0 (by rw [ce_int hk (Or.inl rfl), upd_sI]) ce_sI
  rw [hset] at e1 e2
  exact hK _ _ _ _ h (okS_tail (okS_tail (okS_tail hS))) hL hn H1 locs1 ls (IW_sI hI hns e1 e2 e3) hl
theorem snd_bast3 (X : CX p s mi args c α cT D adV scr xs Ln m) (hK : KS p l e R s mi args below meth c cells slots Q α cT D scr xs Ln (maxL m) K z) (hd : decode (mbt m) pc = .ok (.bastore, 1)) {x j : Int32} {t i : Nat} {S' : List AV} (hk : Nat.beq (lk t) 3 = true)
    (h : ix j (ln t i) (fun k => K (pc + 1) L S' (sI σ t i k x.toInt8.toInt32)) = some z) (hS : ∀ v ∈ (.inl x :: .inl j :: .inr (.inr (t, i)) :: S' : List AV), okv scr v) (hL : ∀ v, some v ∈ L → okv scr v) (hn : L.length = maxL m) (hI : IW α cT D s scr xs Ln σ H locs) (hl : lv_has ls (maxL m) (lvl α 0 L)) : W p l e R s mi args below meth c H locs cells slots Q (F0 mi pc ls ((.inl x :: .inl j :: .inr (.inr (t, i)) :: S' : List AV).map (conc α))) := by
  obtain ⟨hx, hb, -, hown, hts, hKK, -, hsc⟩ := X
  obtain ⟨hj, h⟩ := inb_of h
  have hns := lk_notScr hk (by decide)
  have hin := okr_dom (hS _ (List.mem_cons_of_mem _ (List.mem_cons_of_mem _ List.mem_cons_self))) hns (lk_notStr hk (by decide))
  obtain ⟨q0, hq0⟩ := dom_at hin
  have hat := wl_at (α := α) (cT := cT) (σ := σ) hq0
  rw [ce_int hk (Or.inr (Or.inl rfl))] at hat
  obtain ⟨t0, ht0⟩ := lk_ty (cT := cT) hin hk (Or.inr (Or.inr (Or.inl ⟨rfl, rfl⟩)))
  refine va_bast hx hb hKK.1 hI.1 hI.2.1 hI.2.2.1 q0 t0 hat ht0 hj hd (fun H1 locs1 e1 e2 e3 => ?_)
  have hset : (wl α cT σ).set q0 (α t i, .inl (cT t, ln t i, .inl (upd (gI σ t i) j.toNatClampNeg (vp_nar .byte x)))) = wl α cT (sI σ t i j.toNatClampNeg x.toInt8.toInt32) := wl_set hq0 (by rw [ce_int hk (Or.inr (Or.inl rfl)), vp_nar_byte, upd_sI]) ce_sI
  rw [hset] at e1 e2
  exact hK _ _ _ _ h (okS_tail (okS_tail (okS_tail hS))) hL hn H1 locs1 ls (IW_sI hI hns e1 e2 e3) hl
theorem snd_bast4 (X : CX p s mi args c α cT D adV scr xs Ln m) (hK : KS p l e R s mi args below meth c cells slots Q α cT D scr xs Ln (maxL m) K z) (hd : decode (mbt m) pc = .ok (.bastore, 1)) {x j : Int32} {t i : Nat} {S' : List AV} (hk : Nat.beq (lk t) 4 = true) (h01 : x = 0 ∨ x = 1)
    (h : ix j (ln t i) (fun k => K (pc + 1) L S' (sI σ t i k x)) = some z) (hS : ∀ v ∈ (.inl x :: .inl j :: .inr (.inr (t, i)) :: S' : List AV), okv scr v) (hL : ∀ v, some v ∈ L → okv scr v) (hn : L.length = maxL m) (hI : IW α cT D s scr xs Ln σ H locs) (hl : lv_has ls (maxL m) (lvl α 0 L)) : W p l e R s mi args below meth c H locs cells slots Q (F0 mi pc ls ((.inl x :: .inl j :: .inr (.inr (t, i)) :: S' : List AV).map (conc α))) := by
  obtain ⟨hx, hb, -, hown, hts, hKK, -, hsc⟩ := X
  obtain ⟨hj, h⟩ := inb_of h
  have hns := lk_notScr hk (by decide)
  have hin := okr_dom (hS _ (List.mem_cons_of_mem _ (List.mem_cons_of_mem _ List.mem_cons_self))) hns (lk_notStr hk (by decide))
  obtain ⟨q0, hq0⟩ := dom_at hin
  have hat := wl_at (α := α) (cT := cT) (σ := σ) hq0
  rw [ce_int hk (Or.inr (Or.inr rfl))] at hat
  obtain ⟨t0, ht0⟩ := lk_ty (cT := cT) hin hk (Or.inr (Or.inr (Or.inr ⟨rfl, rfl⟩)))
  refine va_zast hx hb hKK.1 hI.1 hI.2.1 hI.2.2.1 q0 t0 hat ht0 hj hd (fun H1 locs1 e1 e2 e3 => ?_)
  have hset : (wl α cT σ).set q0 (α t i, .inl (cT t, ln t i, .inl (upd (gI σ t i) j.toNatClampNeg (vp_nar .boolean x)))) = wl α cT (sI σ t i j.toNatClampNeg x) := wl_set hq0 (by rw [ce_int hk (Or.inr (Or.inr rfl)), (bool01 h01).2.2, upd_sI]) ce_sI
  rw [hset] at e1 e2
  exact hK _ _ _ _ h (okS_tail (okS_tail (okS_tail hS))) hL hn H1 locs1 ls (IW_sI hI hns e1 e2 e3) hl
theorem snd_last (X : CX p s mi args c α cT D adV scr xs Ln m) (hK : KS p l e R s mi args below meth c cells slots Q α cT D scr xs Ln (maxL m) K z) (hd : decode (mbt m) pc = .ok (.lastore, 1)) {x : Int64} {j : Int32} {t i : Nat} {S' : List AV} (hk : Nat.beq (lk t) 2 = true)
    (h : ix j (ln t i) (fun k => K (pc + 1) L S' (sL σ t i k x)) = some z) (hS : ∀ v ∈ (.inr (.inl x) :: .inl j :: .inr (.inr (t, i)) :: S' : List AV), okv scr v) (hL : ∀ v, some v ∈ L → okv scr v) (hn : L.length = maxL m) (hI : IW α cT D s scr xs Ln σ H locs) (hl : lv_has ls (maxL m) (lvl α 0 L)) : W p l e R s mi args below meth c H locs cells slots Q (F0 mi pc ls ((.inr (.inl x) :: .inl j :: .inr (.inr (t, i)) :: S' : List AV).map (conc α))) := by
  obtain ⟨hx, hb, -, hown, hts, hKK, -, hsc⟩ := X
  obtain ⟨hj, h⟩ := inb_of h
  have hns := lk_notScr hk (by decide)
  have hin := okr_dom (hS _ (List.mem_cons_of_mem _ (List.mem_cons_of_mem _ List.mem_cons_self))) hns (lk_notStr hk (by decide))
  obtain ⟨q0, hq0⟩ := dom_at hin
  have hat := wl_at (α := α) (cT := cT) (σ := σ) hq0
  rw [ce_long hk] at hat
  obtain ⟨t0, ht0⟩ := lk_ty (cT := cT) hin hk (Or.inr (Or.inl ⟨rfl, rfl⟩))
  refine va_last hx hb hKK.1 hI.1 hI.2.1 hI.2.2.1 q0 t0 hat ht0 hj hd (fun H1 locs1 e1 e2 e3 => ?_)
  have hset : (wl α cT σ).set q0 (α t i, .inl (cT t, ln t i, .inr (.inl (vp_updL (gL σ t i) j.toNatClampNeg x)))) = wl α cT (sL σ t i j.toNatClampNeg x) := wl_set hq0 (by rw [ce_long hk, upd_sL]) ce_sL
  rw [hset] at e1 e2
  exact hK _ _ _ _ h (okS_tail (okS_tail (okS_tail hS))) hL hn H1 locs1 ls (IW_sL hI e1 e2 e3) hl
end SND4
end
section
/-! calls -/
def wsm (m : Nat) : List Cond := Cond.code (myn m) (mbt m) (maxL m) (mrt m) :: WS
def rmm (μ : Nat) : Room := { frames := μ, cells := 0, slots := 0, locals := 64 * μ }
def PreM (α : Nat → Nat → Nat) (cT : Nat → ClassId) (D : va_G) (adV : Nat → Nat) (σ : St) (sz : Nat) (U : State) : Prop :=
  U.heap.size = sz ∧ va_P D vwCl (wl α cT σ) U.heap ∧ KK α cT D U ∧ va_D (AA α sz) (wl α cT σ) ∧ vk_S 12 slens sws (α 494) adV (AA α sz) U U.heap
def QM (α : Nat → Nat → Nat) (cT : Nat → ClassId) (D : va_G) (res : Option AV) (σ' : St) (sz : Nat) : Array Value → State → Outcome → State → Prop := fun _ st o t =>
  o = .returned (res.map (conc α)) ∧ va_P D vwCl (wl α cT σ') t.heap ∧ va_F (AA α sz) st t
/-- what calls answer is sound -/
def CS (l : Launch) (α : Nat → Nat → Nat) (cT : Nat → ClassId) (D : va_G) (adV : Nat → Nat) (C : AC) : Prop :=
  ∀ m r a σ res σ', C m r a σ = some (res, σ') → 1 ≤ m → m ≤ 371 → (∀ v ∈ a, okv false v) → ∀ sz, Met l (myn m) (wsm m) (rmm (lev m + r)) (va_Pc (a.map (conc α)) (PreM α cT D adV σ sz)) (QM α cT D res σ' sz) 0 0 (AA α sz)
/-- calls leave the script, and answer no cell -/
def CK (C : AC) : Prop := ∀ m r a σ res σ', C m r a σ = some (res, σ') → ∀ i j, gI σ' 497 i j = gI σ 497 i j
theorem okm_at {m : Nat} (h1 : 1 ≤ m) (h2 : m ≤ 371) : okm m = true := by
  have go : ∀ a n, (List.range n).all (fun k => okm (k + a)) = true → a ≤ m → m < a + n → okm m = true := fun a n h h3 h4 => by
    have := List.all_eq_true.mp h (m - a) (List.mem_range.mpr (by omega))
    rwa [Nat.sub_add_cancel h3] at this
  by_cases q1 : m < 51
  · exact go 1 50 okm_1 (by omega) (by omega)
  by_cases q2 : m < 101
  · exact go 51 50 okm_51 (by omega) (by omega)
  by_cases q3 : m < 151
  · exact go 101 50 okm_101 (by omega) (by omega)
  by_cases q4 : m < 201
  · exact go 151 50 okm_151 (by omega) (by omega)
  by_cases q5 : m < 251
  · exact go 201 50 okm_201 (by omega) (by omega)
  by_cases q6 : m < 301
  · exact go 251 50 okm_251 (by omega) (by omega)
  by_cases q7 : m < 351
  · exact go 301 50 okm_301 (by omega) (by omega)
  · exact go 351 21 okm_351 (by omega) (by omega)
theorem md_of {m : Nat} (h1 : 1 ≤ m) (h2 : m ≤ 371) : Cond.code (myn m) (mbt m) (maxL m) (mrt m) ∈ WS ∧ Cond.initialized (myn m).cls ∈ WS ∧ (mst m = true → Cond.static (myn m) ∈ WS) ∧ (mst m = false → Cond.instanceMethod (myn m) ∈ WS ∧ Cond.selects (myn m).cls (myn m) (myn m) ∈ WS) ∧
    (myn m).cls = cnm (mcl m) ∧ plainName (myn m).cls = true ∧ ((myn m).cls ≠ "java/lang/invoke/MethodHandle" ∧ (myn m).cls ≠ "java/lang/invoke/VarHandle" ∧ (parseMethodDescriptor (myn m).desc).map (fun d => d.parameters.length) = some (mnp m)) ∧ maxL m ≤ 40 := by
  have h := okm_at h1 h2
  unfold okm at h
  simp only [Bool.and_eq_true] at h
  obtain ⟨⟨⟨a1, a2⟩, a3⟩, a4⟩ := h
  have a4 := of_decide_eq_true a4
  refine ⟨WS_in (inC_mem a1) rfl, WS_in (inT_mem a2) rfl, fun q => ?_, fun q => ?_, a4.1, a4.2.1, ⟨a4.2.2.1, a4.2.2.2.1, a4.2.2.2.2.1⟩, a4.2.2.2.2.2⟩
  · rw [q] at a3
    exact WS_in (inT_mem a3) rfl
  · rw [q] at a3
    simp only [cond_false, Bool.and_eq_true] at a3
    exact ⟨WS_in (inT_mem a3.1) rfl, WS_in (inT_mem a3.2) rfl⟩
theorem ml_at {m idx m' : Nat} (h : mls.any (fun e => Nat.beq e.1 (mcl m) && Nat.beq e.2.1 idx && Nat.beq e.2.2.1 m') = true) : Cond.methodLink (cnm (mcl m)) idx (myn m') ∈ WS := by
  obtain ⟨q, hq, hd⟩ := List.any_eq_true.mp h
  simp only [Bool.and_eq_true] at hd
  obtain ⟨⟨h1, h2⟩, h3⟩ := hd
  have ho := List.all_eq_true.mp okl_all q hq
  unfold okl at ho
  rw [Nat.eq_of_beq_eq_true h1, Nat.eq_of_beq_eq_true h2, Nat.eq_of_beq_eq_true h3] at ho
  exact WS_in (inT_mem ho) rfl
theorem WS_good {w : Cond} (h : w ∈ WS) : (w.onTables && w.keeps) = true ∨ ∃ ty, w = .arrayClass ty := good_of_word (List.mem_filter.mp h).2
theorem good_wsm {m : Nat} (h1 : 1 ≤ m) (h2 : m ≤ 371) : GoodIn WS (wsm m) := fun w hw => (List.mem_cons.mp hw).elim (fun h => by rw [h]; exact ⟨(md_of h1 h2).1, WS_good (md_of h1 h2).1⟩) (fun h => ⟨h, WS_good h⟩)
theorem cat_map (α : Nat → Nat → Nat) : ∀ S : List AV, ((S.map (conc α)).map fun v => v.category).sum = asum S
  | [] => rfl
  | v :: S => by
    show ((conc α v).category :: ((S.map (conc α)).map fun v => v.category)).sum = acat v + asum S
    rw [List.sum_cons, cat_conc, cat_map α S]
theorem lv_room' {mi : MethodId} {pc : Nat} {ls : Array Slot} {rest : List Value} {k : Nat} (h : k ≤ 8) : 2 * (F0 mi pc ls rest).monitorRoom + k ≤ 8 := by
  show 2 * 0 + _ ≤ 8
  omega
section SND5
variable {p : Program} {l : Launch} {e : Env} {R : Room} {s : State} {mi : MethodId} {args : Array Value} {below : List Frame} {meth : Method} {c : Code} {cells slots : Nat} {Q : State → Prop} {α : Nat → Nat → Nat} {cT : Nat → ClassId} {D : va_G} {adV : Nat → Nat} {scr : Bool} {xs : Nat → Int32} {Ln m : Nat} {K : AK} {z : AR}
variable {pc : Nat} {L : AL} {S : List AV} {σ : St} {H : Heap} {locs : List Loc} {ls : Array Slot}
theorem vaD_wl {A : Nat → Prop} {σ σ' : St} (h : va_D A (wl α cT σ)) : va_D A (wl α cT σ') := by
  have key : ∀ (k : Nat) (q : Nat × va_E), (wl α cT σ')[k]? = some q → ∃ q', (wl α cT σ)[k]? = some q' ∧ q'.1 = q.1 := by
    intro k q hq
    unfold wl at hq ⊢
    rw [List.getElem?_map] at hq ⊢
    cases hd : dom[k]? with
    | none => rw [hd] at hq; cases hq
    | some x =>
      rw [hd] at hq
      cases hq
      exact ⟨_, rfl, rfl⟩
  refine ⟨fun i j a b ha hb hab => ?_, fun k q hq => ?_⟩
  · obtain ⟨a', h1, h2⟩ := key i a ha
    obtain ⟨b', h3, h4⟩ := key j b hb
    exact h.1 i j a' b' h1 h3 (h2.trans (hab.trans h4.symm))
  · obtain ⟨q', h1, h2⟩ := key k q hq
    rw [← h2]
    exact h.2 k q' h1
theorem AA_mono {a b : Nat} (h : a ≤ b) : ∀ q, AA α b q → AA α a q := fun q hq => hq.elim Or.inl (fun z => Or.inr (Nat.le_trans h z))
/-- behind a call -/
theorem run_W {σ' : St} {res : Option AV} {rest : List Value} {st0 : List Value} {a : Array Value} (hr : va_Run p l e R s mi args below meth c H locs cells slots 0 0 (F0 mi pc ls st0) rest (QM α cT D res σ' H.size a) (AA α H.size)) (hI : IW α cT D s scr xs Ln σ H locs) (hk : ∀ i j, gI σ' 497 i j = gI σ 497 i j)
    (kk : ∀ H1 locs1, IW α cT D s scr xs Ln σ' H1 locs1 → W p l e R s mi args below meth c H1 locs1 cells slots Q (F0 mi (pc + 3) ls ((res.map (conc α)).toList ++ rest))) : W p l e R s mi args below meth c H locs cells slots Q (F0 mi pc ls st0) := by
  intro T hT X
  obtain ⟨v, st₀, t, T', L', h0, X', hL', e1, e2, ⟨hv, hP, hz, hfr⟩, st⟩ := hr T hT X
  cases hv
  rw [h0] at hz hfr
  have hsz : s.heap.size ≤ H.size := hI.2.2.1.1
  obtain ⟨t2, a1, b1⟩ := kk T'.heap (locs ++ L') ⟨by rw [e1]; exact hP, vaD_wl hI.2.1, ⟨by rw [e1]; exact Nat.le_trans hsz hz, fun q h1 h2 => by
      rw [e1, hfr q (Nat.lt_of_lt_of_le h1 hsz) (fun z => h2 (AA_mono hsz q z))]
      exact hI.2.2.1.2.1 q h1 h2, fun q hq => by
      rcases List.mem_append.mp hq with h | h
      · exact hI.2.2.1.2.2 q h
      · exact AA_mono hsz _ (hL' q h)⟩, fun hs => ⟨fun j hj => by rw [hk]; exact (hI.2.2.2 hs).1 j hj, by rw [hk]; exact (hI.2.2.2 hs).2⟩⟩ T' rfl X'
  exact ⟨t2, st t2 a1, b1⟩
theorem pre_of (X : CX p s mi args c α cT D adV scr xs Ln m) (hI : IW α cT D s scr xs Ln σ H locs) {U : State} (hU : U.heap = H) (hW : s.WarmedH U.vm) : PreM α cT D adV σ H.size U := by
  obtain ⟨-, -, -, -, -, hKK, hvk, -⟩ := X
  have hsz : s.heap.size ≤ H.size := hI.2.2.1.1
  refine ⟨by rw [hU], by rw [hU]; exact hI.1, hKK.moved hW, ⟨hI.2.1.1, fun k q hq => ?_⟩, ?_⟩
  · obtain ⟨t, i⟩ := q
    unfold wl at hq
    rw [List.getElem?_map] at hq
    cases hd : dom[k]? with
    | none => rw [hd] at hq; cases hq
    | some x =>
      rw [hd] at hq
      cases hq
      exact Or.inl ⟨x, List.mem_of_getElem? hd, rfl⟩
  · have h1 := (hvk.kept hI.2.2.1.2.1).narrow (AA_mono (α := α) hsz)
    rw [hU]
    exact h1.moved hW.alike
theorem blind_M {a : List Value} {sz : Nat} : FrameBlind (va_Pc a (PreM α cT D adV σ sz)) := by
  intro a' U g mk h
  obtain ⟨h0, h1, h2, h3, h4, h5⟩ := h
  exact ⟨h0, h1, h2, h3.same rfl, h4, h5.moved (Vm.Alike.refl U.vm)⟩
theorem snd_inv (X : CX p s mi args c α cT D adV scr xs Ln m) {C : AC} (hC : CS l α cT D adV C) (hCk : CK C) (hK : KS p l e R s mi args below meth c cells slots Q α cT D scr xs Ln (maxL m) K z) {r idx m' n rt : Nat} {vt : Bool} {cl : Nat} (hd : (vt = true ∧ decode (mbt m) pc = .ok (.invokevirtual idx, 3)) ∨ (vt = false ∧ decode (mbt m) pc = .ok (.invokestatic idx, 3))) (hok : okc1 m idx m' n rt vt = true)
    (hR : lev m + r ≤ R.frames ∧ 64 * (lev m + r) ≤ R.locals ∧ cells ≤ R.cells ∧ slots ≤ R.slots) (hrec : vt = true → cl = mcl m' ∧ cl < 13 ∧ ∃ t i S1, S.drop (n - 1) = .inr (.inr (t, i)) :: S1 ∧ t = 8 * cl) (hnos : ∀ v ∈ S.take n, okv false v)
    (h : inv K C m r (pc + 3) L S σ [m', n, rt] = some z) (hS : ∀ v ∈ S, okv scr v) (hL : ∀ v, some v ∈ L → okv scr v) (hn : L.length = maxL m) (hI : IW α cT D s scr xs Ln σ H locs) (hl : lv_has ls (maxL m) (lvl α 0 L)) : W p l e R s mi args below meth c H locs cells slots Q (F0 mi pc ls (S.map (conc α))) := by
  have X0 := X
  obtain ⟨hx, hb, hml, hown, hts, hKK, hvk, hsc⟩ := X
  unfold okc1 at hok
  rw [Bool.and_eq_true] at hok
  obtain ⟨hlink, hdd⟩ := hok
  obtain ⟨d1, d2, d3, d4, d5, d6⟩ := of_decide_eq_true hdd
  obtain ⟨w1, w2, w3, w4, w5, w6, w7, w8⟩ := md_of d4 d5
  unfold inv at h
  dsimp only at h
  cases hc1 : (Nat.ble n S.length && Nat.ble (asum (S.drop n)) 8)
  · rw [hc1] at h; cases h
  rw [hc1] at h
  simp only [cond_true] at h
  rw [Bool.and_eq_true] at hc1
  have hnl := Nat.le_of_ble_eq_true hc1.1
  have has := Nat.le_of_ble_eq_true hc1.2
  cases hbud : bud m r m' with
  | none => rw [hbud] at h; cases h
  | some r' =>
    rw [hbud] at h
    have hμ : lev m' + r' < lev m + r := by
      unfold bud at hbud
      cases hq : Nat.beq m' m
      · rw [hq] at hbud
        cases hbud
        rcases d6 with d6 | d6
        · rw [d6] at hq
          simp at hq
        · omega
      · rw [hq] at hbud
        have hq := Nat.eq_of_beq_eq_true hq
        subst hq
        cases r with
        | zero => cases hbud
        | succ r0 =>
          cases hbud
          omega
    have hroom : (rmm (lev m' + r')).frames + 1 ≤ R.frames ∧ 8 + (maxL m' + 11) + (rmm (lev m' + r')).locals ≤ R.locals := by
      show lev m' + r' + 1 ≤ R.frames ∧ 8 + (maxL m' + 11) + 64 * (lev m' + r') ≤ R.locals
      have := hR.1
      have := hR.2.1
      omega
    -- the stack: what is left, and the arguments
    have hst : S.map (conc α) = ((S.take n).reverse.map (conc α)).reverse ++ (S.drop n).map (conc α) := by
      rw [← List.map_reverse, List.reverse_reverse, ← List.map_append, List.take_append_drop]
    have hrest : 2 * (F0 mi pc ls (S.map (conc α))).monitorRoom + (((S.drop n).map (conc α)).map fun v => v.category).sum ≤ 8 := by
      rw [cat_map]
      exact lv_room' has
    -- the call itself
    have go : ∀ (res : Option AV) (σ' : St), C m' r' (S.take n).reverse σ = some (res, σ') → (∀ H1 locs1, IW α cT D s scr xs Ln σ' H1 locs1 → W p l e R s mi args below meth c H1 locs1 cells slots Q (F0 mi (pc + 3) ls ((res.map (conc α)).toList ++ (S.drop n).map (conc α)))) → W p l e R s mi args below meth c H locs cells slots Q (F0 mi pc ls (S.map (conc α))) := by
      intro res σ' hcall kk
      have hM := hC m' r' _ σ res σ' hcall d4 d5 (fun v hv => hnos v (List.mem_reverse.mp hv)) H.size
      have hfix : CallFix p mi c (mbt m) (maxL m) s args WS (cnm (mcl m)) := ⟨hx, hb, hml, hown, hts⟩
      have hfc : cells + 0 ≤ R.cells ∧ slots + 0 ≤ R.slots := hR.2.2
      cases vt with
      | false =>
        have hd : decode (mbt m) pc = .ok (.invokestatic idx, 3) := by
          rcases hd with ⟨hd, -⟩ | ⟨-, hd⟩
          · cases hd
          · exact hd
        have hstat := w3 (by rw [d1]; rfl)
        have hpre : PreS s H (va_Pc ((S.take n).reverse.map (conc α)) (PreM α cT D adV σ H.size)) ((S.take n).reverse.map (conc α)) := ⟨blind_M, fun U hU hW => ⟨rfl, pre_of X0 hI hU hW⟩⟩
        have hlen : ((S.take n).reverse.map (conc α)).length = mnp m' := by
          rw [List.length_map, List.length_reverse, List.length_take, Nat.min_eq_left hnl, d2]
          rfl
        rw [Bool.or_eq_true] at hlink
        rcases hlink with hlink | hlink
        · have hlk := ml_at hlink
          have cw := va_cwS (R := R) (own := cnm (mcl m)) (index := idx) (mc := 0) (ms := 0) (rm := rmm (lev m' + r')) (ws := wsm m') (mnp m') hts (fun w hw => by
            rcases List.mem_append.mp (show w ∈ ([.methodLink (cnm (mcl m)) idx (myn m'), .static (myn m'), .initialized (myn m').cls] : List Cond) ++ wsm m' from hw) with h | h
            · simp only [List.mem_cons, List.not_mem_nil, or_false] at h
              rcases h with rfl | rfl | rfl
              · exact ⟨hlk, WS_good hlk⟩
              · exact ⟨hstat, WS_good hstat⟩
              · exact ⟨w2, WS_good w2⟩
            · exact good_wsm d4 d5 w h) rfl rfl rfl w7 hroom
          exact run_W (va_runS (As := (S.take n).reverse.map (conc α)) (rest := (S.drop n).map (conc α)) hfix hM cw hpre rfl hlen hl.1 hst hrest hd hfc) hI (hCk _ _ _ _ _ _ hcall) kk
        · rw [Bool.and_eq_true] at hlink
          obtain ⟨q, hq, hqd⟩ := List.any_eq_true.mp hlink.2
          simp only [Bool.and_eq_true] at hqd
          obtain ⟨⟨g1, g2⟩, g3⟩ := hqd
          have hnw := hKK.2.1 q hq
          unfold nwd at hnw
          rw [Nat.eq_of_beq_eq_true g1, Nat.eq_of_beq_eq_true g2, Nat.eq_of_beq_eq_true g3] at hnw
          have cw := va_cnB (R := R) (own := cnm (mcl m)) (index := idx) (mc := 0) (ms := 0) (rm := rmm (lev m' + r')) (ws := wsm m') (mnp m') hts (good_wsm d4 d5) rfl rfl rfl hnw (hts _ w2) w7 hroom
          exact run_W (va_runSN (As := (S.take n).reverse.map (conc α)) (rest := (S.drop n).map (conc α)) hfix hM ⟨cw, hts _ hstat, trivial⟩ hpre rfl hlen hl.1 hst hrest hd hfc) hI (hCk _ _ _ _ _ _ hcall) kk
      | true =>
        have hd : decode (mbt m) pc = .ok (.invokevirtual idx, 3) := by
          rcases hd with ⟨-, hd⟩ | ⟨hd, -⟩
          · exact hd
          · cases hd
        obtain ⟨hcl, hcl13, t, i, S1, hdrop, ht⟩ := hrec rfl
        subst ht
        have hinst := w4 (by rw [d1]; rfl)
        have hn1 : n = mnp m' + 1 := d2
        -- the receiver
        have htake : S.take n = S.take (n - 1) ++ [.inr (.inr (8 * cl, i))] := by
          have h1 : n = n - 1 + 1 := by omega
          have h2 : n - 1 < S.length := by omega
          have h3 : S[n - 1] = .inr (.inr (8 * cl, i)) := by
            have h4 : (S.drop (n - 1))[0]? = some (.inr (.inr (8 * cl, i))) := by rw [hdrop]; rfl
            rw [List.getElem?_drop] at h4
            rw [Nat.add_zero, List.getElem?_eq_getElem h2] at h4
            exact Option.some.inj h4
          conv => lhs; rw [h1]
          rw [List.take_succ_eq_append_getElem h2, h3]
        have hargs : (S.take n).reverse = .inr (.inr (8 * cl, i)) :: (S.take (n - 1)).reverse := by
          rw [htake, List.reverse_append]
          rfl
        have hin : (8 * cl, i) ∈ dom := by
          obtain ⟨-, -, g3, g4⟩ := tag_obj hcl13
          have hv : okv scr (.inr (.inr (8 * cl, i))) := hS (.inr (.inr (8 * cl, i))) (List.mem_of_mem_take (i := n) (by rw [htake]; exact List.mem_append_right _ List.mem_cons_self))
          exact okr_dom (scr := scr) hv g3 g4
        obtain ⟨q0, hq0⟩ := dom_at hin
        have hat := wl_at (α := α) (cT := cT) (σ := σ) hq0
        rw [ce_obj hcl13] at hat
        have hrecv := va_recv hKK.1 hI.1 (Tc_at hcl13) hat
        have hcnm : (Tc cl).1 = cnm (mcl m') := by
          rw [← hcl]
          match cl, hcl13 with
          | 0, _ => rfl
          | 1, _ => rfl
          | 2, _ => rfl
          | 3, _ => rfl
          | 4, _ => rfl
          | 5, _ => rfl
          | 6, _ => rfl
          | 7, _ => rfl
          | 8, _ => rfl
          | 9, _ => rfl
          | 10, _ => rfl
          | 11, _ => rfl
          | 12, _ => rfl
          | n + 13, h => omega
        have hpre : PreV s H (myn m').cls (α (8 * cl) i) (va_Pc ((S.take n).reverse.map (conc α)) (PreM α cT D adV σ H.size)) ((S.take (n - 1)).reverse.map (conc α)) := ⟨blind_M, by rw [w5, ← hcnm]; exact hrecv, fun U hU hW => ⟨by rw [hargs]; rfl, pre_of X0 hI hU hW⟩⟩
        have hlen : ((S.take (n - 1)).reverse.map (conc α)).length = mnp m' := by
          rw [List.length_map, List.length_reverse, List.length_take, Nat.min_eq_left (by omega)]
          omega
        have hst2 : S.map (conc α) = ((S.take (n - 1)).reverse.map (conc α)).reverse ++ .ref (α (8 * cl) i) :: (S.drop n).map (conc α) := by
          rw [hst, hargs]
          simp [conc]
        rw [Bool.or_eq_true] at hlink
        rcases hlink with hlink | hlink
        · have hlk := ml_at hlink
          have cw := cwV (R := R) (own := cnm (mcl m)) (C := (myn m').cls) (index := idx) (mc := 0) (ms := 0) (rm := rmm (lev m' + r')) (ws := wsm m') (mnp m') hts (fun w hw => by
            rcases List.mem_append.mp (show w ∈ ([.methodLink (cnm (mcl m)) idx (myn m'), .instanceMethod (myn m'), .selects (myn m').cls (myn m') (myn m'), .initialized (myn m').cls] : List Cond) ++ wsm m' from hw) with h | h
            · simp only [List.mem_cons, List.not_mem_nil, or_false] at h
              rcases h with rfl | rfl | rfl | rfl
              · exact ⟨hlk, WS_good hlk⟩
              · exact ⟨hinst.1, WS_good hinst.1⟩
              · exact ⟨hinst.2, WS_good hinst.2⟩
              · exact ⟨w2, WS_good w2⟩
            · exact good_wsm d4 d5 w h) rfl rfl rfl ⟨rfl, w7⟩ hroom
          exact run_W (va_runV (As := (S.take (n - 1)).reverse.map (conc α)) (rest := (S.drop n).map (conc α)) hfix hM cw hpre rfl hlen hl.1 hst2 hrest hd hfc) hI (hCk _ _ _ _ _ _ hcall) kk
        · rw [Bool.and_eq_true] at hlink
          cases hlink.1
    -- by what it answers
    have hSd : ∀ v ∈ S.drop n, okv scr v := fun v hv => hS v (List.mem_of_mem_drop hv)
    dsimp only at h
    split at h
    · obtain ⟨σ', hcall, hz⟩ := cV_iff.mp h
      exact go none σ' hcall (fun H1 locs1 hI1 => hK _ _ _ _ hz hSd hL hn H1 locs1 ls hI1 hl)
    · obtain ⟨x, σ', hcall, hz⟩ := cI_iff.mp h
      exact go (some (.inl x)) σ' hcall (fun H1 locs1 hI1 => hK _ _ _ _ hz (okS_cons trivial hSd) hL hn H1 locs1 ls hI1 hl)
    · obtain ⟨x, σ', hcall, hz⟩ := cL_iff.mp h
      exact go (some (.inr (.inl x))) σ' hcall (fun H1 locs1 hI1 => hK _ _ _ _ hz (okS_cons trivial hSd) hL hn H1 locs1 ls hI1 hl)
end SND5
end
section
/-! what the machine gives itself: arraycopy, Math.max and min, the texts' length and charAt -/
theorem nfw : nativeFrameWords "java/lang/System" "arraycopy" 5 = 7 := by decide +kernel
theorem pw0 : Cond.native arraycopyName ∈ WS ∧ Cond.static arraycopyName ∈ WS ∧ Cond.initialized "java/lang/System" ∈ WS := ⟨WS_in (inT_mem (k := 3106) (by decide +kernel)) rfl, WS_in (inT_mem (k := 3105) (by decide +kernel)) rfl, WS_in (inT_mem (k := 1019) (by decide +kernel)) rfl⟩
theorem pw3 : Cond.static Lib.Math.max.name ∈ WS ∧ Cond.initialized "java/lang/Math" ∈ WS ∧ Cond.code Lib.Math.max.name Lib.Math.max.code 2 (some .int) ∈ WS := ⟨WS_in (inT_mem (k := 1042) (by decide +kernel)) rfl, WS_in (inT_mem (k := 1004) (by decide +kernel)) rfl, WS_in (inC_mem (k := 1043) (by decide +kernel)) rfl⟩
theorem pw4 : Cond.static Lib.Math.min.name ∈ WS ∧ Cond.initialized "java/lang/Math" ∈ WS ∧ Cond.code Lib.Math.min.name Lib.Math.min.code 2 (some .int) ∈ WS := ⟨WS_in (inT_mem (k := 2191) (by decide +kernel)) rfl, WS_in (inT_mem (k := 1004) (by decide +kernel)) rfl, WS_in (inC_mem (k := 2192) (by decide +kernel)) rfl⟩
theorem pw1 : Cond.instanceMethod yJ0_length_8abf5 ∈ WS ∧ Cond.selects "java/lang/String" yJ0_length_8abf5 yJ0_length_8abf5 ∈ WS ∧ Cond.initialized "java/lang/String" ∈ WS ∧ Cond.code yJ0_length_8abf5 cJ0_length_8abf5 1 (some .int) ∈ WS := ⟨WS_in (inT_mem (k := 2211) (by decide +kernel)) rfl, WS_in (inT_mem (k := 2212) (by decide +kernel)) rfl, WS_in (inT_mem (k := 1015) (by decide +kernel)) rfl, WS_in (inC_mem (k := 2213) (by decide +kernel)) rfl⟩
theorem pw2 : Cond.instanceMethod yJ0_charAt_5068e ∈ WS ∧ Cond.selects "java/lang/String" yJ0_charAt_5068e yJ0_charAt_5068e ∈ WS ∧ Cond.initialized "java/lang/String" ∈ WS ∧ Cond.code yJ0_charAt_5068e cJ0_charAt_5068e 2 (some .char) ∈ WS := ⟨WS_in (inT_mem (k := 2221) (by decide +kernel)) rfl, WS_in (inT_mem (k := 2222) (by decide +kernel)) rfl, WS_in (inT_mem (k := 1015) (by decide +kernel)) rfl, WS_in (inC_mem (k := 2223) (by decide +kernel)) rfl⟩
theorem pr_at {m idx w : Nat} (h : prs.any (fun e => Nat.beq e.1 (mcl m) && Nat.beq e.2.1 idx && Nat.beq e.2.2.1 w) = true) : Cond.methodLink (cnm (mcl m)) idx (pnm w) ∈ WS := by
  obtain ⟨q, hq, hd⟩ := List.any_eq_true.mp h
  simp only [Bool.and_eq_true] at hd
  obtain ⟨⟨h1, h2⟩, h3⟩ := hd
  have ho := List.all_eq_true.mp okp_all q hq
  rw [Nat.eq_of_beq_eq_true h1, Nat.eq_of_beq_eq_true h2, Nat.eq_of_beq_eq_true h3] at ho
  exact WS_in (inT_mem ho) rfl
/-- what is owed of the texts' methods -/
def TX (l : Launch) (α : Nat → Nat → Nat) (cT : Nat → ClassId) (D : va_G) (adV : Nat → Nat) : Prop :=
  (∀ i σ sz, i < 12 → Met l yJ0_length_8abf5 (Cond.code yJ0_length_8abf5 cJ0_length_8abf5 1 (some .int) :: WS) (rmm 6) (va_Pc [.ref (α 494 i)] (PreM α cT D adV σ sz)) (QM α cT D (some (.inl (Int32.ofNat (slen i)))) σ sz) 0 0 (AA α sz)) ∧
  ∀ i j σ sz, i < 12 → vp_in j (slen i) → Met l yJ0_charAt_5068e (Cond.code yJ0_charAt_5068e cJ0_charAt_5068e 2 (some .char) :: WS) (rmm 6) (va_Pc [.ref (α 494 i), .int j] (PreM α cT D adV σ sz)) (QM α cT D (some (.inl (sch i j.toNatClampNeg))) σ sz) 0 0 (AA α sz)
theorem i32_nn {z : Int32} (hz : 0 ≤ z.toInt) : ¬ z < 0 ∧ z.toInt = (z.toNatClampNeg : Int) := by
  constructor
  · intro h
    have := Int32.lt_iff_toInt_lt.mp h
    have h0 : (0 : Int32).toInt = 0 := rfl
    omega
  · show z.toInt = ((z.toInt.toNat : Nat) : Int)
    omega
section SND6
variable {p : Program} {l : Launch} {e : Env} {R : Room} {s : State} {mi : MethodId} {args : Array Value} {below : List Frame} {meth : Method} {c : Code} {cells slots : Nat} {Q : State → Prop} {α : Nat → Nat → Nat} {cT : Nat → ClassId} {D : va_G} {adV : Nat → Nat} {scr : Bool} {xs : Nat → Int32} {Ln m : Nat} {K : AK} {z : AR}
variable {pc : Nat} {L : AL} {S : List AV} {σ : St} {H : Heap} {locs : List Loc} {ls : Array Slot}
theorem gI_cpI (σ : St) (t1 i1 p1 t2 i2 p2 n t' i' j' : Nat) : gI (cpI σ t1 i1 p1 t2 i2 p2 n) t' i' j' = if t' = t2 ∧ i' = i2 ∧ p2 ≤ j' ∧ j' < p2 + n then gI σ t1 i1 (p1 + (j' - p2)) else gI σ t' i' j' := rfl
theorem gL_cpL (σ : St) (t1 i1 p1 t2 i2 p2 n t' i' j' : Nat) : gL (cpL σ t1 i1 p1 t2 i2 p2 n) t' i' j' = if t' = t2 ∧ i' = i2 ∧ p2 ≤ j' ∧ j' < p2 + n then gL σ t1 i1 (p1 + (j' - p2)) else gL σ t' i' j' := rfl
theorem snd_cpA (X : CX p s mi args c α cT D adV scr xs Ln m) (hK : KS p l e R s mi args below meth c cells slots Q α cT D scr xs Ln (maxL m) K z) {idx : Nat} (hd : decode (mbt m) pc = .ok (.invokestatic idx, 3)) (hlk : Cond.methodLink (cnm (mcl m)) idx (pnm 0) ∈ WS) (hR : 1 ≤ R.frames ∧ 64 ≤ R.locals)
    (h : cpA K (pc + 3) L S σ = some z) (hS : ∀ v ∈ S, okv scr v) (hL : ∀ v, some v ∈ L → okv scr v) (hn : L.length = maxL m) (hI : IW α cT D s scr xs Ln σ H locs) (hl : lv_has ls (maxL m) (lvl α 0 L)) : W p l e R s mi args below meth c H locs cells slots Q (F0 mi pc ls (S.map (conc α))) := by
  obtain ⟨hx, hb, hml, hown, hts, hKK, -, -⟩ := X
  unfold cpA at h
  split at h
  · next n dp t2 i2 sp t1 i1 =>
    split at h
    · next hg =>
      obtain ⟨g1, g2, g3, g4, g5⟩ := hg
      obtain ⟨n1, n2⟩ := i32_nn g1
      obtain ⟨s1, s2⟩ := i32_nn g2
      obtain ⟨d1, d2⟩ := i32_nn g3
      have ho1 : okr scr (t1, i1) := hS (.inr (.inr (t1, i1))) (by simp)
      have ho2 : okr scr (t2, i2) := hS (.inr (.inr (t2, i2))) (by simp)
      cases hk : (Nat.beq (lk t1) 1 && Nat.beq (lk t2) 1 && !(Nat.beq t1 497) && !(Nat.beq t2 497))
      · rw [hk] at h
        simp only [cond_false] at h
        cases hk2 : (Nat.beq (lk t1) 2 && Nat.beq (lk t2) 2)
        · rw [hk2] at h; cases h
        · rw [hk2] at h
          simp only [cond_true] at h
          rw [Bool.and_eq_true] at hk2
          have hin1 := okr_dom ho1 (lk_notScr hk2.1 (by decide)) (lk_notStr hk2.1 (by decide))
          have hin2 := okr_dom ho2 (lk_notScr hk2.2 (by decide)) (lk_notStr hk2.2 (by decide))
          obtain ⟨q1, hq1⟩ := dom_at hin1
          obtain ⟨q2, hq2⟩ := dom_at hin2
          have hat1 := wl_at (α := α) (cT := cT) (σ := σ) hq1
          rw [ce_long hk2.1] at hat1
          have hat2 := wl_at (α := α) (cT := cT) (σ := σ) hq2
          rw [ce_long hk2.2] at hat2
          obtain ⟨u1, hu1⟩ := lk_ty (cT := cT) hin1 hk2.1 (Or.inr (Or.inl ⟨rfl, rfl⟩))
          obtain ⟨u2, hu2⟩ := lk_ty (cT := cT) hin2 hk2.2 (Or.inr (Or.inl ⟨rfl, rfl⟩))
          refine va_copyl (ty := .long) (rest := []) hx hb (by rw [hml]; exact hl.1.symm) hown (hts _ hlk) (hts _ pw0.1) (hts _ pw0.2.1) (hts _ pw0.2.2) hKK.1 hI.1 hI.2.1 hI.2.2.1 q1 q2 u1 u2 hat1 hat2 hu1 hu2 rfl s1 d1 n1 (by omega) (by omega) (fun _ _ => rfl) hR.1 (by show 0 + (nativeFrameWords "java/lang/System" "arraycopy" 5 + 11) ≤ R.locals; rw [nfw]; omega) hd (fun H1 locs1 e1 e2 e3 => ?_)
          have hset : (wl α cT σ).set q2 (α t2 i2, .inl (cT t2, ln t2 i2, .inr (.inl (va_cpy (gL σ t1 i1) (gL σ t2 i2) sp.toNatClampNeg dp.toNatClampNeg n.toNatClampNeg)))) = wl α cT (cpL σ t1 i1 sp.toNatClampNeg t2 i2 dp.toNatClampNeg n.toNatClampNeg) := by
            refine wl_set hq2 ?_ ?_
            · rw [ce_long hk2.2]
              congr 5
              funext j
              rw [gL_cpL]
              unfold va_cpy
              by_cases hj : dp.toNatClampNeg ≤ j ∧ j < dp.toNatClampNeg + n.toNatClampNeg
              · rw [if_pos hj, if_pos ⟨rfl, rfl, hj⟩]
              · rw [if_neg hj, if_neg (fun q => hj q.2.2)]
            · intro t' i' hne
              exact ce_same (fun _ => rfl) (fun j => by rw [gL_cpL, if_neg (fun q => hne ⟨q.1, q.2.1⟩)])
          rw [hset] at e1 e2
          exact hK _ _ _ _ h (fun v hv => by cases hv) hL hn H1 locs1 ls ⟨e1, e2, e3, fun hs => hI.2.2.2 hs⟩ hl
      · rw [hk] at h
        simp only [cond_true] at h
        simp only [Bool.and_eq_true, Bool.not_eq_true'] at hk
        obtain ⟨⟨⟨k1, k2⟩, k3⟩, k4⟩ := hk
        have ns1 : t1 ≠ 497 := fun q => by rw [q] at k3; simp at k3
        have ns2 : t2 ≠ 497 := fun q => by rw [q] at k4; simp at k4
        have hin1 := okr_dom ho1 ns1 (lk_notStr k1 (by decide))
        have hin2 := okr_dom ho2 ns2 (lk_notStr k2 (by decide))
        obtain ⟨q1, hq1⟩ := dom_at hin1
        obtain ⟨q2, hq2⟩ := dom_at hin2
        have hat1 := wl_at (α := α) (cT := cT) (σ := σ) hq1
        rw [ce_int k1 (Or.inl rfl)] at hat1
        have hat2 := wl_at (α := α) (cT := cT) (σ := σ) hq2
        rw [ce_int k2 (Or.inl rfl)] at hat2
        obtain ⟨u1, hu1⟩ := lk_ty (cT := cT) hin1 k1 (Or.inl ⟨rfl, rfl⟩)
        obtain ⟨u2, hu2⟩ := lk_ty (cT := cT) hin2 k2 (Or.inl ⟨rfl, rfl⟩)
        refine va_copyi (ty := .int) (rest := []) hx hb (by rw [hml]; exact hl.1.symm) hown (hts _ hlk) (hts _ pw0.1) (hts _ pw0.2.1) (hts _ pw0.2.2) hKK.1 hI.1 hI.2.1 hI.2.2.1 q1 q2 u1 u2 hat1 hat2 hu1 hu2 rfl s1 d1 n1 (by omega) (by omega) (fun _ _ => rfl) hR.1 (by show 0 + (nativeFrameWords "java/lang/System" "arraycopy" 5 + 11) ≤ R.locals; rw [nfw]; omega) hd (fun H1 locs1 e1 e2 e3 => ?_)
        have hset : (wl α cT σ).set q2 (α t2 i2, .inl (cT t2, ln t2 i2, .inl (va_cpy (gI σ t1 i1) (gI σ t2 i2) sp.toNatClampNeg dp.toNatClampNeg n.toNatClampNeg))) = wl α cT (cpI σ t1 i1 sp.toNatClampNeg t2 i2 dp.toNatClampNeg n.toNatClampNeg) := by
          refine wl_set hq2 ?_ ?_
          · rw [ce_int k2 (Or.inl rfl)]
            congr 4
            funext j
            rw [gI_cpI]
            unfold va_cpy
            by_cases hj : dp.toNatClampNeg ≤ j ∧ j < dp.toNatClampNeg + n.toNatClampNeg
            · rw [if_pos hj, if_pos ⟨rfl, rfl, hj⟩]
            · rw [if_neg hj, if_neg (fun q => hj q.2.2)]
          · intro t' i' hne
            exact ce_same (fun j => by rw [gI_cpI, if_neg (fun q => hne ⟨q.1, q.2.1⟩)]) (fun _ => rfl)
        rw [hset] at e1 e2
        exact hK _ _ _ _ h (fun v hv => by cases hv) hL hn H1 locs1 ls ⟨e1, e2, e3, fun hs => ⟨fun j hj => by rw [gI_cpI, if_neg (fun q => ns2 q.1.symm)]; exact (hI.2.2.2 hs).1 j hj, by rw [gI_cpI, if_neg (fun q => ns2 q.1.symm)]; exact (hI.2.2.2 hs).2⟩⟩ hl
    · cases h
  · cases h
theorem snd_mm (hK : KS p l e R s mi args below meth c cells slots Q α cT D scr xs Ln (maxL m) K z) {f : Int32 → Int32 → Int32}
    (hop : ∀ (x y : Int32) (rest : List Value), (rest.map fun v => v.category).sum ≤ 8 → W p l e R s mi args below meth c H locs cells slots Q (F0 mi (pc + 3) ls (.int (f x y) :: rest)) → W p l e R s mi args below meth c H locs cells slots Q (F0 mi pc ls (.int y :: .int x :: rest)))
    (h : mmI K (pc + 3) L S σ f = some z) (hS : ∀ v ∈ S, okv scr v) (hL : ∀ v, some v ∈ L → okv scr v) (hn : L.length = maxL m) (hI : IW α cT D s scr xs Ln σ H locs) (hl : lv_has ls (maxL m) (lvl α 0 L)) : W p l e R s mi args below meth c H locs cells slots Q (F0 mi pc ls (S.map (conc α))) := by
  unfold mmI at h
  split at h
  · next y x S' =>
    cases hb : Nat.ble (asum S') 8
    · rw [hb] at h; cases h
    · rw [hb] at h
      exact hop _ _ _ (by rw [cat_map]; exact Nat.le_of_ble_eq_true hb) (hK _ _ _ _ h (okS_cons trivial (okS_tail (okS_tail hS))) hL hn H locs ls hI hl)
  · cases h
theorem snd_tx (X : CX p s mi args c α cT D adV scr xs Ln m) (hK : KS p l e R s mi args below meth c cells slots Q α cT D scr xs Ln (maxL m) K z) {idx i : Nat} {y : MethodName} {b : ByteArray} {ml : Nat} {rt : Option FieldType} {As : List AV} {v : AV} {S' : List AV} (hd : decode (mbt m) pc = .ok (.invokevirtual idx, 3)) (hlk : Cond.methodLink (cnm (mcl m)) idx y ∈ WS) (hR : 8 ≤ R.frames ∧ 512 ≤ R.locals ∧ cells ≤ R.cells ∧ slots ≤ R.slots)
    (hw : Cond.instanceMethod y ∈ WS ∧ Cond.selects "java/lang/String" y y ∈ WS ∧ Cond.initialized "java/lang/String" ∈ WS ∧ Cond.code y b ml rt ∈ WS) (hy : y.cls = "java/lang/String") (hml : ml ≤ 10) (hpd : (parseMethodDescriptor y.desc).map (fun d => d.parameters.length) = some As.length) (hi : i < 12) (has : asum S' ≤ 8)
    (hM : Met l y (Cond.code y b ml rt :: WS) (rmm 6) (va_Pc (.ref (α 494 i) :: As.map (conc α)) (PreM α cT D adV σ H.size)) (QM α cT D (some v) σ H.size) 0 0 (AA α H.size)) (hv : okv scr v)
    (h : K (pc + 3) L (v :: S') σ = some z) (hS' : ∀ v ∈ S', okv scr v) (hL : ∀ v, some v ∈ L → okv scr v) (hn : L.length = maxL m) (hI : IW α cT D s scr xs Ln σ H locs) (hl : lv_has ls (maxL m) (lvl α 0 L)) : W p l e R s mi args below meth c H locs cells slots Q (F0 mi pc ls ((As.map (conc α)).reverse ++ .ref (α 494 i) :: S'.map (conc α))) := by
  have X0 := X
  obtain ⟨hx, hb, hmx, hown, hts, hKK, hvk, -⟩ := X
  have hpre : PreV s H "java/lang/String" (α 494 i) (va_Pc (.ref (α 494 i) :: As.map (conc α)) (PreM α cT D adV σ H.size)) (As.map (conc α)) := ⟨blind_M, vk_recv hvk hi hI.2.2.1, fun U hU hW => ⟨rfl, pre_of X0 hI hU hW⟩⟩
  have cw := cwV (R := R) (own := cnm (mcl m)) (C := "java/lang/String") (index := idx) (y := y) (bytes := b) (maxL := ml) (ret := rt) (mc := 0) (ms := 0) (rm := rmm 6) (ws := Cond.code y b ml rt :: WS) As.length hts (fun w hw' => by
    rcases List.mem_append.mp (show w ∈ ([.methodLink (cnm (mcl m)) idx y, .instanceMethod y, .selects "java/lang/String" y y, .initialized "java/lang/String"] : List Cond) ++ (Cond.code y b ml rt :: WS) from hw') with h | h
    · simp only [List.mem_cons, List.not_mem_nil, or_false] at h
      rcases h with rfl | rfl | rfl | rfl
      · exact ⟨hlk, WS_good hlk⟩
      · exact ⟨hw.1, WS_good hw.1⟩
      · exact ⟨hw.2.1, WS_good hw.2.1⟩
      · exact ⟨hw.2.2.1, WS_good hw.2.2.1⟩
    · rcases List.mem_cons.mp h with rfl | h
      · exact ⟨hw.2.2.2, WS_good hw.2.2.2⟩
      · exact ⟨h, WS_good h⟩) rfl rfl rfl ⟨hy, by rw [hy]; decide +kernel, by rw [hy]; decide +kernel, hpd⟩ (by
      show 6 + 1 ≤ R.frames ∧ 8 + (ml + 11) + 64 * 6 ≤ R.locals
      omega)
  exact run_W (va_runV (As := As.map (conc α)) (rest := S'.map (conc α)) ⟨hx, hb, hmx, hown, hts⟩ hM cw hpre rfl (by rw [List.length_map]) hl.1 rfl (by rw [cat_map]; exact lv_room' has) hd hR.2.2) hI (fun _ _ => rfl) (fun H1 locs1 hI1 => hK _ _ _ _ h (okS_cons hv hS') hL hn H1 locs1 ls hI1 hl)
end SND6
end
section
/-! one step, and so many, and a method -/
section SND7
variable {p : Program} {l : Launch} {e : Env} {R : Room} {s : State} {mi : MethodId} {args : Array Value} {below : List Frame} {meth : Method} {c : Code} {cells slots : Nat} {Q : State → Prop} {α : Nat → Nat → Nat} {cT : Nat → ClassId} {D : va_G} {adV : Nat → Nat} {scr : Bool} {xs : Nat → Int32} {Ln m : Nat} {K : AK} {z : AR}
variable {pc : Nat} {L : AL} {S : List AV} {σ : St} {H : Heap} {locs : List Loc} {ls : Array Slot}
theorem tgt1 {t : Nat} {o : Int} (h : tgts pc [t] [o] = true) : (pc : Int) + o = (t : Int) := by
  have h : (decide ((pc : Int) + o = (t : Int)) && true) = true := h
  rw [Bool.and_true] at h
  exact of_decide_eq_true h
theorem tgts_at : ∀ (ts : List Nat) (os : List Int), tgts pc ts os = true → ts.length = os.length ∧ ∀ (k t : Nat), ts[k]? = some t → ∃ o, os[k]? = some o ∧ (pc : Int) + o = (t : Int)
  | [], [], _ => ⟨rfl, fun k t h => by simp at h⟩
  | [], _ :: _, h => by cases h
  | _ :: _, [], h => by cases h
  | t :: ts, o :: os, h => by
    have h : (decide ((pc : Int) + o = (t : Int)) && tgts pc ts os) = true := h
    rw [Bool.and_eq_true] at h
    obtain ⟨h1, h2⟩ := tgts_at ts os h.2
    refine ⟨by simp [h1], fun k t' hk => ?_⟩
    cases k with
    | zero =>
      simp at hk
      subst hk
      exact ⟨o, rfl, of_decide_eq_true h.1⟩
    | succ k =>
      obtain ⟨o', h3, h4⟩ := h2 k t' (by simpa using hk)
      exact ⟨o', by simpa using h3, h4⟩
theorem jmp_or {L : AL} {S : List AV} {σ : St} {x : Int32} {d : Nat} : ∀ (ts : List Nat) (lo : Int), jmp K L S σ x d lo ts = some z → (∃ k t : Nat, ts[k]? = some t ∧ x.toInt = lo + k ∧ K t L S σ = some z) ∨ ((∀ k : Nat, k < ts.length → ¬ x.toInt = lo + k) ∧ K d L S σ = some z)
  | [], lo, h => Or.inr ⟨fun k hk => by simp at hk, h⟩
  | t :: ts, lo, h => by
    have h : (if x.toInt = lo then K t L S σ else jmp K L S σ x d (lo + 1) ts) = some z := h
    split at h
    · next hq => exact Or.inl ⟨0, t, rfl, by omega, h⟩
    · next hq =>
      rcases jmp_or ts (lo + 1) h with ⟨k, t', h1, h2, h3⟩ | ⟨h1, h2⟩
      · exact Or.inl ⟨k + 1, t', by simpa using h1, by omega, h3⟩
      · refine Or.inr ⟨fun k hk => ?_, h2⟩
        cases k with
        | zero => omega
        | succ k =>
          have := h1 k (by simpa using hk)
          omega
theorem snd_jmp (hx : p.tables.exec = Jvm.exec) (hb : c.code = mbt m) (hK : KS p l e R s mi args below meth c cells slots Q α cT D scr xs Ln (maxL m) K z) {d lo hi : Int} {os : Array Int} {len : Nat} {x : Int32} {d' : Nat} {ts : List Nat} {S' : List AV} (hd : decode (mbt m) pc = .ok (.tableswitch d lo hi os, len)) (hok : tgts pc (d' :: ts) (d :: os.toList) = true) (hhi : hi = lo + os.size - 1)
    (h : jmp K L S' σ x d' lo ts = some z) (hS : ∀ v ∈ (.inl x :: S' : List AV), okv scr v) (hL : ∀ v, some v ∈ L → okv scr v) (hn : L.length = maxL m) (hI : IW α cT D s scr xs Ln σ H locs) (hl : lv_has ls (maxL m) (lvl α 0 L)) : W p l e R s mi args below meth c H locs cells slots Q (F0 mi pc ls ((.inl x :: S' : List AV).map (conc α))) := by
  have hok : (decide ((pc : Int) + d = (d' : Int)) && tgts pc ts os.toList) = true := hok
  rw [Bool.and_eq_true] at hok
  have hdt := of_decide_eq_true hok.1
  obtain ⟨hlen, hat⟩ := tgts_at ts os.toList hok.2
  have hlen : ts.length = os.size := by rw [hlen, Array.length_toList]
  have kk : ∀ t, K t L S' σ = some z → W p l e R s mi args below meth c H locs cells slots Q (F0 mi t ls (S'.map (conc α))) := fun t ht => hK _ _ _ _ ht (okS_tail hS) hL hn H locs ls hI hl
  rcases jmp_or ts lo h with ⟨k, t, h1, h2, h3⟩ | ⟨h1, h2⟩
  · have hlt : k < ts.length := (List.getElem?_eq_some_iff.mp h1).1
    obtain ⟨o, g1, g2⟩ := hat k t h1
    exact lv_tableIn hx hb hd (by omega) (by omega) (by rw [← Array.getElem?_toList, show (x.toInt - lo).toNat = k by omega]; exact g1) g2 (kk t h3)
  · by_cases hlo : x.toInt < lo
    · exact lv_tableOut hx hb hd (Or.inl hlo) hdt (kk d' h2)
    · refine lv_tableOut hx hb hd (Or.inr ?_) hdt (kk d' h2)
      by_cases hq : hi < x.toInt
      · exact hq
      · exact absurd (show x.toInt = lo + ((x.toInt - lo).toNat : Nat) by omega) (h1 _ (by omega))
theorem snd_prmS (X : CX p s mi args c α cT D adV scr xs Ln m) (hK : KS p l e R s mi args below meth c cells slots Q α cT D scr xs Ln (maxL m) K z) {idx w r : Nat} (hd : decode (mbt m) pc = .ok (.invokestatic idx, 3)) (hlk : Cond.methodLink (cnm (mcl m)) idx (pnm w) ∈ WS) (hw4 : w ≤ 4) (hw : ¬ (w = 1 ∨ w = 2)) (hlev : 1 ≤ lev m) (hR : lev m + r ≤ R.frames ∧ 64 * (lev m + r) ≤ R.locals ∧ cells ≤ R.cells ∧ slots ≤ R.slots)
    (h : prm K (pc + 3) L S σ w = some z) (hS : ∀ v ∈ S, okv scr v) (hL : ∀ v, some v ∈ L → okv scr v) (hn : L.length = maxL m) (hI : IW α cT D s scr xs Ln σ H locs) (hl : lv_has ls (maxL m) (lvl α 0 L)) : W p l e R s mi args below meth c H locs cells slots Q (F0 mi pc ls (S.map (conc α))) := by
  have hR1 : 1 ≤ R.frames ∧ 64 ≤ R.locals := ⟨by omega, by omega⟩
  have X0 := X
  obtain ⟨hx, hb, hml, hown, hts, hKK, -, -⟩ := X
  match w, hw4, hw with
  | 0, _, _ => exact snd_cpA X0 hK hd hlk hR1 h hS hL hn hI hl
  | 1, _, q => exact absurd (Or.inl rfl) q
  | 2, _, q => exact absurd (Or.inr rfl) q
  | 3, _, _ => exact snd_mm hK (fun x y rest hr k => va_mmax hx hb (by rw [hml]; exact hl.1.symm) hown (hts _ hlk) (hts _ pw3.1) (hts _ pw3.2.1) (hts _ pw3.2.2) hR1.1 (by omega) hR.2.2.1 hR.2.2.2 hd k) h hS hL hn hI hl
  | 4, _, _ => exact snd_mm hK (fun x y rest hr k => va_mmin hx hb (by rw [hml]; exact hl.1.symm) hown (hts _ hlk) (hts _ pw4.1) (hts _ pw4.2.1) (hts _ pw4.2.2) hR1.1 (by omega) hR.2.2.1 hR.2.2.2 hd k) h hS hL hn hI hl
  | n + 5, q, _ => omega
theorem chp : (parseMethodDescriptor yJ0_charAt_5068e.desc).map (fun d => d.parameters.length) = some 1 := by decide +kernel
theorem prm1 {K : AK} {pc : Nat} {L : AL} {S : List AV} {σ : St} : prm K pc L S σ 1 = (match S with
    | .inr (.inr (t, i)) :: S' => cond (Nat.beq t 494 && Nat.ble (asum S') 8) (K pc L (.inl (Int32.ofNat (slen i)) :: S') σ) none
    | _ => none) := rfl
theorem prm2 {K : AK} {pc : Nat} {L : AL} {S : List AV} {σ : St} : prm K pc L S σ 2 = (match S with
    | .inl j :: .inr (.inr (t, i)) :: S' => cond (Nat.beq t 494 && Nat.ble (asum S') 8) (ix j (slen i) (fun k => K pc L (.inl (sch i k) :: S') σ)) none
    | _ => none) := rfl
theorem snd_prmV (X : CX p s mi args c α cT D adV scr xs Ln m) (hK : KS p l e R s mi args below meth c cells slots Q α cT D scr xs Ln (maxL m) K z) (hTX : TX l α cT D adV) {idx w r : Nat} (hd : decode (mbt m) pc = .ok (.invokevirtual idx, 3)) (hlk : Cond.methodLink (cnm (mcl m)) idx (pnm w) ∈ WS) (hw : w = 1 ∨ w = 2) (hlev : 8 ≤ lev m) (hR : lev m + r ≤ R.frames ∧ 64 * (lev m + r) ≤ R.locals ∧ cells ≤ R.cells ∧ slots ≤ R.slots)
    (h : prm K (pc + 3) L S σ w = some z) (hS : ∀ v ∈ S, okv scr v) (hL : ∀ v, some v ∈ L → okv scr v) (hn : L.length = maxL m) (hI : IW α cT D s scr xs Ln σ H locs) (hl : lv_has ls (maxL m) (lvl α 0 L)) : W p l e R s mi args below meth c H locs cells slots Q (F0 mi pc ls (S.map (conc α))) := by
  have hR1 : 8 ≤ R.frames ∧ 512 ≤ R.locals ∧ cells ≤ R.cells ∧ slots ≤ R.slots := ⟨by omega, by omega, hR.2.2⟩
  have str12 : ∀ i, okr scr (494, i) → i < 12 := fun i ho => by
    rcases ho with ho | ⟨-, ho⟩ | ⟨-, ho⟩
    · exact absurd rfl (tag_of ho).2.2
    · exact ho
    · cases ho
  rcases hw with rfl | rfl
  · rw [prm1] at h
    split at h
    · next t i S' =>
      cases hq : (Nat.beq t 494 && Nat.ble (asum S') 8)
      · rw [hq] at h; cases h
      · rw [hq] at h
        rw [Bool.and_eq_true] at hq
        have ht := Nat.eq_of_beq_eq_true hq.1
        subst ht
        have hi := str12 i (hS _ List.mem_cons_self)
        exact snd_tx (As := []) X hK hd hlk hR1 pw1 rfl (by decide) (by decide +kernel) hi (Nat.le_of_ble_eq_true hq.2) (hTX.1 i σ H.size hi) trivial h (okS_tail hS) hL hn hI hl
    · cases h
  · rw [prm2] at h
    split at h
    · next j t i S' =>
      cases hq : (Nat.beq t 494 && Nat.ble (asum S') 8)
      · rw [hq] at h; cases h
      · rw [hq] at h
        rw [Bool.and_eq_true] at hq
        have ht := Nat.eq_of_beq_eq_true hq.1
        subst ht
        have hi := str12 i (hS _ (List.mem_cons_of_mem _ List.mem_cons_self))
        simp only [cond_true] at h
        obtain ⟨hj, h⟩ := inb_of h
        exact snd_tx (As := [.inl j]) X hK hd hlk hR1 pw2 rfl (by decide) chp hi (Nat.le_of_ble_eq_true hq.2) (hTX.2 i j σ H.size hi hj) trivial h (okS_tail (okS_tail hS)) hL hn hI hl
    · cases h
/-- what a method's end gives -/
def RT (p : Program) (l : Launch) (e : Env) (R : Room) (s : State) (mi : MethodId) (args : Array Value) (below : List Frame) (meth : Method) (c : Code) (cells slots : Nat) (Q : State → Prop) (α : Nat → Nat → Nat) (cT : Nat → ClassId) (D : va_G) (scr : Bool) (xs : Nat → Int32) (Ln m : Nat) (z : AR) : Prop :=
  ∀ pc σ H locs ls, IW α cT D s scr xs Ln σ H locs → z.2 = σ →
    (∀ x, z.1 = some (.inl x) → decode (mbt m) pc = .ok (.ireturn, 1) → (mrt m = some .int ∨ (mrt m = some .boolean ∧ (x = 0 ∨ x = 1))) → W p l e R s mi args below meth c H locs cells slots Q (F0 mi pc ls [.int x])) ∧
    (∀ x, z.1 = some (.inr (.inl x)) → decode (mbt m) pc = .ok (.lreturn, 1) → mrt m = some .long → W p l e R s mi args below meth c H locs cells slots Q (F0 mi pc ls [.long x])) ∧
    (z.1 = none → decode (mbt m) pc = .ok (.return_, 1) → mrt m = none → W p l e R s mi args below meth c H locs cells slots Q (F0 mi pc ls []))
theorem lkup_mem {β : Type} {pc : Nat} {x : β} : ∀ (l : List (Nat × β)), lkup pc l = some x → (pc, x) ∈ l
  | [], h => by cases h
  | (k, y) :: l, h => by
    have h : cond (Nat.beq k pc) (some y) (lkup pc l) = some x := h
    cases hq : Nat.beq k pc
    · rw [hq] at h
      exact List.mem_cons_of_mem _ (lkup_mem l h)
    · rw [hq] at h
      cases h
      rw [Nat.eq_of_beq_eq_true hq]
      exact List.mem_cons_self
theorem okE_dec {pc len : Nat} {ins : Instr} {ys : List Nat} {cv : Int32 ⊕ Int64} (h : okE m (pc, ins, len, ys, cv) = true) : decode (mbt m) pc = .ok (ins, len) := by
  unfold okE at h
  rw [Bool.and_eq_true] at h
  exact of_decide_eq_true h.1
theorem okE_x {pc len : Nat} {ins : Instr} {ys : List Nat} {cv : Int32 ⊕ Int64} (h : okE m (pc, ins, len, ys, cv) = true) : okX m pc ins len ys cv = true := by
  unfold okE at h
  rw [Bool.and_eq_true] at h
  exact h.2
set_option maxHeartbeats 4000000 in
theorem snd_step (X : CX p s mi args c α cT D adV scr xs Ln m) {C : AC} (hC : CS l α cT D adV C) (hCk : CK C) (hTX : TX l α cT D adV) (hK : KS p l e R s mi args below meth c cells slots Q α cT D scr xs Ln (maxL m) K z) (hret : RT p l e R s mi args below meth c cells slots Q α cT D scr xs Ln m z) {r : Nat} (hR : lev m + r ≤ R.frames ∧ 64 * (lev m + r) ≤ R.locals ∧ cells ≤ R.cells ∧ slots ≤ R.slots) (hck : (tbs m).all (okE m) = true)
    (hnos0 : scr = false ∨ ∀ m' n rt, inv K C m r (pc + 3) L S σ [m', n, rt] = some z → ∀ v ∈ S.take n, okv false v)
    (h : stepF K C m r pc L S σ = some z) (hS : ∀ v ∈ S, okv scr v) (hL : ∀ v, some v ∈ L → okv scr v) (hn : L.length = maxL m) (hI : IW α cT D s scr xs Ln σ H locs) (hl : lv_has ls (maxL m) (lvl α 0 L)) : W p l e R s mi args below meth c H locs cells slots Q (F0 mi pc ls (S.map (conc α))) := by
  have hnos : ∀ (S' : List AV) (n : Nat) {m' rt : Nat}, inv K C m r (pc + 3) L S σ [m', n, rt] = some z → ∀ v ∈ S.take n, okv false v := fun _ n m' rt hi => by
    rcases hnos0 with hs | hs
    · subst hs
      exact fun v hv => hS v (List.mem_of_mem_take hv)
    · exact hs m' n rt hi
  have hown := X.2.2.2.1
  have hts := X.2.2.2.2.1
  have hKK := X.2.2.2.2.2.1
  have hx := X.1
  have hb := X.2.1
  unfold stepF at h
  split at h
  · cases h
  next ins len ys cv hat =>
  have hd : decode (mbt m) pc = .ok (ins, len) := okE_dec (List.all_eq_true.mp hck _ (lkup_mem _ hat))
  have hok : okX m pc ins len ys cv = true := okE_x (List.all_eq_true.mp hck _ (lkup_mem _ hat))
  clear hat
  cases ins
  case iconst n =>
    have ho := of_decide_eq_true hok
    obtain ⟨rfl, rfl⟩ := ho
    exact lv_iconst hx hb hd rfl (hK _ _ _ _ h (okS_cons trivial hS) hL hn H locs ls hI hl)
  case bipush n =>
    have ho := of_decide_eq_true hok
    obtain ⟨rfl, rfl⟩ := ho
    exact lv_bipush hx hb hd rfl (hK _ _ _ _ h (okS_cons trivial hS) hL hn H locs ls hI hl)
  case sipush n =>
    have ho := of_decide_eq_true hok
    obtain ⟨rfl, rfl⟩ := ho
    exact lv_sipush hx hb hd rfl (hK _ _ _ _ h (okS_cons trivial hS) hL hn H locs ls hI hl)
  case lconst n =>
    have ho := of_decide_eq_true hok
    obtain ⟨rfl, rfl⟩ := ho
    exact lv_lconst hx hb hd rfl (hK _ _ _ _ h (okS_cons trivial hS) hL hn H locs ls hI hl)
  case ldc i =>
    unfold okX at hok
    rw [Bool.and_eq_true] at hok
    obtain ⟨hlen, hok⟩ := hok
    replace hlen := of_decide_eq_true hlen
    subst hlen
    split at hok
    · obtain ⟨q, hq, hqd⟩ := List.any_eq_true.mp hok
      obtain ⟨g1, g2, rfl⟩ := of_decide_eq_true hqd
      have ho := List.all_eq_true.mp oki_all q hq
      rw [g1, g2] at ho
      exact lv_ldc hx hb hown (hts _ (WS_in (inT_mem ho) rfl)) hd (hK _ _ _ _ h (okS_cons trivial hS) hL hn H locs ls hI hl)
    · next k =>
      obtain ⟨g1, g2, g3⟩ := of_decide_eq_true hok
      have hr := hKK.2.2 k g3
      rw [g2] at hr
      have hown5 : s.vm.findClass RX5 = some mi.cls := by rw [g1] at hown; exact hown
      exact va_ldcS hx hb hown5 hr hd (hK _ _ _ _ h (okS_cons (v := .inr (.inr (494, k))) (Or.inr (Or.inl ⟨rfl, g3⟩)) hS) hL hn H locs ls hI hl)
    · cases hok
  case ldc_w i =>
    replace hok : (decide (len = 3) && kis.any (fun e => decide (e.1 = mcl m ∧ e.2.1 = i ∧ cv = .inl e.2.2.1))) = true := hok
    rw [Bool.and_eq_true] at hok
    obtain ⟨hlen, hok⟩ := hok
    replace hlen := of_decide_eq_true hlen
    subst hlen
    obtain ⟨q, hq, hqd⟩ := List.any_eq_true.mp hok
    obtain ⟨g1, g2, rfl⟩ := of_decide_eq_true hqd
    have ho := List.all_eq_true.mp oki_all q hq
    rw [g1, g2] at ho
    exact lv_ldcw hx hb hown (hts _ (WS_in (inT_mem ho) rfl)) hd (hK _ _ _ _ h (okS_cons trivial hS) hL hn H locs ls hI hl)
  case ldc2_w i =>
    replace hok : (decide (len = 3) && kls.any (fun e => decide (e.1 = mcl m ∧ e.2.1 = i ∧ cv = .inr e.2.2.1))) = true := hok
    rw [Bool.and_eq_true] at hok
    obtain ⟨hlen, hok⟩ := hok
    replace hlen := of_decide_eq_true hlen
    subst hlen
    obtain ⟨q, hq, hqd⟩ := List.any_eq_true.mp hok
    obtain ⟨g1, g2, rfl⟩ := of_decide_eq_true hqd
    have ho := List.all_eq_true.mp okj_all q hq
    rw [g1, g2] at ho
    exact lv_ldc2 hx hb hown (hts _ (WS_in (inT_mem ho) rfl)) hd (hK _ _ _ _ h (okS_cons trivial hS) hL hn H locs ls hI hl)
  case iload i =>
    have ho := of_decide_eq_true hok
    subst ho
    exact snd_ldI hx hb hK (Or.inl ⟨hd, rfl⟩) h hS hL hn hI hl
  case iload_n i =>
    have ho := of_decide_eq_true hok
    subst ho
    exact snd_ldI hx hb hK (Or.inr ⟨i, hd, rfl, rfl⟩) h hS hL hn hI hl
  case lload i =>
    have ho := of_decide_eq_true hok
    subst ho
    exact snd_ldL hx hb hK (Or.inl ⟨hd, rfl⟩) h hS hL hn hI hl
  case lload_n i =>
    have ho := of_decide_eq_true hok
    subst ho
    exact snd_ldL hx hb hK (Or.inr ⟨i, hd, rfl, rfl⟩) h hS hL hn hI hl
  case aload i =>
    have ho := of_decide_eq_true hok
    subst ho
    exact snd_ldA hx hb hK (Or.inl ⟨hd, rfl⟩) h hS hL hn hI hl
  case aload_n i =>
    have ho := of_decide_eq_true hok
    subst ho
    exact snd_ldA hx hb hK (Or.inr ⟨i, hd, rfl, rfl⟩) h hS hL hn hI hl
  case istore i =>
    have ho := of_decide_eq_true hok
    subst ho
    exact snd_stI hx hb hK (Or.inl ⟨hd, rfl⟩) h hS hL hn hI hl
  case istore_n i =>
    have ho := of_decide_eq_true hok
    subst ho
    exact snd_stI hx hb hK (Or.inr ⟨i, hd, rfl, rfl⟩) h hS hL hn hI hl
  case lstore i =>
    have ho := of_decide_eq_true hok
    subst ho
    exact snd_stL hx hb hK (Or.inl ⟨hd, rfl⟩) h hS hL hn hI hl
  case lstore_n i =>
    have ho := of_decide_eq_true hok
    subst ho
    exact snd_stL hx hb hK (Or.inr ⟨i, hd, rfl, rfl⟩) h hS hL hn hI hl
  case astore i =>
    have ho := of_decide_eq_true hok
    subst ho
    exact snd_stA hx hb hK (Or.inl ⟨hd, rfl⟩) h hS hL hn hI hl
  case astore_n i =>
    have ho := of_decide_eq_true hok
    subst ho
    exact snd_stA hx hb hK (Or.inr ⟨i, hd, rfl, rfl⟩) h hS hL hn hI hl
  case iinc i n =>
    obtain ⟨rfl, rfl⟩ := of_decide_eq_true hok
    replace h : (match L[i]?, (Sum.inl (Int32.ofInt n) : Int32 ⊕ Int64) with
      | some (some (.inl x)), .inl n => K (pc + 3) (lset1 L i (.inl (x + n))) S σ
      | _, _ => none) = some z := h
    split at h
    · next x n2 hx2 hn2 =>
      cases hn2
      obtain ⟨k, hk⟩ := lvl_idx (α := α) hx2
      have hi : i < maxL m := by rw [← hn]; exact (List.getElem?_eq_some_iff.mp hx2).1
      exact lv_iinc hx hb hd hl hk rfl hi rfl (fun ls' hl' => hK _ _ _ _ h hS (okL_set1 hL (v := .inl _) trivial) (by rw [lset1_len]; exact hn) H locs ls' hI (lset1_has (v := .inl _) hl'))
    · cases h
  case iadd =>
    have ho := of_decide_eq_true hok
    subst ho
    exact snd_biI hK (fun x y rest k => lv_iadd hx hb hd k) h hS hL hn hI hl
  case isub =>
    have ho := of_decide_eq_true hok
    subst ho
    exact snd_biI hK (fun x y rest k => lv_isub hx hb hd k) h hS hL hn hI hl
  case imul =>
    have ho := of_decide_eq_true hok
    subst ho
    exact snd_biI hK (fun x y rest k => lv_imul hx hb hd k) h hS hL hn hI hl
  case iand =>
    have ho := of_decide_eq_true hok
    subst ho
    exact snd_biI hK (fun x y rest k => lv_iand hx hb hd k) h hS hL hn hI hl
  case ior =>
    have ho := of_decide_eq_true hok
    subst ho
    exact snd_biI hK (fun x y rest k => lv_ior hx hb hd k) h hS hL hn hI hl
  case ixor =>
    have ho := of_decide_eq_true hok
    subst ho
    exact snd_biI hK (fun x y rest k => lv_ixor hx hb hd k) h hS hL hn hI hl
  case ishl =>
    have ho := of_decide_eq_true hok
    subst ho
    exact snd_biI hK (fun x y rest k => lv_ishl hx hb hd k) h hS hL hn hI hl
  case ishr =>
    have ho := of_decide_eq_true hok
    subst ho
    exact snd_biI hK (fun x y rest k => lv_ishr hx hb hd k) h hS hL hn hI hl
  case iushr =>
    have ho := of_decide_eq_true hok
    subst ho
    exact snd_biI hK (fun x y rest k => lv_iushr hx hb hd rfl k) h hS hL hn hI hl
  case idiv =>
    have ho := of_decide_eq_true hok
    subst ho
    exact snd_dvI hK (fun x y rest hy k => lv_idiv hx hb hd hy k) h hS hL hn hI hl
  case irem =>
    have ho := of_decide_eq_true hok
    subst ho
    exact snd_dvI hK (fun x y rest hy k => lv_irem hx hb hd hy k) h hS hL hn hI hl
  case ladd =>
    have ho := of_decide_eq_true hok
    subst ho
    exact snd_biL hK (fun x y rest k => lv_ladd hx hb hd k) h hS hL hn hI hl
  case lsub =>
    have ho := of_decide_eq_true hok
    subst ho
    exact snd_biL hK (fun x y rest k => lv_lsub hx hb hd k) h hS hL hn hI hl
  case lmul =>
    have ho := of_decide_eq_true hok
    subst ho
    exact snd_biL hK (fun x y rest k => lv_lmul hx hb hd k) h hS hL hn hI hl
  case land =>
    have ho := of_decide_eq_true hok
    subst ho
    exact snd_biL hK (fun x y rest k => lv_land hx hb hd k) h hS hL hn hI hl
  case lor =>
    have ho := of_decide_eq_true hok
    subst ho
    exact snd_biL hK (fun x y rest k => lv_lor hx hb hd k) h hS hL hn hI hl
  case ldiv =>
    have ho := of_decide_eq_true hok
    subst ho
    exact snd_dvL hK (fun x y rest hy k => lv_ldiv hx hb hd hy k) h hS hL hn hI hl
  case lrem =>
    have ho := of_decide_eq_true hok
    subst ho
    exact snd_dvL hK (fun x y rest hy k => lv_lrem hx hb hd hy k) h hS hL hn hI hl
  case lcmp =>
    have ho := of_decide_eq_true hok
    subst ho
    dsimp only [stepI] at h
    split at h
    · exact W.lcmp hx hb hd (hK _ _ _ _ h (okS_cons trivial (okS_tail (okS_tail hS))) hL hn H locs ls hI hl)
    · cases h
  case lshl =>
    have ho := of_decide_eq_true hok
    subst ho
    dsimp only [stepI] at h
    split at h
    · exact lv_lshl hx hb hd rfl (hK _ _ _ _ h (okS_cons trivial (okS_tail (okS_tail hS))) hL hn H locs ls hI hl)
    · cases h
  case i2l =>
    have ho := of_decide_eq_true hok
    subst ho
    dsimp only [stepI] at h
    split at h
    · exact lv_i2l hx hb hd rfl (hK _ _ _ _ h (okS_cons trivial (okS_tail hS)) hL hn H locs ls hI hl)
    · cases h
  case l2i =>
    have ho := of_decide_eq_true hok
    subst ho
    dsimp only [stepI] at h
    split at h
    · exact lv_l2i hx hb hd rfl (hK _ _ _ _ h (okS_cons trivial (okS_tail hS)) hL hn H locs ls hI hl)
    · cases h
  case i2b =>
    have ho := of_decide_eq_true hok
    subst ho
    dsimp only [stepI] at h
    split at h
    · exact lv_i2b hx hb hd rfl (hK _ _ _ _ h (okS_cons trivial (okS_tail hS)) hL hn H locs ls hI hl)
    · cases h
  case i2s =>
    have ho := of_decide_eq_true hok
    subst ho
    dsimp only [stepI] at h
    split at h
    · exact lv_i2s hx hb hd rfl (hK _ _ _ _ h (okS_cons trivial (okS_tail hS)) hL hn H locs ls hI hl)
    · cases h
  case dup =>
    have ho := of_decide_eq_true hok
    subst ho
    dsimp only [stepI] at h
    split at h
    · next v S' =>
      cases hb1 : Nat.beq (acat v) 1
      · rw [hb1] at h; cases h
      · rw [hb1] at h
        exact lv_dup hx hb hd (by rw [cat_conc]; exact Nat.eq_of_beq_eq_true hb1) (hK _ _ _ _ h (okS_cons (hS _ List.mem_cons_self) hS) hL hn H locs ls hI hl)
    · cases h
  case dup2 =>
    have ho := of_decide_eq_true hok
    subst ho
    dsimp only [stepI] at h
    split at h
    · next x v S' =>
      cases hb1 : Nat.beq (acat v) 1
      · rw [hb1] at h; cases h
      · rw [hb1] at h
        exact lv_dup2_11 (va := .int x) hx hb hd rfl (by rw [cat_conc]; exact Nat.eq_of_beq_eq_true hb1) (hK _ _ _ _ h (okS_cons trivial (okS_cons (hS _ (List.mem_cons_of_mem _ List.mem_cons_self)) hS)) hL hn H locs ls hI hl)
    · cases h
  case pop =>
    have ho := of_decide_eq_true hok
    subst ho
    dsimp only [stepI] at h
    split at h
    · exact lv_pop hx hb hd rfl (hK _ _ _ _ h (okS_tail hS) hL hn H locs ls hI hl)
    · cases h
  case goto o =>
    replace hok : (decide (len = 3) && tgts pc (ys.take 1) [o]) = true := hok
    rw [Bool.and_eq_true] at hok
    have hlen := of_decide_eq_true hok.1
    subst hlen
    dsimp only [stepI] at h
    split at h
    · next tq ks => exact lv_goto hx hb hd (tgt1 hok.2) (hK _ _ _ _ h hS (clr_ok ks hL) (by rw [clr_len]; exact hn) H locs ls hI (clr_has ks hl))
    · cases h
  case ifCond cd o =>
    replace hok : (decide (len = 3) && tgts pc ys [o]) = true := hok
    rw [Bool.and_eq_true] at hok
    have hlen := of_decide_eq_true hok.1
    subst hlen
    dsimp only [stepI] at h
    split at h
    · next t => exact snd_br1 hx hb hK hd (tgt1 hok.2) h hS hL hn hI hl
    · cases h
  case if_icmp cd o =>
    replace hok : (decide (len = 3) && tgts pc ys [o]) = true := hok
    rw [Bool.and_eq_true] at hok
    have hlen := of_decide_eq_true hok.1
    subst hlen
    dsimp only [stepI] at h
    split at h
    · next t => exact snd_br2 hx hb hK hd (tgt1 hok.2) h hS hL hn hI hl
    · cases h
  case tableswitch d lo hi os =>
    replace hok : (tgts pc ys (d :: os.toList) && decide (hi = lo + os.size - 1)) = true := hok
    rw [Bool.and_eq_true] at hok
    have hhi := of_decide_eq_true hok.2
    dsimp only [stepI] at h
    split at h
    · next x S' d' ts => exact snd_jmp hx hb hK hd hok.1 hhi h hS hL hn hI hl
    · cases h
  case getfield i =>
    replace hok : (decide (len = 3) && okfl m i ys false) = true := hok
    rw [Bool.and_eq_true] at hok
    have hlen := of_decide_eq_true hok.1
    subst hlen
    exact snd_gtF X hK hd hok.2 h hS hL hn hI hl
  case putfield i =>
    replace hok : (decide (len = 3) && okfl m i ys true) = true := hok
    rw [Bool.and_eq_true] at hok
    have hlen := of_decide_eq_true hok.1
    subst hlen
    exact snd_ptF X hK hd hok.2 h hS hL hn hI hl
  case iaload =>
    have ho := of_decide_eq_true hok
    subst ho
    dsimp only [stepI] at h
    split at h
    · next j t i S' =>
      cases hk : Nat.beq (lk t) 1
      · rw [hk] at h; cases h
      · rw [hk] at h
        exact snd_iald X hK hd hk h hS hL hn hI hl
    · cases h
  case baload =>
    have ho := of_decide_eq_true hok
    subst ho
    dsimp only [stepI] at h
    split at h
    · next j t i S' =>
      cases hk : (Nat.beq (lk t) 3 || Nat.beq (lk t) 4)
      · rw [hk] at h; cases h
      · rw [hk] at h
        exact snd_bald X hK hd hk h hS hL hn hI hl
    · cases h
  case laload =>
    have ho := of_decide_eq_true hok
    subst ho
    dsimp only [stepI] at h
    split at h
    · next j t i S' =>
      cases hk : Nat.beq (lk t) 2
      · rw [hk] at h; cases h
      · rw [hk] at h
        exact snd_lald X hK hd hk h hS hL hn hI hl
    · cases h
  case aaload =>
    have ho := of_decide_eq_true hok
    subst ho
    dsimp only [stepI] at h
    split at h
    · next j t i S' =>
      cases hk : Nat.beq (lk t) 5
      · rw [hk] at h; cases h
      · rw [hk] at h
        exact snd_aald X hK hd hk h hS hL hn hI hl
    · cases h
  case iastore =>
    have ho := of_decide_eq_true hok
    subst ho
    dsimp only [stepI] at h
    split at h
    · next x j t i S' =>
      cases hk : (Nat.beq (lk t) 1 && !(Nat.beq t 497))
      · rw [hk] at h; cases h
      · rw [hk] at h
        simp only [Bool.and_eq_true, Bool.not_eq_true'] at hk
        exact snd_iast X hK hd hk.1 (fun q => by have := hk.2; rw [q] at this; simp at this) h hS hL hn hI hl
    · cases h
  case bastore =>
    have ho := of_decide_eq_true hok
    subst ho
    dsimp only [stepI] at h
    split at h
    · next x j t i S' =>
      cases hk : Nat.beq (lk t) 3
      · rw [hk] at h
        simp only [cond_false] at h
        cases hk4 : Nat.beq (lk t) 4
        · rw [hk4] at h; cases h
        · rw [hk4] at h
          simp only [cond_true] at h
          split at h
          · next h01 => exact snd_bast4 X hK hd hk4 h01 h hS hL hn hI hl
          · cases h
      · rw [hk] at h
        exact snd_bast3 X hK hd hk h hS hL hn hI hl
    · cases h
  case lastore =>
    have ho := of_decide_eq_true hok
    subst ho
    dsimp only [stepI] at h
    split at h
    · next x j t i S' =>
      cases hk : Nat.beq (lk t) 2
      · rw [hk] at h; cases h
      · rw [hk] at h
        exact snd_last X hK hd hk h hS hL hn hI hl
    · cases h
  case arraylength =>
    have ho := of_decide_eq_true hok
    subst ho
    dsimp only [stepI] at h
    split at h
    · next t i S' =>
      cases hk : (Nat.ble 1 (lk t) && Nat.ble (lk t) 5)
      · rw [hk] at h; cases h
      · rw [hk] at h
        exact snd_alen X hK hd hk h hS hL hn hI hl
    · cases h
  case invokevirtual i =>
    replace hok : (decide (len = 3) && okc m i true ys) = true := hok
    rw [Bool.and_eq_true] at hok
    have hlen := of_decide_eq_true hok.1
    subst hlen
    replace hok := hok.2
    dsimp only [stepI] at h
    unfold okc at hok
    split at h
    · next w =>
      dsimp only at hok
      rw [Bool.and_eq_true] at hok
      obtain ⟨g1, g2, g3, g4⟩ := of_decide_eq_true hok.2
      have hlk := pr_at hok.1
      exact snd_prmV X hK hTX hd hlk (by rcases (by simpa using g2.symm : w = 1 ∨ w = 2) with q | q <;> simp [q]) (g4 (by simpa using g2.symm)) hR h hS hL hn hI hl
    · next m' n rt cl =>
      dsimp only at hok
      simp only [Bool.and_eq_true, Bool.true_and] at hok
      have hcl := of_decide_eq_true hok.2
      unfold inw at h
      split at h
      · next t i2 S1 hdrop =>
        cases hbq : Nat.beq t (8 * cl)
        · rw [hbq] at h; cases h
        · rw [hbq] at h
          simp only [cond_true] at h
          exact snd_inv X hC hCk hK (Or.inl ⟨rfl, hd⟩) hok.1 hR (fun _ => ⟨hcl.1, hcl.2, t, i2, S1, hdrop, Nat.eq_of_beq_eq_true hbq⟩) (hnos S n h) h hS hL hn hI hl
      · cases h
    · cases h
  case invokestatic i =>
    replace hok : (decide (len = 3) && okc m i false ys) = true := hok
    rw [Bool.and_eq_true] at hok
    have hlen := of_decide_eq_true hok.1
    subst hlen
    replace hok := hok.2
    dsimp only [stepI] at h
    unfold okc at hok
    split at h
    · next w =>
      dsimp only at hok
      rw [Bool.and_eq_true] at hok
      obtain ⟨g1, g2, g3, g4⟩ := of_decide_eq_true hok.2
      have hlk := pr_at hok.1
      exact snd_prmS X hK hd hlk g1 (by simpa using g2.symm) g3 hR h hS hL hn hI hl
    · split at hok
      · next mq1 nq1 rq1 hq1 =>
        simp only [Bool.not_false, Bool.true_and] at hok
        exact snd_inv (cl := 0) X hC hCk hK (Or.inr ⟨rfl, hd⟩) hok hR (fun q => by cases q) (hnos S nq1 h) h hS hL hn hI hl
      · simp at hok
      · next w hw => exact absurd rfl (hw w)
      · cases hok
  case ireturn =>
    unfold okX at hok
    rw [Bool.and_eq_true] at hok
    have hlen := of_decide_eq_true hok.1
    subst hlen
    replace hok := hok.2
    dsimp only [stepI] at h
    split at h
    · next x =>
      cases h
      exact (hret pc _ H locs ls hI rfl).1 x rfl hd (Or.inl (of_decide_eq_true hok))
    · next xq1 yq1 yq2 yq3 =>
      unfold retZ at h
      split at h
      · next h01 =>
        cases h
        refine (hret pc _ H locs ls hI rfl).1 yq2 rfl hd (Or.inr ⟨?_, h01⟩)
        split at hok
        · first | exact absurd rfl yq3 | exact absurd rfl yq2 | exact (yq3 _ rfl rfl).elim | exact (yq2 _ rfl rfl).elim | simp_all
        · exact of_decide_eq_true hok
      · cases h
    · cases h
  case lreturn =>
    obtain ⟨rfl, ho⟩ := of_decide_eq_true hok
    dsimp only [stepI] at h
    split at h
    · next x =>
      cases h
      exact (hret pc _ H locs ls hI rfl).2.1 x rfl hd ho
    · cases h
  case return_ =>
    obtain ⟨rfl, ho⟩ := of_decide_eq_true hok
    dsimp only [stepI] at h
    split at h
    · cases h
      exact (hret pc _ H locs ls hI rfl).2.2 rfl hd ho
    · cases h
  all_goals first | (cases h; done) | (dsimp only [stepI] at h; cases h)
/-- so many steps -/
theorem snd_exec (X : CX p s mi args c α cT D adV scr xs Ln m) {C : AC} (hC : CS l α cT D adV C) (hCk : CK C) (hTX : TX l α cT D adV) (hret : RT p l e R s mi args below meth c cells slots Q α cT D scr xs Ln m z) {r : Nat} (hR : lev m + r ≤ R.frames ∧ 64 * (lev m + r) ≤ R.locals ∧ cells ≤ R.cells ∧ slots ≤ R.slots) (hck : (tbs m).all (okE m) = true)
    (hnos0 : scr = false) : ∀ n, KS p l e R s mi args below meth c cells slots Q α cT D scr xs Ln (maxL m) (exec C m r n) z
  | 0 => fun pc L S σ h => by cases h
  | n + 1 => fun pc L S σ h hS hL hn H locs ls hI hl => snd_step X hC hCk hTX (snd_exec X hC hCk hTX hret hR hck hnos0 n) hret hR hck (Or.inl hnos0) h hS hL hn hI hl
end SND7
end
section
/-! a method, by its depth -/
/-- what keeps the script -/
def Kp (F : AK → AC → Option AR) (σ : St) : Prop := ∀ K C, (∀ pc L S σ1 z, K pc L S σ1 = some z → ∀ i j, gI z.2 497 i j = gI σ1 497 i j) → CK C → ∀ z, F K C = some z → ∀ i j, gI z.2 497 i j = gI σ 497 i j
theorem kp_none (σ : St) : Kp (fun _ _ => none) σ := fun _ _ _ _ _ h => by cases h
theorem kp_some (v : Option AV) (σ : St) : Kp (fun _ _ => some (v, σ)) σ := fun _ _ _ _ _ h => by cases h; exact fun _ _ => rfl
theorem kp_K (pc : Nat) (L : AL) (S : List AV) {σ σ1 : St} (h : ∀ i j, gI σ1 497 i j = gI σ 497 i j) : Kp (fun K _ => K pc L S σ1) σ := fun _ _ hK _ z hz i j => (hK _ _ _ _ z hz i j).trans (h i j)
theorem kp_ite {c : Prop} (d : Decidable c) {F G : AK → AC → Option AR} {σ : St} (hF : c → Kp F σ) (hG : ¬ c → Kp G σ) : Kp (fun K C => if c then F K C else G K C) σ := by
  by_cases h : c
  · simp only [if_pos h]; exact hF h
  · simp only [if_neg h]; exact hG h
theorem kp_cond {b : Bool} {F G : AK → AC → Option AR} {σ : St} (hF : b = true → Kp F σ) (hG : b = false → Kp G σ) : Kp (fun K C => cond b (F K C) (G K C)) σ := by
  cases b
  · exact hG rfl
  · exact hF rfl
theorem kp_ix {j : Int32} {n : Nat} {F : Nat → AK → AC → Option AR} {σ : St} (hF : ∀ k, Kp (F k) σ) : Kp (fun K C => ix j n (fun k => F k K C)) σ := by
  unfold ix
  exact kp_ite _ (fun _ => kp_none σ) (fun _ => hF _)
theorem kp_cI {m r : Nat} {a : List AV} {σ : St} {F : Int32 → St → AK → AC → Option AR} (hF : ∀ x s1, Kp (F x s1) s1) : Kp (fun K C => cI (C m r a σ) (fun x s1 => F x s1 K C)) σ := by
  intro K C hK hC z h i j
  obtain ⟨x, s1, h1, h2⟩ := cI_iff.mp h
  exact (hF x s1 K C hK hC z h2 i j).trans (hC _ _ _ _ _ _ h1 i j)
theorem kp_cL {m r : Nat} {a : List AV} {σ : St} {F : Int64 → St → AK → AC → Option AR} (hF : ∀ x s1, Kp (F x s1) s1) : Kp (fun K C => cL (C m r a σ) (fun x s1 => F x s1 K C)) σ := by
  intro K C hK hC z h i j
  obtain ⟨x, s1, h1, h2⟩ := cL_iff.mp h
  exact (hF x s1 K C hK hC z h2 i j).trans (hC _ _ _ _ _ _ h1 i j)
theorem kp_cV {m r : Nat} {a : List AV} {σ : St} {F : St → AK → AC → Option AR} (hF : ∀ s1, Kp (F s1) s1) : Kp (fun K C => cV (C m r a σ) (fun s1 => F s1 K C)) σ := by
  intro K C hK hC z h i j
  obtain ⟨s1, h1, h2⟩ := cV_iff.mp h
  exact (hF s1 K C hK hC z h2 i j).trans (hC _ _ _ _ _ _ h1 i j)
theorem ns_sI {σ : St} {t i k : Nat} {x : Int32} (ht : t ≠ 497) : ∀ i' j', gI (sI σ t i k x) 497 i' j' = gI σ 497 i' j' := fun i' j' => by rw [gI_sI, if_neg (fun z => ht z.1.symm)]
theorem ns_cp {σ : St} {t1 i1 p1 t2 i2 p2 n : Nat} (ht : t2 ≠ 497) : ∀ i' j', gI (cpI σ t1 i1 p1 t2 i2 p2 n) 497 i' j' = gI σ 497 i' j' := fun i' j' => by rw [gI_cpI, if_neg (fun z => ht z.1.symm)]
theorem ns_obj {t c : Nat} (h : Nat.beq t (8 * c) = true) : t ≠ 497 := fun q => by
  have := Nat.eq_of_beq_eq_true h
  omega
theorem kp_gtF {pc : Nat} {L : AL} {S : List AV} {σ : St} {ys : List Nat} : Kp (fun K _ => gtF K pc L S σ ys) σ := by
  unfold gtF
  split
  · refine kp_cond (fun _ => ?_) (fun _ => kp_none σ)
    split <;> exact kp_K _ _ _ (fun _ _ => rfl)
  · exact kp_cond (fun _ => kp_K _ _ _ (fun _ _ => rfl)) (fun _ => kp_none σ)
  · exact kp_none σ
theorem kp_ptF {pc : Nat} {L : AL} {S : List AV} {σ : St} {ys : List Nat} : Kp (fun K _ => ptF K pc L S σ ys) σ := by
  unfold ptF
  split
  · refine kp_cond (fun hq => ?_) (fun _ => kp_none σ)
    split
    · exact kp_K _ _ _ (ns_sI (ns_obj hq))
    · exact kp_ite _ (fun _ => kp_K _ _ _ (ns_sI (ns_obj hq))) (fun _ => kp_none σ)
    · exact kp_none σ
  · exact kp_cond (fun _ => kp_K _ _ _ (fun _ _ => rfl)) (fun _ => kp_none σ)
  · exact kp_none σ
theorem kp_cpA {pc : Nat} {L : AL} {S : List AV} {σ : St} : Kp (fun K _ => cpA K pc L S σ) σ := by
  unfold cpA
  split
  · refine kp_ite _ (fun _ => ?_) (fun _ => kp_none σ)
    refine kp_cond (fun hq => ?_) (fun _ => ?_)
    · simp only [Bool.and_eq_true, Bool.not_eq_true'] at hq
      exact kp_K _ _ _ (ns_cp (fun q => by have := hq.2; rw [q] at this; simp at this))
    · exact kp_cond (fun _ => kp_K _ _ _ (fun _ _ => rfl)) (fun _ => kp_none σ)
  · exact kp_none σ
theorem kp_inv {m r pc : Nat} {L : AL} {S : List AV} {σ : St} {ys : List Nat} : Kp (fun K C => inv K C m r pc L S σ ys) σ := by
  unfold inv
  split
  · refine kp_cond (fun _ => ?_) (fun _ => kp_none σ)
    split
    · exact kp_none σ
    · split
      · exact kp_cV (fun s1 => kp_K _ _ _ (fun _ _ => rfl))
      · exact kp_cI (fun x s1 => kp_K _ _ _ (fun _ _ => rfl))
      · exact kp_cL (fun x s1 => kp_K _ _ _ (fun _ _ => rfl))
  · exact kp_none σ
theorem kp_prm {pc : Nat} {L : AL} {S : List AV} {σ : St} {w : Nat} : Kp (fun K _ => prm K pc L S σ w) σ := by
  unfold prm
  split
  · exact kp_cpA
  · split
    · exact kp_cond (fun _ => kp_K _ _ _ (fun _ _ => rfl)) (fun _ => kp_none σ)
    · exact kp_none σ
  · split
    · exact kp_cond (fun _ => kp_ix (fun _ => kp_K _ _ _ (fun _ _ => rfl))) (fun _ => kp_none σ)
    · exact kp_none σ
  · unfold mmI
    split
    · exact kp_cond (fun _ => kp_K _ _ _ (fun _ _ => rfl)) (fun _ => kp_none σ)
    · exact kp_none σ
  · unfold mmI
    split
    · exact kp_cond (fun _ => kp_K _ _ _ (fun _ _ => rfl)) (fun _ => kp_none σ)
    · exact kp_none σ
theorem kp_bast {pc : Nat} {L : AL} {S : List AV} {σ : St} : Kp (fun K _ => match S with
    | .inl x :: .inl j :: .inr (.inr (t, i)) :: S' => cond (Nat.beq (lk t) 3) (ix j (ln t i) (fun k => K pc L S' (sI σ t i k x.toInt8.toInt32))) (cond (Nat.beq (lk t) 4) (if x = 0 ∨ x = 1 then ix j (ln t i) (fun k => K pc L S' (sI σ t i k x)) else none) none)
    | _ => none) σ := by
  split
  · refine kp_cond (fun hq => kp_ix (fun k => kp_K _ _ _ (ns_sI (lk_notScr hq (by decide))))) (fun _ => ?_)
    exact kp_cond (fun hq => kp_ite _ (fun _ => kp_ix (fun k => kp_K _ _ _ (ns_sI (lk_notScr hq (by decide))))) (fun _ => kp_none σ)) (fun _ => kp_none σ)
  · exact kp_none σ
theorem kp_iast {pc : Nat} {L : AL} {S : List AV} {σ : St} : Kp (fun K _ => match S with
    | .inl x :: .inl j :: .inr (.inr (t, i)) :: S' => cond (Nat.beq (lk t) 1 && !(Nat.beq t 497)) (ix j (ln t i) (fun k => K pc L S' (sI σ t i k x))) none
    | _ => none) σ := by
  split
  · refine kp_cond (fun hq => kp_ix (fun k => kp_K _ _ _ (ns_sI (fun q => ?_)))) (fun _ => kp_none σ)
    rw [Bool.and_eq_true] at hq
    have := hq.2
    rw [q] at this
    simp at this
  · exact kp_none σ
theorem kp_jmp {L : AL} {S : List AV} {σ : St} {x : Int32} {d : Nat} : ∀ (ts : List Nat) (lo : Int), Kp (fun K _ => jmp K L S σ x d lo ts) σ
  | [], _ => kp_K _ _ _ (fun _ _ => rfl)
  | t :: ts, lo => kp_ite _ (fun _ => kp_K _ _ _ (fun _ _ => rfl)) (fun _ => kp_jmp ts (lo + 1))
set_option maxHeartbeats 4000000 in
theorem kp_step (m r pc : Nat) (L : AL) (S : List AV) (σ : St) : Kp (fun K C => stepF K C m r pc L S σ) σ := by
  unfold stepF
  split
  · exact kp_none σ
  · next ins len xs cv e =>
    clear e
    unfold stepI
    cases ins
    case tableswitch =>
      dsimp only
      split
      · exact kp_jmp _ _
      · exact kp_none σ
    case bastore => exact kp_bast
    case iastore => exact kp_iast
    case getfield => exact kp_gtF
    case putfield => exact kp_ptF
    case invokestatic =>
      dsimp only
      split
      · exact kp_prm
      · exact kp_inv
    case invokevirtual =>
      dsimp only
      split
      · exact kp_prm
      · unfold inw
        split
        · exact kp_cond (fun _ => kp_inv) (fun _ => kp_none σ)
        · exact kp_none σ
      · exact kp_none σ
    all_goals dsimp only
    all_goals (try exact kp_none σ)
    all_goals (try exact kp_K _ _ _ (fun _ _ => rfl))
    all_goals (try simp only [ldI, ldL, ldA, stI, stL, stA, biI, biL, dvI, dvL, br1, br2, retZ])
    all_goals repeat' first
      | exact kp_none σ
      | exact kp_some _ σ
      | exact kp_K _ _ _ (fun _ _ => rfl)
      | refine kp_ite _ (fun _ => ?_) (fun _ => ?_)
      | refine kp_ix (fun _ => ?_)
      | refine kp_cond (fun hq => ?_) (fun _ => ?_)
      | split
theorem kp_exec {C : AC} (hC : CK C) (m r : Nat) : ∀ n pc L S σ z, exec C m r n pc L S σ = some z → ∀ i j, gI z.2 497 i j = gI σ 497 i j
  | 0, _, _, _, _, _, h => by cases h
  | n + 1, pc, L, S, σ, z, h => kp_step m r pc L S σ _ _ (kp_exec hC m r n) hC z h
theorem ck_run (N : Nat) : ∀ d, CK (run N d)
  | 0 => fun _ _ _ _ _ _ h => by cases h
  | d + 1 => fun m r a σ res σ' h => by
    have h : cond (Nat.ble (entL a).length (maxL m)) (exec (run N d) m r N 0 (entry m a) [] σ) none = some (res, σ') := h
    cases hq : Nat.ble (entL a).length (maxL m)
    · rw [hq] at h; cases h
    · rw [hq] at h
      exact kp_exec (ck_run N d) m r N _ _ _ _ _ h
theorem ck_Cc : CK Cc := fun m r a σ res σ' h => by
  obtain ⟨n, h⟩ := Cc_iff.mp h
  exact ck_run n n m r a σ res σ' h
/-! the locals with which a method begins -/
theorem entL_get {j : Nat} {v : AV} : ∀ (a : List AV), (entL a)[j]? = some (some v) → v ∈ a
  | [], h => by simp [entL] at h
  | .inl x :: l, h => by
    have h : (some (.inl x) :: entL l)[j]? = some (some v) := h
    cases j with
    | zero => simp at h; rw [← h]; exact List.mem_cons_self
    | succ j => exact List.mem_cons_of_mem _ (entL_get l (by simpa using h))
  | .inr (.inl x) :: l, h => by
    have h : (some (.inr (.inl x)) :: none :: entL l)[j]? = some (some v) := h
    cases j with
    | zero => simp at h; rw [← h]; exact List.mem_cons_self
    | succ j =>
      cases j with
      | zero => simp at h
      | succ j => exact List.mem_cons_of_mem _ (entL_get l (by simpa using h))
  | .inr (.inr q) :: l, h => by
    have h : (some (.inr (.inr q)) :: entL l)[j]? = some (some v) := h
    cases j with
    | zero => simp at h; rw [← h]; exact List.mem_cons_self
    | succ j => exact List.mem_cons_of_mem _ (entL_get l (by simpa using h))
theorem pad_len : ∀ (n : Nat) (L : AL), L.length ≤ n → (pad n L).length = n
  | 0, L, h => by
    show L.length = 0
    omega
  | n + 1, [], _ => by
    show (none :: pad n []).length = n + 1
    simp [pad_len n []]
  | n + 1, v :: L, h => by
    show (v :: pad n L).length = n + 1
    simp at h
    simp [pad_len n L h]
theorem pad_get {v : AV} : ∀ (n : Nat) (L : AL) (j : Nat), (pad n L)[j]? = some (some v) → L[j]? = some (some v)
  | 0, L, j, h => h
  | n + 1, [], j, h => by
    have h : (none :: pad n [])[j]? = some (some v) := h
    cases j with
    | zero => simp at h
    | succ j => exact absurd (pad_get n [] j (by simpa using h)) (by simp)
  | n + 1, u :: L, j, h => by
    have h : (u :: pad n L)[j]? = some (some v) := h
    cases j with
    | zero => simpa using h
    | succ j => simpa using pad_get n L j (by simpa using h)
theorem ent_words (α : Nat → Nat → Nat) : ∀ (a : List AV), (lg_sl (a.map (conc α))).length = (entL a).length
  | [] => rfl
  | v :: l => by
    have ih := ent_words α l
    have e1 : lg_sl ((v :: l).map (conc α)) = (if (conc α v).category = 2 then [.val (conc α v), .second] else [.val (conc α v)]) ++ lg_sl (l.map (conc α)) := rfl
    rw [e1, List.length_append, ih]
    rcases v with x | x | x
    · show 1 + _ = (some (.inl x) :: entL l).length
      simp; omega
    · show 2 + _ = (some (.inr (.inl x)) :: none :: entL l).length
      simp; omega
    · show 1 + _ = (some (.inr (.inr x)) :: entL l).length
      simp; omega
theorem ent_args (α : Nat → Nat → Nat) : ∀ (a : List AV) (i j : Nat) (v : AV), (entL a)[j]? = some (some v) → (i + j, conc α v) ∈ lv_args i (a.map (conc α))
  | [], i, j, v, h => by simp [entL] at h
  | .inl x :: l, i, j, v, h => by
    have h : (some (.inl x) :: entL l)[j]? = some (some v) := h
    show _ ∈ (i, conc α (.inl x)) :: lv_args (i + 1) (l.map (conc α))
    cases j with
    | zero => simp at h; rw [← h]; exact List.mem_cons_self
    | succ j =>
      have := ent_args α l (i + 1) j v (by simpa using h)
      rw [show i + (j + 1) = i + 1 + j by omega]
      exact List.mem_cons_of_mem _ this
  | .inr (.inl x) :: l, i, j, v, h => by
    have h : (some (.inr (.inl x)) :: none :: entL l)[j]? = some (some v) := h
    show _ ∈ (i, conc α (.inr (.inl x))) :: lv_args (i + 2) (l.map (conc α))
    cases j with
    | zero => simp at h; rw [← h]; exact List.mem_cons_self
    | succ j =>
      cases j with
      | zero => simp at h
      | succ j =>
        have := ent_args α l (i + 2) j v (by simpa using h)
        rw [show i + (j + 1 + 1) = i + 2 + j by omega]
        exact List.mem_cons_of_mem _ this
  | .inr (.inr q) :: l, i, j, v, h => by
    have h : (some (.inr (.inr q)) :: entL l)[j]? = some (some v) := h
    show _ ∈ (i, conc α (.inr (.inr q))) :: lv_args (i + 1) (l.map (conc α))
    cases j with
    | zero => simp at h; rw [← h]; exact List.mem_cons_self
    | succ j =>
      have := ent_args α l (i + 1) j v (by simpa using h)
      rw [show i + (j + 1) = i + 1 + j by omega]
      exact List.mem_cons_of_mem _ this
theorem ent_has (α : Nat → Nat → Nat) {m : Nat} {a : List AV} (h : (entL a).length ≤ maxL m) : lv_has ((lg_sl (a.map (conc α)) ++ List.replicate (maxL m - (lg_sl (a.map (conc α))).length) Slot.unset).toArray) (maxL m) (lvl α 0 (entry m a)) := by
  have h0 := lv_entry (a.map (conc α)) (n := maxL m) (by rw [ent_words]; exact h)
  refine ⟨h0.1, h0.2.1, fun q hq => h0.2.2 q ?_⟩
  obtain ⟨k, v, h1, rfl⟩ := (lvl_mem _ 0).mp hq
  exact ent_args α a 0 k v (pad_get _ _ _ h1)
/-- every code of the tables is checked -/
def CKALL : Prop := ∀ m, 1 ≤ m → m ≤ 371 → (tbs m).all (okE m) = true
theorem snd_run (l : Launch) (α : Nat → Nat → Nat) (cT : Nat → ClassId) (D : va_G) (adV : Nat → Nat) (hall : CKALL) (hTX : TX l α cT D adV) (N : Nat) : ∀ d, CS l α cT D adV (run N d)
  | 0 => fun _ _ _ _ _ _ h => by cases h
  | d + 1 => fun m r a σ res σ' h h1 h2 ha sz => by
    have h : cond (Nat.ble (entL a).length (maxL m)) (exec (run N d) m r N 0 (entry m a) [] σ) none = some (res, σ') := h
    cases hq : Nat.ble (entL a).length (maxL m)
    · rw [hq] at h; cases h
    rw [hq] at h
    have hle := Nat.le_of_ble_eq_true hq
    obtain ⟨w1, w2, w3, w4, w5, w6, w7, w8⟩ := md_of h1 h2
    refine Met.ofW (cc := mbt m) (maxL := maxL m) (ret := mrt m) w6 rfl ?_
    intro p e s mi args below meth c s₁ B hml hv
    obtain ⟨rfl, hsz, hP, hKK, hD, hvk⟩ := hv
    subst hsz
    have hx := B.exec
    have hb := B.bytes
    have hr := B.returns
    have hts0 := atoms_spec (ws := wsm m) B.pre
    have hown : s.vm.findClass (myn m).cls = some mi.cls := findClass_of_methodNamed B.named
    have hlocks := B.notSynchronized
    have X : CX p s mi (a.map (conc α)).toArray c α cT D adV false (fun _ => 0) 0 m := ⟨hx, hb, hml, by rw [← w5]; exact hown, fun w hw => hts0 w (List.mem_cons_of_mem _ hw), hKK, hvk, fun q => by cases q⟩
    have hI : IW α cT D s false (fun _ => 0) 0 σ s.heap [] := ⟨hP, hD, va_S.rf, fun q => by cases q⟩
    rw [lg_entry_eq]
    have hret : RT p l e (headSpec (wsm m) (rmm (lev m + r))).room s mi (a.map (conc α)).toArray below meth c 0 0 (MQ below (QM α cT D res σ' s.heap.size) (a.map (conc α)).toArray s 0 0 (AA α s.heap.size)) α cT D false (fun _ => 0) 0 m (res, σ') := by
      intro pc σ1 H locs ls hI1 hz
      have hz : σ' = σ1 := hz
      subst hz
      refine ⟨fun x hres hd hrt => ?_, fun x hres hd hrt => ?_, fun hres hd hrt => ?_⟩
      · have hres : res = some (.inl x) := hres
        subst hres
        rcases hrt with hrt | ⟨hrt, h01⟩
        · exact W.iret hx hb (by rw [hr]; exact hrt) (fun t ht hW => ⟨rfl, by rw [ht]; exact hI1.1, hI1.2.2.1.F ht⟩) hI1.2.2.1.2.2 hd
        · exact W.zret (ty := .boolean) hx hb (by rw [hr]; exact hrt) (bool01 h01).1 (fun t ht hW => ⟨rfl, by rw [ht]; exact hI1.1, hI1.2.2.1.F ht⟩) hI1.2.2.1.2.2 hd
      · have hres : res = some (.inr (.inl x)) := hres
        subst hres
        exact W.lret hx hb (by rw [hr]; exact hrt) (fun t ht hW => ⟨rfl, by rw [ht]; exact hI1.1, hI1.2.2.1.F ht⟩) hI1.2.2.1.2.2 hd
      · have hres : res = none := hres
        subst hres
        exact W.vret hx hb (by rw [hr]; exact hrt) (fun t ht hW => ⟨rfl, by rw [ht]; exact hI1.1, hI1.2.2.1.F ht⟩) hI1.2.2.1.2.2 hd
    refine snd_exec (z := (res, σ')) X (snd_run l α cT D adV hall hTX N d) (ck_run N d) hTX hret (r := r) ⟨Nat.le_refl _, Nat.le_refl _, Nat.le_refl _, Nat.le_refl _⟩ (hall m h1 h2) rfl N 0 (entry m a) [] σ h (fun v hv => by cases hv) (fun v hv => ?_) (pad_len _ _ hle) s.heap [] _ hI (ent_has α hle)
    obtain ⟨j, hj⟩ := List.getElem?_of_mem hv
    exact ha v (entL_get a (pad_get _ _ _ hj))
theorem snd_Cc (l : Launch) (α : Nat → Nat → Nat) (cT : Nat → ClassId) (D : va_G) (adV : Nat → Nat) (hall : CKALL) (hTX : TX l α cT D adV) : CS l α cT D adV Cc := fun m r a σ res σ' h h1 h2 ha sz => by
  obtain ⟨n, h⟩ := Cc_iff.mp h
  exact snd_run l α cT D adV hall hTX n n m r a σ res σ' h h1 h2 ha sz
end
section
/-! BLOCKS: by program (wip/whole/blocks.py) -/
/-! Acts.isFull -/
set_option maxRecDepth 100000 in
theorem c_Acts_isFull (σ : St) (i0 : Nat) : Cc 1 0 [vR 0 i0] σ = if (gI σ 0 i0 3) < (30 : Int32) then retZ 0 σ else retZ 1 σ :=
  (Cc_eq _ _ _ _).trans (U_at (fun pc => false) 400 rfl)
/-! Acts.addExchange -/
set_option maxRecDepth 100000 in
theorem c_Acts_addExchange (σ : St) (a1 a2 a3 : Int32) (i0 : Nat) : Cc 2 0 [vR 0 i0, vI a1, vI a2, vI a3] σ = cI (Cc 1 0 [vR 0 i0] σ) (fun x2 σ1 => if x2 = 0 then ix (gI σ1 0 i0 3) 30 (fun k3 => ix (gI (sI σ1 15489 i0 k3 a1) 0 i0 3) 30 (fun k4 => ix (gI (sI (sI σ1 15489 i0 k3 a1) 15497 i0 k4 a2) 0 i0 3) 30 (fun k5 => some (none, sI (sI (sI (sI σ1 15489 i0 k3 a1) 15497 i0 k4 a2) 15505 i0 k5 a3) 0 i0 3 ((gI (sI (sI (sI σ1 15489 i0 k3 a1) 15497 i0 k4 a2) 15505 i0 k5 a3) 0 i0 3) + (1 : Int32)))))) else some (none, σ1)) :=
  (Cc_eq _ _ _ _).trans (U_at (fun pc => false) 400 rfl)
/-! Acts.addFelling -/
set_option maxRecDepth 100000 in
theorem c_Acts_addFelling (σ : St) (a1 : Int32) (i0 : Nat) : Cc 3 0 [vR 0 i0, vI a1] σ = cV (Cc 2 0 [vR 0 i0, vI a1, vI (-1), vI (-1)] σ) (fun σ1 => some (none, σ1)) :=
  (Cc_eq _ _ _ _).trans (U_at (fun pc => false) 400 rfl)
/-! Acts.isFallen -/
set_option maxRecDepth 100000 in
theorem c_Acts_isFallen (σ : St) (a1 : Int32) (i0 : Nat) : Cc 4 0 [vR 0 i0, vI a1] σ = Vv 4 0 2 [some (vR 0 i0), some (vI a1), some (vI 0)] [] σ :=
  (Cc_eq _ _ _ _).trans (U_at (fun pc => Nat.beq pc 2) 400 rfl)
set_option maxRecDepth 100000 in
theorem v_Acts_isFallen_2 (σ : St) (l1 l2 : Int32) (i0 : Nat) : Vv 4 0 2 [some (vR 0 i0), some (vI l1), some (vI l2)] [] σ = if l2 < (gI σ 0 i0 3) then ix l2 30 (fun k1 => if (gI σ 15505 i0 k1) = (-1 : Int32) then ix l2 30 (fun k2 => if (gI σ 15489 i0 k2) = l1 then retZ 1 σ else Vv 4 0 2 [some (vR 0 i0), some (vI l1), some (vI (l2 + 1))] [] σ) else Vv 4 0 2 [some (vR 0 i0), some (vI l1), some (vI (l2 + 1))] [] σ) else retZ 0 σ :=
  U_at (fun pc => Nat.beq pc 2) 400 rfl
/-! Acts.exchangeIn -/
set_option maxRecDepth 100000 in
theorem c_Acts_exchangeIn (σ : St) (a1 : Int32) (i0 i2 : Nat) : Cc 5 0 [vR 0 i0, vI a1, vR 3289 i2] σ = Vv 5 0 2 [some (vR 0 i0), some (vI a1), some (vR 3289 i2), some (vI 0)] [] σ :=
  (Cc_eq _ _ _ _).trans (U_at (fun pc => Nat.beq pc 2) 400 rfl)
set_option maxRecDepth 100000 in
theorem v_Acts_exchangeIn_2 (σ : St) (l1 l3 : Int32) (i0 i2 : Nat) : Vv 5 0 2 [some (vR 0 i0), some (vI l1), some (vR 3289 i2), some (vI l3)] [] σ = if l3 < (gI σ 0 i0 3) then ix l3 30 (fun k1 => if (gI σ 15505 i0 k1) = l1 then ix l3 30 (fun k2 => ix l3 30 (fun k3 => cV (Cc 6 0 [vR 3289 i2, vI (gI σ 15489 i0 k2), vI (gI σ 15497 i0 k3)] σ) (fun σ4 => Vv 5 0 2 [some (vR 0 i0), some (vI l1), some (vR 3289 i2), some (vI (l3 + 1))] [] σ4))) else Vv 5 0 2 [some (vR 0 i0), some (vI l1), some (vR 3289 i2), some (vI (l3 + 1))] [] σ) else some (none, σ) :=
  U_at (fun pc => Nat.beq pc 2) 400 rfl
/-! Acts.exchange -/
set_option maxRecDepth 100000 in
theorem c_Acts_exchange (σ : St) (a2 a3 : Int32) (i1 : Nat) : Cc 6 0 [vR 3289 i1, vI a2, vI a3] σ = if a2 < 0 then some (none, σ) else if a2 < (Int32.ofNat 6) then if a3 < 0 then some (none, σ) else if a3 < (Int32.ofNat 6) then ix a2 6 (fun k1 => ix a3 6 (fun k2 => ix a2 6 (fun k3 => ix a3 6 (fun k4 => some (none, sI (sI σ 3289 i1 k3 (gI σ 3289 i1 k2)) 3289 i1 k4 (gI σ 3289 i1 k1)))))) else some (none, σ) else some (none, σ) :=
  (Cc_eq _ _ _ _).trans (U_at (fun pc => false) 400 rfl)
/-! Acts.copyFrom -/
set_option maxRecDepth 100000 in
theorem c_Acts_copyFrom (σ : St) (i0 i1 : Nat) : Cc 7 0 [vR 0 i0, vR 0 i1] σ = Vv 7 0 7 [some (vR 0 i0), some (vR 0 i1), some (vI 0)] [] (sI σ 0 i0 3 0) :=
  (Cc_eq _ _ _ _).trans (U_at (fun pc => Nat.beq pc 7) 400 rfl)
set_option maxRecDepth 100000 in
theorem v_Acts_copyFrom_7 (σ : St) (l2 : Int32) (i0 i1 : Nat) : Vv 7 0 7 [some (vR 0 i0), some (vR 0 i1), some (vI l2)] [] σ = if l2 < (gI σ 0 i1 3) then ix l2 30 (fun k1 => ix l2 30 (fun k2 => ix l2 30 (fun k3 => cV (Cc 2 0 [vR 0 i0, vI (gI σ 15489 i1 k1), vI (gI σ 15497 i1 k2), vI (gI σ 15505 i1 k3)] σ) (fun σ4 => Vv 7 0 7 [some (vR 0 i0), some (vR 0 i1), some (vI (l2 + 1))] [] σ4)))) else some (none, σ) :=
  U_at (fun pc => Nat.beq pc 7) 400 rfl
/-! Book.isRight -/
set_option maxRecDepth 100000 in
theorem c_Book_isRight (σ : St) (i1 : Nat) : Cc 8 0 [vR 8 0, vR 80 i1] σ = if (3 : Int32) = 0 then none else if ((gI σ 80 i1 3) - (gI σ 80 i1 3) / (3 : Int32) * (3 : Int32)) = 0 then Vv 8 0 13 [some (vR 8 0), some (vR 80 i1), some (vI 0), none, none, none, none, none, none, none] [] σ else retZ 0 σ :=
  (Cc_eq _ _ _ _).trans (U_at (fun pc => Nat.beq pc 13) 400 rfl)
set_option maxRecDepth 100000 in
theorem v_Book_isRight_13 (σ : St) (l2 : Int32) (i1 : Nat) : Vv 8 0 13 [some (vR 8 0), some (vR 80 i1), some (vI l2), none, none, none, none, none, none, none] [] σ = if l2 < (gI σ 80 i1 3) then cL (Cc 112 0 [vR 80 i1, vI l2] σ) (fun x2 σ1 => cL (Cc 112 0 [vR 80 i1, vI (l2 + (1 : Int32))] σ1) (fun x4 σ3 => cL (Cc 112 0 [vR 80 i1, vI (l2 + (2 : Int32))] σ3) (fun x6 σ5 => if (lg_cmp x2 0) < 0 then if (0 : Int32) = 0 then retZ 0 σ5 else Vv 8 0 13 [some (vR 8 0), some (vR 80 i1), some (vI (l2 + 3)), none, none, none, none, none, none, none] [] σ5 else if (lg_cmp x2 (Int32.toInt64 (gI σ5 48 0 0))) ≤ 0 then if (lg_cmp x4 0) < 0 then if (0 : Int32) = 0 then retZ 0 σ5 else Vv 8 0 13 [some (vR 8 0), some (vR 80 i1), some (vI (l2 + 3)), none, none, none, none, none, none, none] [] σ5 else if (lg_cmp x4 (Int32.toInt64 (gI σ5 32 1 2))) < 0 then if (lg_cmp x6 0) < 0 then if (0 : Int32) = 0 then retZ 0 σ5 else Vv 8 0 13 [some (vR 8 0), some (vR 80 i1), some (vI (l2 + 3)), none, none, none, none, none, none, none] [] σ5 else if (lg_cmp x6 1) ≤ 0 then if (1 : Int32) = 0 then retZ 0 σ5 else Vv 8 0 13 [some (vR 8 0), some (vR 80 i1), some (vI (l2 + 3)), none, none, none, none, none, none, none] [] σ5 else if (0 : Int32) = 0 then retZ 0 σ5 else Vv 8 0 13 [some (vR 8 0), some (vR 80 i1), some (vI (l2 + 3)), none, none, none, none, none, none, none] [] σ5 else if (0 : Int32) = 0 then retZ 0 σ5 else Vv 8 0 13 [some (vR 8 0), some (vR 80 i1), some (vI (l2 + 3)), none, none, none, none, none, none, none] [] σ5 else if (0 : Int32) = 0 then retZ 0 σ5 else Vv 8 0 13 [some (vR 8 0), some (vR 80 i1), some (vI (l2 + 3)), none, none, none, none, none, none, none] [] σ5))) else retZ 1 σ :=
  U_at (fun pc => Nat.beq pc 13) 400 rfl
/-! Book.firstPlaces -/
set_option maxRecDepth 100000 in
theorem c_Book_firstPlaces (σ : St) (a2 : Int32) (i1 : Nat) : Cc 9 0 [vR 8 0, vR 80 i1, vI a2] σ = Vv 9 0 5 [some (vR 8 0), some (vR 80 i1), some (vI a2), some (vI 0), some (vI 0)] [] σ :=
  (Cc_eq _ _ _ _).trans (U_at (fun pc => Nat.beq pc 5) 400 rfl)
set_option maxRecDepth 100000 in
theorem v_Book_firstPlaces_5 (σ : St) (l2 l3 l4 : Int32) (i1 : Nat) : Vv 9 0 5 [some (vR 8 0), some (vR 80 i1), some (vI l2), some (vI l3), some (vI l4)] [] σ = if l4 < (gI σ 32 0 2) then cI (Cc 15 0 [vR 8 0, vR 80 i1, vI l2, vI l4] σ) (fun x2 σ1 => if x2 = 0 then Vv 9 0 5 [some (vR 8 0), some (vR 80 i1), some (vI l2), some (vI l3), some (vI (l4 + 1))] [] σ1 else Vv 9 0 5 [some (vR 8 0), some (vR 80 i1), some (vI l2), some (vI (l3 ||| ((1 : Int32) <<< (l4 &&& 31)))), some (vI (l4 + 1))] [] σ1) else some (some (vI l3), σ) :=
  U_at (fun pc => Nat.beq pc 5) 400 rfl
/-! Book.lawsThatAgree -/
set_option maxRecDepth 100000 in
theorem c_Book_lawsThatAgree (σ : St) (a2 : Int32) (i1 : Nat) : Cc 10 0 [vR 8 0, vR 80 i1, vI a2] σ = Vv 10 0 5 [some (vR 8 0), some (vR 80 i1), some (vI a2), some (vI 0), some (vI 0)] [] σ :=
  (Cc_eq _ _ _ _).trans (U_at (fun pc => Nat.beq pc 5) 400 rfl)
set_option maxRecDepth 100000 in
theorem v_Book_lawsThatAgree_5 (σ : St) (l2 l3 l4 : Int32) (i1 : Nat) : Vv 10 0 5 [some (vR 8 0), some (vR 80 i1), some (vI l2), some (vI l3), some (vI l4)] [] σ = if l4 < (4 : Int32) then cV (Cc 23 0 [vR 24 1] σ) (fun σ1 => cV (Cc 25 0 [vR 24 1, vI l4, vI (-1)] σ1) (fun σ2 => cI (Cc 16 0 [vR 8 0, vR 80 i1, vI l2] σ2) (fun x4 σ3 => if x4 = 0 then Vv 10 0 5 [some (vR 8 0), some (vR 80 i1), some (vI l2), some (vI l3), some (vI (l4 + 1))] [] σ3 else Vv 10 0 5 [some (vR 8 0), some (vR 80 i1), some (vI l2), some (vI (l3 ||| ((1 : Int32) <<< (l4 &&& 31)))), some (vI (l4 + 1))] [] σ3))) else some (some (vI l3), σ) :=
  U_at (fun pc => Nat.beq pc 5) 400 rfl
/-! Book.tallyYears -/
set_option maxRecDepth 100000 in
theorem c_Book_tallyYears (σ : St) (a2 : Int32) (i1 : Nat) : Cc 11 0 [vR 8 0, vR 80 i1, vI a2] σ = Vv 11 0 7 [some (vR 8 0), some (vR 80 i1), some (vI a2), some (vI 0), none] [] (sI σ 8 0 3 0) :=
  (Cc_eq _ _ _ _).trans (U_at (fun pc => Nat.beq pc 7 || Nat.beq pc 16 || Nat.beq pc 47) 400 rfl)
set_option maxRecDepth 100000 in
theorem v_Book_tallyYears_7 (σ : St) (l2 l3 : Int32) (i1 : Nat) : Vv 11 0 7 [some (vR 8 0), some (vR 80 i1), some (vI l2), some (vI l3), none] [] σ = if l3 ≤ (12 : Int32) then Vv 11 0 16 [some (vR 8 0), some (vR 80 i1), some (vI l2), some (vI l3), some (vI 0)] [] σ else Vv 11 0 47 [some (vR 8 0), some (vR 80 i1), some (vI l2), some (vI 0), none] [] σ :=
  U_at (fun pc => Nat.beq pc 7 || Nat.beq pc 16 || Nat.beq pc 47) 400 rfl
set_option maxRecDepth 100000 in
theorem v_Book_tallyYears_16 (σ : St) (l2 l3 l4 : Int32) (i1 : Nat) : Vv 11 0 16 [some (vR 8 0), some (vR 80 i1), some (vI l2), some (vI l3), some (vI l4)] [] σ = if l4 < (6 : Int32) then ix l3 13 (fun k1 => ix l4 6 (fun k2 => Vv 11 0 16 [some (vR 8 0), some (vR 80 i1), some (vI l2), some (vI l3), some (vI (l4 + 1))] [] (sI σ 3361 k1 k2 0))) else Vv 11 0 7 [some (vR 8 0), some (vR 80 i1), some (vI l2), some (vI (l3 + 1)), none] [] σ :=
  U_at (fun pc => Nat.beq pc 7 || Nat.beq pc 16 || Nat.beq pc 47) 400 rfl
set_option maxRecDepth 100000 in
theorem v_Book_tallyYears_47 (σ : St) (l2 l3 : Int32) (i1 : Nat) : Vv 11 0 47 [some (vR 8 0), some (vR 80 i1), some (vI l2), some (vI l3), none] [] σ = if l3 < (gI σ 32 0 2) then cI (Cc 15 0 [vR 8 0, vR 80 i1, vI l2, vI l3] σ) (fun x2 σ1 => if x2 = 0 then Vv 11 0 47 [some (vR 8 0), some (vR 80 i1), some (vI l2), some (vI (l3 + 1)), none] [] σ1 else cV (Cc 12 0 [vR 8 0, vI l2] (sI σ1 8 0 3 ((gI σ1 8 0 3) + (1 : Int32)))) (fun σ3 => Vv 11 0 47 [some (vR 8 0), some (vR 80 i1), some (vI l2), some (vI (l3 + 1)), none] [] σ3)) else some (none, σ) :=
  U_at (fun pc => Nat.beq pc 7 || Nat.beq pc 16 || Nat.beq pc 47) 400 rfl
/-! Book.tallyCourse -/
set_option maxRecDepth 100000 in
theorem c_Book_tallyCourse (σ : St) (a1 : Int32) : Cc 12 0 [vR 8 0, vI a1] σ = Vv 12 0 2 [some (vR 8 0), some (vI a1), some (vI 0), none] [] σ :=
  (Cc_eq _ _ _ _).trans (U_at (fun pc => Nat.beq pc 2) 400 rfl)
set_option maxRecDepth 100000 in
theorem v_Book_tallyCourse_2 (σ : St) (l1 l2 : Int32) : Vv 12 0 2 [some (vR 8 0), some (vI l1), some (vI l2), none] [] σ = if l2 ≤ (gI σ 48 0 0) then if l2 ≤ (12 : Int32) then cI (Cc 35 0 [vR 24 1, vI l1, vI l2] σ) (fun x2 σ1 => if x2 < 0 then Vv 12 0 2 [some (vR 8 0), some (vI l1), some (vI (l2 + 1)), none] [] σ1 else if x2 < (6 : Int32) then ix l2 13 (fun k3 => ix x2 6 (fun k4 => ix x2 6 (fun k5 => Vv 12 0 2 [some (vR 8 0), some (vI l1), some (vI (l2 + 1)), none] [] (sI σ1 3361 k3 k5 ((gI σ1 3361 k3 k4) + (1 : Int32)))))) else Vv 12 0 2 [some (vR 8 0), some (vI l1), some (vI (l2 + 1)), none] [] σ1) else some (none, σ) else some (none, σ) :=
  U_at (fun pc => Nat.beq pc 2) 400 rfl
/-! Book.yearToAsk -/
set_option maxRecDepth 100000 in
theorem c_Book_yearToAsk (σ : St) : Cc 13 0 [vR 8 0] σ = Vv 13 0 9 [some (vR 8 0), some (vI (-1)), some (vI (gI σ 8 0 3)), some (vI 0)] [] σ :=
  (Cc_eq _ _ _ _).trans (U_at (fun pc => Nat.beq pc 9) 400 rfl)
set_option maxRecDepth 100000 in
theorem v_Book_yearToAsk_9 (σ : St) (l1 l2 l3 : Int32) : Vv 13 0 9 [some (vR 8 0), some (vI l1), some (vI l2), some (vI l3)] [] σ = if l3 ≤ (gI σ 48 0 0) then cI (Cc 14 0 [vR 8 0, vI l3] σ) (fun x2 σ1 => if x2 < l2 then cI (Cc 14 0 [vR 8 0, vI l3] σ1) (fun x4 σ3 => Vv 13 0 9 [some (vR 8 0), some (vI l3), some (vI x4), some (vI (l3 + 1))] [] σ3) else Vv 13 0 9 [some (vR 8 0), some (vI l1), some (vI l2), some (vI (l3 + 1))] [] σ1) else some (some (vI l1), σ) :=
  U_at (fun pc => Nat.beq pc 9) 400 rfl
/-! Book.worstIn -/
set_option maxRecDepth 100000 in
theorem c_Book_worstIn (σ : St) (a1 : Int32) : Cc 14 0 [vR 8 0, vI a1] σ = Vv 14 0 4 [some (vR 8 0), some (vI a1), some (vI 0), some (vI 0)] [] σ :=
  (Cc_eq _ _ _ _).trans (U_at (fun pc => Nat.beq pc 4) 400 rfl)
set_option maxRecDepth 100000 in
theorem v_Book_worstIn_4 (σ : St) (l1 l2 l3 : Int32) : Vv 14 0 4 [some (vR 8 0), some (vI l1), some (vI l2), some (vI l3)] [] σ = if l3 < (6 : Int32) then if l1 < 0 then Vv 14 0 4 [some (vR 8 0), some (vI l1), some (vI l2), some (vI (l3 + 1))] [] σ else if l1 ≤ (12 : Int32) then ix l1 13 (fun k1 => ix l3 6 (fun k2 => Vv 14 0 4 [some (vR 8 0), some (vI l1), some (vI (if l2 < (gI σ 3361 k1 k2) then (gI σ 3361 k1 k2) else l2)), some (vI (l3 + 1))] [] σ)) else Vv 14 0 4 [some (vR 8 0), some (vI l1), some (vI l2), some (vI (l3 + 1))] [] σ else some (some (vI l2), σ) :=
  U_at (fun pc => Nat.beq pc 4) 400 rfl
/-! Book.canHaveBeen -/
set_option maxRecDepth 100000 in
theorem c_Book_canHaveBeen (σ : St) (a2 a3 : Int32) (i1 : Nat) : Cc 15 0 [vR 8 0, vR 80 i1, vI a2, vI a3] σ = cV (Cc 24 0 [vR 24 1, vI a2, vI a3] σ) (fun σ1 => cV (Cc 25 0 [vR 24 1, vI (gI σ1 48 0 1), vI (-1)] σ1) (fun σ2 => cI (Cc 16 0 [vR 8 0, vR 80 i1, vI a2] σ2) (fun x4 σ3 => retZ x4 σ3))) :=
  (Cc_eq _ _ _ _).trans (U_at (fun pc => false) 400 rfl)
/-! Book.agrees -/
set_option maxRecDepth 100000 in
theorem c_Book_agrees (σ : St) (a2 : Int32) (i1 : Nat) : Cc 16 0 [vR 8 0, vR 80 i1, vI a2] σ = Vv 16 0 2 [some (vR 8 0), some (vR 80 i1), some (vI a2), some (vI 0), none, none] [] σ :=
  (Cc_eq _ _ _ _).trans (U_at (fun pc => Nat.beq pc 2) 400 rfl)
set_option maxRecDepth 100000 in
theorem v_Book_agrees_2 (σ : St) (l2 l3 : Int32) (i1 : Nat) : Vv 16 0 2 [some (vR 8 0), some (vR 80 i1), some (vI l2), some (vI l3), none, none] [] σ = if l3 < (gI σ 80 i1 3) then cL (Cc 112 0 [vR 80 i1, vI l3] σ) (fun x2 σ1 => cI (Cc 37 0 [vR 24 1, vI l2, vI (Int64.toInt32 x2)] σ1) (fun x4 σ3 => cL (Cc 112 0 [vR 80 i1, vI (l3 + (1 : Int32))] σ3) (fun x6 σ5 => cL (Cc 112 0 [vR 80 i1, vI (l3 + (2 : Int32))] σ5) (fun x8 σ7 => if (lg_cmp (Int32.toInt64 ((x4 >>> ((Int64.toInt32 x6) &&& 31)) &&& (1 : Int32))) x8) = 0 then Vv 16 0 2 [some (vR 8 0), some (vR 80 i1), some (vI l2), some (vI (l3 + 3)), none, none] [] σ7 else retZ 0 σ7)))) else retZ 1 σ :=
  U_at (fun pc => Nat.beq pc 2) 400 rfl
/-! Chances.tenTo -/
set_option maxRecDepth 100000 in
theorem c_Chances_tenTo (σ : St) (a1 : Int32) : Cc 17 0 [vI a1] σ = Vv 17 0 4 [some (vI a1), some (vL 1), none, some (vI 0)] [] σ :=
  (Cc_eq _ _ _ _).trans (U_at (fun pc => Nat.beq pc 4) 400 rfl)
set_option maxRecDepth 100000 in
theorem v_Chances_tenTo_4 (σ : St) (l0 l3 : Int32) (l1 : Int64) : Vv 17 0 4 [some (vI l0), some (vL l1), none, some (vI l3)] [] σ = if l3 < l0 then if l3 < (8 : Int32) then Vv 17 0 4 [some (vI l0), some (vL (l1 * (10 : Int64))), none, some (vI (l3 + 1))] [] σ else some (some (vL l1), σ) else some (some (vL l1), σ) :=
  U_at (fun pc => Nat.beq pc 4) 400 rfl
/-! Chances.weigh -/
set_option maxRecDepth 100000 in
theorem c_Chances_weigh (σ : St) (a1 a2 : Int32) : Cc 18 0 [vR 16 0, vI a1, vI a2] σ = Vv 18 0 2 [some (vR 16 0), some (vI a1), some (vI a2), some (vI 0)] [] σ :=
  (Cc_eq _ _ _ _).trans (U_at (fun pc => Nat.beq pc 2) 400 rfl)
set_option maxRecDepth 100000 in
theorem v_Chances_weigh_2 (σ : St) (l1 l2 l3 : Int32) : Vv 18 0 2 [some (vR 16 0), some (vI l1), some (vI l2), some (vI l3)] [] σ = if l3 < (6 : Int32) then ix l3 6 (fun k1 => Vv 18 0 2 [some (vR 16 0), some (vI l1), some (vI l2), some (vI (l3 + 1))] [] (sL σ 3346 0 k1 0)) else cV (Cc 23 0 [vR 24 1] σ) (fun σ2 => cV (Cc 26 0 [vR 24 1, vI 0] σ2) (fun σ3 => cV (Cc 19 12 [vR 16 0, vI l1, vI 0, vI (if 8 < l2 then 8 else l2), vL 1] σ3) (fun σ4 => some (none, σ4)))) :=
  U_at (fun pc => Nat.beq pc 2) 400 rfl
/-! Chances.branch -/
set_option maxRecDepth 100000 in
theorem c_Chances_branch (σ : St) (rq : Nat) (a1 a2 a3 : Int32) (a4 : Int64) : Cc 19 (rq + 1) [vR 16 0, vI a1, vI a2, vI a3, vL a4] σ = if (lg_cmp a4 0) = 0 then some (none, σ) else if a2 < a3 then cV (Cc 27 0 [vR 24 1, vI a2] σ) (fun σ1 => cV (Cc 26 0 [vR 24 1, vI (a2 + (1 : Int32))] σ1) (fun σ2 => cV (Cc 19 rq [vR 16 0, vI a1, vI (a2 + (1 : Int32)), vI a3, vL (a4 * (Int32.toInt64 ((10 : Int32) - (gI σ2 48 0 2))))] σ2) (fun σ3 => cV (Cc 28 0 [vR 24 1, vI a2, vI (gI σ3 48 0 1)] σ3) (fun σ4 => cV (Cc 26 0 [vR 24 1, vI (a2 + (1 : Int32))] σ4) (fun σ5 => cV (Cc 19 rq [vR 16 0, vI a1, vI (a2 + (1 : Int32)), vI a3, vL (a4 * (Int32.toInt64 (gI σ5 48 0 2)))] σ5) (fun σ6 => some (none, σ6))))))) else cI (Cc 35 0 [vR 24 1, vI a1, vI a2] σ) (fun x8 σ7 => cV (Cc 20 0 [vR 16 0, vI x8, vL a4] σ7) (fun σ9 => some (none, σ9))) :=
  (Cc_eq _ _ _ _).trans (U_at (fun pc => false) 400 rfl)
/-! Chances.addWeight -/
set_option maxRecDepth 100000 in
theorem c_Chances_addWeight (σ : St) (a1 : Int32) (a2 : Int64) : Cc 20 0 [vR 16 0, vI a1, vL a2] σ = if a1 < 0 then some (none, σ) else if a1 < (6 : Int32) then ix a1 6 (fun k1 => ix a1 6 (fun k2 => some (none, sL σ 3346 0 k2 ((gL σ 3346 0 k1) + a2)))) else some (none, σ) :=
  (Cc_eq _ _ _ _).trans (U_at (fun pc => false) 400 rfl)
/-! Chances.weightOf -/
set_option maxRecDepth 100000 in
theorem c_Chances_weightOf (σ : St) (a1 : Int32) : Cc 21 0 [vR 16 0, vI a1] σ = if a1 < 0 then some (some (vL 0), σ) else if a1 < (6 : Int32) then ix a1 6 (fun k1 => some (some (vL (gL σ 3346 0 k1)), σ)) else some (some (vL 0), σ) :=
  (Cc_eq _ _ _ _).trans (U_at (fun pc => false) 400 rfl)
/-! Chances.drawYears -/
set_option maxRecDepth 100000 in
theorem c_Chances_drawYears (σ : St) (a1 : Int32) : Cc 22 0 [vR 16 0, vI a1] σ = Vv 22 0 9 [some (vR 16 0), some (vI a1), some (vL (Int32.toInt64 a1)), none, some (vI 0), some (vI 0)] [] σ :=
  (Cc_eq _ _ _ _).trans (U_at (fun pc => Nat.beq pc 9) 400 rfl)
set_option maxRecDepth 100000 in
theorem v_Chances_drawYears_9 (σ : St) (l1 l4 l5 : Int32) (l2 : Int64) : Vv 22 0 9 [some (vR 16 0), some (vI l1), some (vL l2), none, some (vI l4), some (vI l5)] [] σ = if l5 < (gI σ 48 0 0) then if (65536 : Int64) = 0 then none else if (10 : Int64) = 0 then none else if (lg_cmp ((((((1103515245 : Int64) * l2) + (12345 : Int64)) &&& (2147483647 : Int64)) / (65536 : Int64)) - (((((1103515245 : Int64) * l2) + (12345 : Int64)) &&& (2147483647 : Int64)) / (65536 : Int64)) / (10 : Int64) * (10 : Int64)) (Int32.toInt64 (gI σ 48 0 2))) < 0 then Vv 22 0 9 [some (vR 16 0), some (vI l1), some (vL ((((1103515245 : Int64) * l2) + (12345 : Int64)) &&& (2147483647 : Int64))), none, some (vI (l4 ||| ((1 : Int32) <<< (l5 &&& 31)))), some (vI (l5 + 1))] [] σ else Vv 22 0 9 [some (vR 16 0), some (vI l1), some (vL ((((1103515245 : Int64) * l2) + (12345 : Int64)) &&& (2147483647 : Int64))), none, some (vI l4), some (vI (l5 + 1))] [] σ else some (some (vI l4), σ) :=
  U_at (fun pc => Nat.beq pc 9) 400 rfl
/-! Course.startAsTold -/
set_option maxRecDepth 100000 in
theorem c_Course_startAsTold (σ : St) (i0 : Nat) : Cc 23 0 [vR 24 i0] σ = Vv 23 0 2 [some (vR 24 i0), some (vI 0)] [] σ :=
  (Cc_eq _ _ _ _).trans (U_at (fun pc => Nat.beq pc 2) 400 rfl)
set_option maxRecDepth 100000 in
theorem v_Course_startAsTold_2 (σ : St) (l1 : Int32) (i0 : Nat) : Vv 23 0 2 [some (vR 24 i0), some (vI l1)] [] σ = if l1 < (gI σ 32 4 2) then ix 0 13 (fun k1 => cI (Cc 47 0 [vR 32 4, vI l1] σ) (fun x3 σ2 => ix l1 6 (fun k4 => Vv 23 0 2 [some (vR 24 i0), some (vI (l1 + 1))] [] (sI σ2 3289 (13 * i0 + k1) k4 x3)))) else some (none, σ) :=
  U_at (fun pc => Nat.beq pc 2) 400 rfl
/-! Course.startWith -/
set_option maxRecDepth 100000 in
theorem c_Course_startWith (σ : St) (a1 a2 : Int32) (i0 : Nat) : Cc 24 0 [vR 24 i0, vI a1, vI a2] σ = cI (Cc 47 0 [vR 32 4, vI a1] σ) (fun x2 σ1 => Vv 24 0 15 [some (vR 24 i0), some (vI a1), some (vI a2), some (vI x2), some (vI 0), none] [] σ1) :=
  (Cc_eq _ _ _ _).trans (U_at (fun pc => Nat.beq pc 15) 400 rfl)
set_option maxRecDepth 100000 in
theorem v_Course_startWith_15 (σ : St) (l1 l2 l3 l4 : Int32) (i0 : Nat) : Vv 24 0 15 [some (vR 24 i0), some (vI l1), some (vI l2), some (vI l3), some (vI l4), none] [] σ = if l4 < (gI σ 32 4 2) then cI (Cc 47 0 [vR 32 4, vI l4] σ) (fun x2 σ1 => ix 0 13 (fun k3 => if l4 = l1 then ix l4 6 (fun k4 => Vv 24 0 15 [some (vR 24 i0), some (vI l1), some (vI l2), some (vI l3), some (vI (l4 + 1)), none] [] (sI σ1 3289 (13 * i0 + k3) k4 l2)) else if x2 = l2 then ix l4 6 (fun k5 => Vv 24 0 15 [some (vR 24 i0), some (vI l1), some (vI l2), some (vI l3), some (vI (l4 + 1)), none] [] (sI σ1 3289 (13 * i0 + k3) k5 l3)) else ix l4 6 (fun k6 => Vv 24 0 15 [some (vR 24 i0), some (vI l1), some (vI l2), some (vI l3), some (vI (l4 + 1)), none] [] (sI σ1 3289 (13 * i0 + k3) k6 x2)))) else some (none, σ) :=
  U_at (fun pc => Nat.beq pc 15) 400 rfl
/-! Course.run -/
set_option maxRecDepth 100000 in
theorem c_Course_run (σ : St) (a1 a2 : Int32) (i0 : Nat) : Cc 25 0 [vR 24 i0, vI a1, vI a2] σ = Vv 25 0 2 [some (vR 24 i0), some (vI a1), some (vI a2), some (vI 0)] [] σ :=
  (Cc_eq _ _ _ _).trans (U_at (fun pc => Nat.beq pc 2) 400 rfl)
set_option maxRecDepth 100000 in
theorem v_Course_run_2 (σ : St) (l1 l2 l3 : Int32) (i0 : Nat) : Vv 25 0 2 [some (vR 24 i0), some (vI l1), some (vI l2), some (vI l3)] [] σ = if l3 < (gI σ 48 0 0) then if l3 < (12 : Int32) then cV (Cc 26 0 [vR 24 i0, vI l3] σ) (fun σ1 => if ((l2 >>> (l3 &&& 31)) &&& (1 : Int32)) = 0 then cV (Cc 27 0 [vR 24 i0, vI l3] σ1) (fun σ2 => Vv 25 0 2 [some (vR 24 i0), some (vI l1), some (vI l2), some (vI (l3 + 1))] [] σ2) else cV (Cc 28 0 [vR 24 i0, vI l3, vI l1] σ1) (fun σ3 => Vv 25 0 2 [some (vR 24 i0), some (vI l1), some (vI l2), some (vI (l3 + 1))] [] σ3)) else some (none, σ) else some (none, σ) :=
  U_at (fun pc => Nat.beq pc 2) 400 rfl
/-! Course.exchangeIn -/
set_option maxRecDepth 100000 in
theorem c_Course_exchangeIn (σ : St) (a1 : Int32) (i0 : Nat) : Cc 26 0 [vR 24 i0, vI a1] σ = cI (Cc 29 0 [vI a1] σ) (fun x2 σ1 => if x2 = 0 then some (none, σ1) else ix a1 13 (fun k3 => cV (Cc 5 0 [vR 0 0, vI a1, vR 3289 (13 * i0 + k3)] σ1) (fun σ4 => some (none, σ4)))) :=
  (Cc_eq _ _ _ _).trans (U_at (fun pc => false) 400 rfl)
/-! Course.stayOn -/
set_option maxRecDepth 100000 in
theorem c_Course_stayOn (σ : St) (a1 : Int32) (i0 : Nat) : Cc 27 0 [vR 24 i0, vI a1] σ = cI (Cc 29 0 [vI a1] σ) (fun x2 σ1 => if x2 = 0 then some (none, σ1) else cI (Cc 29 0 [vI (a1 + (1 : Int32))] σ1) (fun x4 σ3 => if x4 = 0 then some (none, σ3) else ix a1 13 (fun k5 => ix (a1 + (1 : Int32)) 13 (fun k6 => if 0 ≤ Int32.toInt 6 ∧ 0 ≤ Int32.toInt 0 ∧ 0 ≤ Int32.toInt 0 ∧ Int32.toInt 0 + Int32.toInt 6 ≤ ((6 : Nat) : Int) ∧ Int32.toInt 0 + Int32.toInt 6 ≤ ((6 : Nat) : Int) then some (none, cpI σ3 3289 (13 * i0 + k5) (Int32.toNatClampNeg 0) 3289 (13 * i0 + k6) (Int32.toNatClampNeg 0) (Int32.toNatClampNeg 6)) else none)))) :=
  (Cc_eq _ _ _ _).trans (U_at (fun pc => false) 400 rfl)
/-! Course.moveOn -/
set_option maxRecDepth 100000 in
theorem c_Course_moveOn (σ : St) (a1 a2 : Int32) (i0 : Nat) : Cc 28 0 [vR 24 i0, vI a1, vI a2] σ = cV (Cc 27 0 [vR 24 i0, vI a1] σ) (fun σ1 => cI (Cc 29 0 [vI (a1 + (1 : Int32))] σ1) (fun x3 σ2 => if x3 = 0 then some (none, σ2) else ix (a1 + (1 : Int32)) 13 (fun k4 => if Int32.toInt a2 = 0 then cI (Cc 51 0 [vR 32 4] σ2) (fun x6 σ5 => cI (Cc 51 0 [vR 32 0] σ5) (fun x8 σ7 => cV (Cc 30 0 [vR 24 i0, vR 3289 (13 * i0 + k4), vI x6, vI x8] σ7) (fun σ9 => some (none, σ9)))) else if Int32.toInt a2 = 0 + 1 then cV (Cc 31 0 [vR 24 i0, vR 3289 (13 * i0 + k4)] σ2) (fun σ10 => some (none, σ10)) else if Int32.toInt a2 = 0 + 1 + 1 then cV (Cc 32 0 [vR 24 i0, vR 3289 (13 * i0 + k4)] σ2) (fun σ11 => some (none, σ11)) else cI (Cc 33 0 [vR 24 i0, vR 3289 (13 * i0 + k4)] σ2) (fun x13 σ12 => cI (Cc 33 0 [vR 24 i0, vR 3289 (13 * i0 + k4)] σ12) (fun x15 σ14 => cI (Cc 34 0 [vR 24 i0, vR 3289 (13 * i0 + k4), vI x15] σ14) (fun x17 σ16 => cV (Cc 30 0 [vR 24 i0, vR 3289 (13 * i0 + k4), vI x13, vI x17] σ16) (fun σ18 => some (none, σ18)))))))) :=
  (Cc_eq _ _ _ _).trans (U_at (fun pc => false) 400 rfl)
/-! Course.isRowOfSpots -/
set_option maxRecDepth 100000 in
theorem c_Course_isRowOfSpots (σ : St) (a1 : Int32) : Cc 29 0 [vI a1] σ = if a1 < 0 then retZ 0 σ else if a1 ≤ (12 : Int32) then retZ 1 σ else retZ 0 σ :=
  (Cc_eq _ _ _ _).trans (U_at (fun pc => false) 400 rfl)
/-! Course.goOn -/
set_option maxRecDepth 100000 in
theorem c_Course_goOn (σ : St) (a2 a3 : Int32) (i0 i1 : Nat) : Cc 30 0 [vR 24 i0, vR 3289 i1, vI a2, vI a3] σ = Vv 30 0 3 [some (vR 24 i0), some (vR 3289 i1), some (vI a2), some (vI a3), some (vI 0)] [] σ :=
  (Cc_eq _ _ _ _).trans (U_at (fun pc => Nat.beq pc 3) 400 rfl)
set_option maxRecDepth 100000 in
theorem v_Course_goOn_3 (σ : St) (l2 l3 l4 : Int32) (i0 i1 : Nat) : Vv 30 0 3 [some (vR 24 i0), some (vR 3289 i1), some (vI l2), some (vI l3), some (vI l4)] [] σ = if l4 < (gI σ 32 4 2) then if ((l2 >>> (l4 &&& 31)) &&& (1 : Int32)) = 0 then Vv 30 0 3 [some (vR 24 i0), some (vR 3289 i1), some (vI l2), some (vI l3), some (vI (l4 + 1))] [] σ else ix l4 6 (fun k1 => cI (Cc 78 0 [vR 48 0, vI l3, vI (gI σ 3289 i1 k1)] σ) (fun x3 σ2 => ix l4 6 (fun k4 => Vv 30 0 3 [some (vR 24 i0), some (vR 3289 i1), some (vI l2), some (vI l3), some (vI (l4 + 1))] [] (sI σ2 3289 i1 k4 x3)))) else some (none, σ) :=
  U_at (fun pc => Nat.beq pc 3) 400 rfl
/-! Course.goBack -/
set_option maxRecDepth 100000 in
theorem c_Course_goBack (σ : St) (i0 i1 : Nat) : Cc 31 0 [vR 24 i0, vR 3289 i1] σ = Vv 31 0 2 [some (vR 24 i0), some (vR 3289 i1), some (vI 0)] [] σ :=
  (Cc_eq _ _ _ _).trans (U_at (fun pc => Nat.beq pc 2) 400 rfl)
set_option maxRecDepth 100000 in
theorem v_Course_goBack_2 (σ : St) (l2 : Int32) (i0 i1 : Nat) : Vv 31 0 2 [some (vR 24 i0), some (vR 3289 i1), some (vI l2)] [] σ = if l2 < (gI σ 32 4 2) then ix l2 6 (fun k1 => if (gI σ 3289 i1 k1) ≤ 0 then ix l2 6 (fun k2 => Vv 31 0 2 [some (vR 24 i0), some (vR 3289 i1), some (vI (l2 + 1))] [] (sI σ 3289 i1 k2 ((gI σ 32 0 2) - (1 : Int32)))) else ix l2 6 (fun k3 => ix l2 6 (fun k4 => Vv 31 0 2 [some (vR 24 i0), some (vR 3289 i1), some (vI (l2 + 1))] [] (sI σ 3289 i1 k4 ((gI σ 3289 i1 k3) - (1 : Int32)))))) else some (none, σ) :=
  U_at (fun pc => Nat.beq pc 2) 400 rfl
/-! Course.changeMostAndLeast -/
set_option maxRecDepth 100000 in
theorem c_Course_changeMostAndLeast (σ : St) (i0 i1 : Nat) : Cc 32 0 [vR 24 i0, vR 3289 i1] σ = Vv 32 0 4 [some (vR 24 i0), some (vR 3289 i1), some (vI (-1)), some (vI 0), none] [] σ :=
  (Cc_eq _ _ _ _).trans (U_at (fun pc => Nat.beq pc 4 || Nat.beq pc 59) 400 rfl)
set_option maxRecDepth 100000 in
theorem v_Course_changeMostAndLeast_4 (σ : St) (l2 l3 : Int32) (i0 i1 : Nat) : Vv 32 0 4 [some (vR 24 i0), some (vR 3289 i1), some (vI l2), some (vI l3), none] [] σ = if l3 < (gI σ 32 4 2) then if l2 = (-1 : Int32) then Vv 32 0 4 [some (vR 24 i0), some (vR 3289 i1), some (vI l3), some (vI (l3 + 1)), none] [] σ else ix l3 6 (fun k1 => cI (Cc 101 0 [vR 72 (i0 / 2), vI (gI σ 3289 i1 k1)] σ) (fun x3 σ2 => ix l2 6 (fun k4 => cI (Cc 101 0 [vR 72 (i0 / 2), vI (gI σ2 3289 i1 k4)] σ2) (fun x6 σ5 => if x3 ≤ x6 then Vv 32 0 4 [some (vR 24 i0), some (vR 3289 i1), some (vI l2), some (vI (l3 + 1)), none] [] σ5 else Vv 32 0 4 [some (vR 24 i0), some (vR 3289 i1), some (vI l3), some (vI (l3 + 1)), none] [] σ5)))) else Vv 32 0 59 [some (vR 24 i0), some (vR 3289 i1), some (vI l2), some (vI (-1)), some (vI 0)] [] σ :=
  U_at (fun pc => Nat.beq pc 4 || Nat.beq pc 59) 400 rfl
set_option maxRecDepth 100000 in
theorem v_Course_changeMostAndLeast_59 (σ : St) (l2 l3 l4 : Int32) (i0 i1 : Nat) : Vv 32 0 59 [some (vR 24 i0), some (vR 3289 i1), some (vI l2), some (vI l3), some (vI l4)] [] σ = if l4 < (gI σ 32 4 2) then if l4 = l2 then Vv 32 0 59 [some (vR 24 i0), some (vR 3289 i1), some (vI l2), some (vI l3), some (vI (l4 + 1))] [] σ else if l3 = (-1 : Int32) then Vv 32 0 59 [some (vR 24 i0), some (vR 3289 i1), some (vI l2), some (vI l4), some (vI (l4 + 1))] [] σ else ix l4 6 (fun k1 => cI (Cc 101 0 [vR 72 (i0 / 2), vI (gI σ 3289 i1 k1)] σ) (fun x3 σ2 => ix l3 6 (fun k4 => cI (Cc 101 0 [vR 72 (i0 / 2), vI (gI σ2 3289 i1 k4)] σ2) (fun x6 σ5 => if x3 < x6 then Vv 32 0 59 [some (vR 24 i0), some (vR 3289 i1), some (vI l2), some (vI l4), some (vI (l4 + 1))] [] σ5 else Vv 32 0 59 [some (vR 24 i0), some (vR 3289 i1), some (vI l2), some (vI l3), some (vI (l4 + 1))] [] σ5)))) else cV (Cc 6 0 [vR 3289 i1, vI l2, vI l3] σ) (fun σ7 => some (none, σ7)) :=
  U_at (fun pc => Nat.beq pc 4 || Nat.beq pc 59) 400 rfl
/-! Course.unhappy -/
set_option maxRecDepth 100000 in
theorem c_Course_unhappy (σ : St) (i0 i1 : Nat) : Cc 33 0 [vR 24 i0, vR 3289 i1] σ = Vv 33 0 4 [some (vR 24 i0), some (vR 3289 i1), some (vI 0), some (vI 0)] [] σ :=
  (Cc_eq _ _ _ _).trans (U_at (fun pc => Nat.beq pc 4) 400 rfl)
set_option maxRecDepth 100000 in
theorem v_Course_unhappy_4 (σ : St) (l2 l3 : Int32) (i0 i1 : Nat) : Vv 33 0 4 [some (vR 24 i0), some (vR 3289 i1), some (vI l2), some (vI l3)] [] σ = if l3 < (gI σ 32 4 2) then ix l3 6 (fun k1 => cI (Cc 48 0 [vR 32 4, vI l3] σ) (fun x3 σ2 => cI (Cc 102 0 [vR 72 (i0 / 2), vI (gI σ 3289 i1 k1), vI x3] σ2) (fun x5 σ4 => if x5 = 0 then Vv 33 0 4 [some (vR 24 i0), some (vR 3289 i1), some (vI (l2 ||| ((1 : Int32) <<< (l3 &&& 31)))), some (vI (l3 + 1))] [] σ4 else Vv 33 0 4 [some (vR 24 i0), some (vR 3289 i1), some (vI l2), some (vI (l3 + 1))] [] σ4))) else some (some (vI l2), σ) :=
  U_at (fun pc => Nat.beq pc 4) 400 rfl
/-! Course.placesOf -/
set_option maxRecDepth 100000 in
theorem c_Course_placesOf (σ : St) (a2 : Int32) (i0 i1 : Nat) : Cc 34 0 [vR 24 i0, vR 3289 i1, vI a2] σ = Vv 34 0 5 [some (vR 24 i0), some (vR 3289 i1), some (vI a2), some (vI 0), some (vI 0)] [] σ :=
  (Cc_eq _ _ _ _).trans (U_at (fun pc => Nat.beq pc 5) 400 rfl)
set_option maxRecDepth 100000 in
theorem v_Course_placesOf_5 (σ : St) (l2 l3 l4 : Int32) (i0 i1 : Nat) : Vv 34 0 5 [some (vR 24 i0), some (vR 3289 i1), some (vI l2), some (vI l3), some (vI l4)] [] σ = if l4 < (gI σ 32 4 2) then if ((l2 >>> (l4 &&& 31)) &&& (1 : Int32)) = 0 then Vv 34 0 5 [some (vR 24 i0), some (vR 3289 i1), some (vI l2), some (vI l3), some (vI (l4 + 1))] [] σ else ix l4 6 (fun k1 => Vv 34 0 5 [some (vR 24 i0), some (vR 3289 i1), some (vI l2), some (vI (l3 ||| ((1 : Int32) <<< ((gI σ 3289 i1 k1) &&& 31)))), some (vI (l4 + 1))] [] σ) else some (some (vI l3), σ) :=
  U_at (fun pc => Nat.beq pc 5) 400 rfl
/-! Course.spot -/
set_option maxRecDepth 100000 in
theorem c_Course_spot (σ : St) (a1 a2 : Int32) (i0 : Nat) : Cc 35 0 [vR 24 i0, vI a1, vI a2] σ = if a2 < 0 then if (0 : Int32) = 0 then some (some (vI 0), σ) else ix a2 13 (fun k1 => ix a1 6 (fun k2 => some (some (vI (gI σ 3289 (13 * i0 + k1) k2)), σ))) else if a2 ≤ (12 : Int32) then if a1 < 0 then if (0 : Int32) = 0 then some (some (vI 0), σ) else ix a2 13 (fun k3 => ix a1 6 (fun k4 => some (some (vI (gI σ 3289 (13 * i0 + k3) k4)), σ))) else if a1 < (6 : Int32) then if (1 : Int32) = 0 then some (some (vI 0), σ) else ix a2 13 (fun k5 => ix a1 6 (fun k6 => some (some (vI (gI σ 3289 (13 * i0 + k5) k6)), σ))) else if (0 : Int32) = 0 then some (some (vI 0), σ) else ix a2 13 (fun k7 => ix a1 6 (fun k8 => some (some (vI (gI σ 3289 (13 * i0 + k7) k8)), σ))) else if (0 : Int32) = 0 then some (some (vI 0), σ) else ix a2 13 (fun k9 => ix a1 6 (fun k10 => some (some (vI (gI σ 3289 (13 * i0 + k9) k10)), σ))) :=
  (Cc_eq _ _ _ _).trans (U_at (fun pc => false) 400 rfl)
/-! Course.isAlike -/
set_option maxRecDepth 100000 in
theorem c_Course_isAlike (σ : St) (a1 a2 : Int32) (i0 : Nat) : Cc 36 0 [vR 24 i0, vI a1, vI a2] σ = Vv 36 0 2 [some (vR 24 i0), some (vI a1), some (vI a2), some (vI 0)] [] σ :=
  (Cc_eq _ _ _ _).trans (U_at (fun pc => Nat.beq pc 2) 400 rfl)
set_option maxRecDepth 100000 in
theorem v_Course_isAlike_2 (σ : St) (l1 l2 l3 : Int32) (i0 : Nat) : Vv 36 0 2 [some (vR 24 i0), some (vI l1), some (vI l2), some (vI l3)] [] σ = if l3 < (gI σ 32 4 2) then cI (Cc 35 0 [vR 24 i0, vI l3, vI l1] σ) (fun x2 σ1 => cI (Cc 35 0 [vR 24 i0, vI l3, vI l2] σ1) (fun x4 σ3 => if x2 = x4 then Vv 36 0 2 [some (vR 24 i0), some (vI l1), some (vI l2), some (vI (l3 + 1))] [] σ3 else retZ 0 σ3)) else retZ 1 σ :=
  U_at (fun pc => Nat.beq pc 2) 400 rfl
/-! Course.marksSeen -/
set_option maxRecDepth 100000 in
theorem c_Course_marksSeen (σ : St) (a1 a2 : Int32) (i0 : Nat) : Cc 37 0 [vR 24 i0, vI a1, vI a2] σ = cI (Cc 35 0 [vR 24 i0, vI a1, vI a2] σ) (fun x2 σ1 => cI (Cc 100 0 [vR 72 (i0 / 2), vI x2] σ1) (fun x4 σ3 => some (some (vI x4), σ3))) :=
  (Cc_eq _ _ _ _).trans (U_at (fun pc => false) 400 rfl)
/-! Course.seesHope -/
set_option maxRecDepth 100000 in
theorem c_Course_seesHope (σ : St) (a1 a2 : Int32) (i0 : Nat) : Cc 38 0 [vR 24 i0, vI a1, vI a2] σ = cI (Cc 35 0 [vR 24 i0, vI a1, vI a2] σ) (fun x2 σ1 => cI (Cc 48 0 [vR 32 4, vI a1] σ1) (fun x4 σ3 => cI (Cc 102 0 [vR 72 (i0 / 2), vI x2, vI x4] σ3) (fun x6 σ5 => retZ x6 σ5))) :=
  (Cc_eq _ _ _ _).trans (U_at (fun pc => false) 400 rfl)
/-! Course.firstGladYear -/
set_option maxRecDepth 100000 in
theorem c_Course_firstGladYear (σ : St) (a1 : Int32) (i0 : Nat) : Cc 39 0 [vR 24 i0, vI a1] σ = Vv 39 0 2 [some (vR 24 i0), some (vI a1), some (vI 0)] [] σ :=
  (Cc_eq _ _ _ _).trans (U_at (fun pc => Nat.beq pc 2) 400 rfl)
set_option maxRecDepth 100000 in
theorem v_Course_firstGladYear_2 (σ : St) (l1 l2 : Int32) (i0 : Nat) : Vv 39 0 2 [some (vR 24 i0), some (vI l1), some (vI l2)] [] σ = if l2 ≤ (gI σ 48 0 0) then cI (Cc 38 0 [vR 24 i0, vI l1, vI l2] σ) (fun x2 σ1 => if x2 = 0 then Vv 39 0 2 [some (vR 24 i0), some (vI l1), some (vI (l2 + 1))] [] σ1 else some (some (vI l2), σ1)) else some (some (vI (-1)), σ) :=
  U_at (fun pc => Nat.beq pc 2) 400 rfl
/-! Course.joyIn -/
set_option maxRecDepth 100000 in
theorem c_Course_joyIn (σ : St) (a1 a2 : Int32) (i0 : Nat) : Cc 40 0 [vR 24 i0, vI a1, vI a2] σ = if a2 ≤ 0 then cI (Cc 37 0 [vR 24 i0, vI a1, vI a2] σ) (fun x2 σ1 => cI (Cc 76 0 [vR 48 0, vI (x2 &&& ((0 : Int32) ^^^ (-1 : Int32)))] σ1) (fun x4 σ3 => some (some (vI x4), σ3))) else cI (Cc 37 0 [vR 24 i0, vI a1, vI (a2 - (1 : Int32))] σ) (fun x6 σ5 => cI (Cc 37 0 [vR 24 i0, vI a1, vI a2] σ5) (fun x8 σ7 => cI (Cc 76 0 [vR 48 0, vI (x8 &&& (x6 ^^^ (-1 : Int32)))] σ7) (fun x10 σ9 => some (some (vI x10), σ9)))) :=
  (Cc_eq _ _ _ _).trans (U_at (fun pc => false) 400 rfl)
/-! Course.joyOfLife -/
set_option maxRecDepth 100000 in
theorem c_Course_joyOfLife (σ : St) (a1 : Int32) (i0 : Nat) : Cc 41 0 [vR 24 i0, vI a1] σ = Vv 41 0 4 [some (vR 24 i0), some (vI a1), some (vI 0), some (vI 0)] [] σ :=
  (Cc_eq _ _ _ _).trans (U_at (fun pc => Nat.beq pc 4) 400 rfl)
set_option maxRecDepth 100000 in
theorem v_Course_joyOfLife_4 (σ : St) (l1 l2 l3 : Int32) (i0 : Nat) : Vv 41 0 4 [some (vR 24 i0), some (vI l1), some (vI l2), some (vI l3)] [] σ = if l3 ≤ (gI σ 48 0 0) then cI (Cc 40 0 [vR 24 i0, vI l1, vI l3] σ) (fun x2 σ1 => Vv 41 0 4 [some (vR 24 i0), some (vI l1), some (vI (l2 + x2)), some (vI (l3 + 1))] [] σ1) else some (some (vI l2), σ) :=
  U_at (fun pc => Nat.beq pc 4) 400 rfl
/-! Course.joyOfAllIn -/
set_option maxRecDepth 100000 in
theorem c_Course_joyOfAllIn (σ : St) (a1 : Int32) (i0 : Nat) : Cc 42 0 [vR 24 i0, vI a1] σ = Vv 42 0 4 [some (vR 24 i0), some (vI a1), some (vI 0), some (vI 0)] [] σ :=
  (Cc_eq _ _ _ _).trans (U_at (fun pc => Nat.beq pc 4) 400 rfl)
set_option maxRecDepth 100000 in
theorem v_Course_joyOfAllIn_4 (σ : St) (l1 l2 l3 : Int32) (i0 : Nat) : Vv 42 0 4 [some (vR 24 i0), some (vI l1), some (vI l2), some (vI l3)] [] σ = if l3 < (gI σ 32 4 2) then cI (Cc 40 0 [vR 24 i0, vI l3, vI l1] σ) (fun x2 σ1 => Vv 42 0 4 [some (vR 24 i0), some (vI l1), some (vI (l2 + x2)), some (vI (l3 + 1))] [] σ1) else some (some (vI l2), σ) :=
  U_at (fun pc => Nat.beq pc 4) 400 rfl
/-! Course.joyOfAll -/
set_option maxRecDepth 100000 in
theorem c_Course_joyOfAll (σ : St) (i0 : Nat) : Cc 43 0 [vR 24 i0] σ = Vv 43 0 4 [some (vR 24 i0), some (vI 0), some (vI 0)] [] σ :=
  (Cc_eq _ _ _ _).trans (U_at (fun pc => Nat.beq pc 4) 400 rfl)
set_option maxRecDepth 100000 in
theorem v_Course_joyOfAll_4 (σ : St) (l1 l2 : Int32) (i0 : Nat) : Vv 43 0 4 [some (vR 24 i0), some (vI l1), some (vI l2)] [] σ = if l2 < (gI σ 32 4 2) then cI (Cc 41 0 [vR 24 i0, vI l2] σ) (fun x2 σ1 => Vv 43 0 4 [some (vR 24 i0), some (vI (l1 + x2)), some (vI (l2 + 1))] [] σ1) else some (some (vI l1), σ) :=
  U_at (fun pc => Nat.beq pc 4) 400 rfl
/-! Pairs.has -/
set_option maxRecDepth 100000 in
theorem c_Pairs_has (σ : St) (a1 : Int32) (i0 : Nat) : Cc 44 0 [vR 32 i0, vI a1] σ = if a1 < 0 then retZ 0 σ else if a1 < (gI σ 32 i0 2) then retZ 1 σ else retZ 0 σ :=
  (Cc_eq _ _ _ _).trans (U_at (fun pc => false) 400 rfl)
/-! Pairs.isFull -/
set_option maxRecDepth 100000 in
theorem c_Pairs_isFull (σ : St) (i0 : Nat) : Cc 45 0 [vR 32 i0] σ = if (gI σ 32 i0 2) < (Int32.ofNat (pln (i0 % 5))) then retZ 0 σ else retZ 1 σ :=
  (Cc_eq _ _ _ _).trans (U_at (fun pc => false) 400 rfl)
/-! Pairs.add -/
set_option maxRecDepth 100000 in
theorem c_Pairs_add (σ : St) (a1 a2 : Int32) (i0 : Nat) : Cc 46 0 [vR 32 i0, vI a1, vI a2] σ = cI (Cc 45 0 [vR 32 i0] σ) (fun x2 σ1 => if x2 = 0 then ix (gI σ1 32 i0 2) (pln (i0 % 5)) (fun k3 => ix (gI (sI σ1 105 i0 k3 a1) 32 i0 2) (pln (i0 % 5)) (fun k4 => some (none, sI (sI (sI σ1 105 i0 k3 a1) 113 i0 k4 a2) 32 i0 2 ((gI (sI (sI σ1 105 i0 k3 a1) 113 i0 k4 a2) 32 i0 2) + (1 : Int32))))) else some (none, σ1)) :=
  (Cc_eq _ _ _ _).trans (U_at (fun pc => false) 400 rfl)
/-! Pairs.one -/
set_option maxRecDepth 100000 in
theorem c_Pairs_one (σ : St) (a1 : Int32) (i0 : Nat) : Cc 47 0 [vR 32 i0, vI a1] σ = if a1 < 0 then some (some (vI 0), σ) else if a1 < (gI σ 32 i0 2) then ix a1 (pln (i0 % 5)) (fun k1 => some (some (vI (gI σ 105 i0 k1)), σ)) else some (some (vI 0), σ) :=
  (Cc_eq _ _ _ _).trans (U_at (fun pc => false) 400 rfl)
/-! Pairs.other -/
set_option maxRecDepth 100000 in
theorem c_Pairs_other (σ : St) (a1 : Int32) (i0 : Nat) : Cc 48 0 [vR 32 i0, vI a1] σ = if a1 < 0 then some (some (vI 0), σ) else if a1 < (gI σ 32 i0 2) then ix a1 (pln (i0 % 5)) (fun k1 => some (some (vI (gI σ 113 i0 k1)), σ)) else some (some (vI 0), σ) :=
  (Cc_eq _ _ _ _).trans (U_at (fun pc => false) 400 rfl)
/-! Pairs.hasPair -/
set_option maxRecDepth 100000 in
theorem c_Pairs_hasPair (σ : St) (a1 a2 : Int32) (i0 : Nat) : Cc 49 0 [vR 32 i0, vI a1, vI a2] σ = Vv 49 0 2 [some (vR 32 i0), some (vI a1), some (vI a2), some (vI 0)] [] σ :=
  (Cc_eq _ _ _ _).trans (U_at (fun pc => Nat.beq pc 2) 400 rfl)
set_option maxRecDepth 100000 in
theorem v_Pairs_hasPair_2 (σ : St) (l1 l2 l3 : Int32) (i0 : Nat) : Vv 49 0 2 [some (vR 32 i0), some (vI l1), some (vI l2), some (vI l3)] [] σ = if l3 < (gI σ 32 i0 2) then ix l3 (pln (i0 % 5)) (fun k1 => if (gI σ 105 i0 k1) = l1 then ix l3 (pln (i0 % 5)) (fun k2 => if (gI σ 113 i0 k2) = l2 then retZ 1 σ else Vv 49 0 2 [some (vR 32 i0), some (vI l1), some (vI l2), some (vI (l3 + 1))] [] σ) else Vv 49 0 2 [some (vR 32 i0), some (vI l1), some (vI l2), some (vI (l3 + 1))] [] σ) else retZ 0 σ :=
  U_at (fun pc => Nat.beq pc 2) 400 rfl
/-! Pairs.hasOne -/
set_option maxRecDepth 100000 in
theorem c_Pairs_hasOne (σ : St) (a1 : Int32) (i0 : Nat) : Cc 50 0 [vR 32 i0, vI a1] σ = Vv 50 0 2 [some (vR 32 i0), some (vI a1), some (vI 0)] [] σ :=
  (Cc_eq _ _ _ _).trans (U_at (fun pc => Nat.beq pc 2) 400 rfl)
set_option maxRecDepth 100000 in
theorem v_Pairs_hasOne_2 (σ : St) (l1 l2 : Int32) (i0 : Nat) : Vv 50 0 2 [some (vR 32 i0), some (vI l1), some (vI l2)] [] σ = if l2 < (gI σ 32 i0 2) then ix l2 (pln (i0 % 5)) (fun k1 => if (gI σ 105 i0 k1) = l1 then retZ 1 σ else Vv 50 0 2 [some (vR 32 i0), some (vI l1), some (vI (l2 + 1))] [] σ) else retZ 0 σ :=
  U_at (fun pc => Nat.beq pc 2) 400 rfl
/-! Pairs.allBits -/
set_option maxRecDepth 100000 in
theorem c_Pairs_allBits (σ : St) (i0 : Nat) : Cc 51 0 [vR 32 i0] σ = some (some (vI (((1 : Int32) <<< ((gI σ 32 i0 2) &&& 31)) - (1 : Int32))), σ) :=
  (Cc_eq _ _ _ _).trans (U_at (fun pc => false) 400 rfl)
/-! Pairs.copyFrom -/
set_option maxRecDepth 100000 in
theorem c_Pairs_copyFrom (σ : St) (i0 i1 : Nat) : Cc 52 0 [vR 32 i0, vR 32 i1] σ = Vv 52 0 7 [some (vR 32 i0), some (vR 32 i1), some (vI 0)] [] (sI σ 32 i0 2 0) :=
  (Cc_eq _ _ _ _).trans (U_at (fun pc => Nat.beq pc 7) 400 rfl)
set_option maxRecDepth 100000 in
theorem v_Pairs_copyFrom_7 (σ : St) (l2 : Int32) (i0 i1 : Nat) : Vv 52 0 7 [some (vR 32 i0), some (vR 32 i1), some (vI l2)] [] σ = if l2 < (gI σ 32 i1 2) then ix l2 (pln (i1 % 5)) (fun k1 => ix l2 (pln (i1 % 5)) (fun k2 => cV (Cc 46 0 [vR 32 i0, vI (gI σ 105 i1 k1), vI (gI σ 113 i1 k2)] σ) (fun σ3 => Vv 52 0 7 [some (vR 32 i0), some (vR 32 i1), some (vI (l2 + 1))] [] σ3))) else some (none, σ) :=
  U_at (fun pc => Nat.beq pc 7) 400 rfl
/-! Reader.append -/
set_option maxRecDepth 100000 in
theorem c_Reader_append (σ : St) (a1 : Int32) : Cc 53 0 [vR 40 0, vI a1] σ = Vv 53 0 3 [some (vR 40 0), some (vI a1), some (vI 24)] [] σ :=
  (Cc_eq _ _ _ _).trans (U_at (fun pc => Nat.beq pc 3) 400 rfl)
set_option maxRecDepth 100000 in
theorem v_Reader_append_3 (σ : St) (l1 l2 : Int32) : Vv 53 0 3 [some (vR 40 0), some (vI l1), some (vI l2)] [] σ = if l2 < 0 then some (none, σ) else if (gI σ 40 0 2) < (700 : Int32) then ix (gI σ 40 0 2) 700 (fun k1 => Vv 53 0 3 [some (vR 40 0), some (vI l1), some (vI (l2 + (-8)))] [] (sI (sI σ 358555 0 k1 (Int32.toInt8 ((Int32.toInt8 (l1 >>> (l2 &&& 31))).toInt32)).toInt32) 40 0 2 ((gI (sI σ 358555 0 k1 (Int32.toInt8 ((Int32.toInt8 (l1 >>> (l2 &&& 31))).toInt32)).toInt32) 40 0 2) + (1 : Int32)))) else some (none, σ) :=
  U_at (fun pc => Nat.beq pc 3) 400 rfl
/-! Reader.readRoof -/
set_option maxRecDepth 100000 in
theorem c_Reader_readRoof (σ : St) : Cc 54 0 [vR 40 0] σ = cV (Cc 79 0 [vR 48 1] σ) (fun σ1 => cV (Cc 68 0 [vR 40 0] (sI (sI (sI σ1 40 0 8 0) 40 0 9 (-1)) 40 0 5 0)) (fun σ2 => Vv 54 0 30 [some (vR 40 0), some (vI 1), some (vI 0)] [] σ2)) :=
  (Cc_eq _ _ _ _).trans (U_at (fun pc => Nat.beq pc 30) 400 rfl)
set_option maxRecDepth 100000 in
theorem v_Reader_readRoof_30 (σ : St) (l1 l2 : Int32) : Vv 54 0 30 [some (vR 40 0), some (vI l1), some (vI l2)] [] σ = if l2 < (700 : Int32) then if l1 = 0 then retZ l1 σ else if (gI σ 40 0 3) = 0 then retZ l1 σ else cI (Cc 55 0 [vR 40 0] σ) (fun x2 σ1 => if x2 = 0 then Vv 54 0 30 [some (vR 40 0), some (vI 0), some (vI (l2 + 1))] [] (sI σ1 48 1 3 ((gI σ1 48 1 3) + (1 : Int32))) else cI (Cc 63 0 [vR 40 0] σ1) (fun x4 σ3 => if x4 = 0 then Vv 54 0 30 [some (vR 40 0), some (vI 0), some (vI (l2 + 1))] [] (sI σ3 48 1 3 ((gI σ3 48 1 3) + (1 : Int32))) else Vv 54 0 30 [some (vR 40 0), some (vI 1), some (vI (l2 + 1))] [] (sI σ3 48 1 3 ((gI σ3 48 1 3) + (1 : Int32))))) else retZ l1 σ :=
  U_at (fun pc => Nat.beq pc 30) 400 rfl
/-! Reader.readLine -/
set_option maxRecDepth 100000 in
theorem c_Reader_readLine (σ : St) : Cc 55 0 [vR 40 0] σ = if (gI σ 48 1 3) = 0 then cI (Cc 56 0 [vR 40 0] σ) (fun x2 σ1 => retZ x2 σ1) else cI (Cc 66 0 [vR 40 0, vR 494 7] σ) (fun x4 σ3 => if x4 = 0 then cI (Cc 66 0 [vR 40 0, vR 494 5] σ3) (fun x6 σ5 => if x6 = 0 then cI (Cc 66 0 [vR 40 0, vR 494 1] σ5) (fun x8 σ7 => if x8 = 0 then cI (Cc 66 0 [vR 40 0, vR 494 9] σ7) (fun x10 σ9 => if x10 = 0 then cI (Cc 66 0 [vR 40 0, vR 494 4] σ9) (fun x12 σ11 => if x12 = 0 then cI (Cc 65 0 [vR 40 0, vI 1, vI (gI σ11 40 0 4)] σ11) (fun x14 σ13 => retZ x14 σ13) else cI (Cc 60 0 [vR 40 0] σ11) (fun x16 σ15 => retZ x16 σ15)) else cI (Cc 59 0 [vR 40 0] σ9) (fun x18 σ17 => retZ x18 σ17)) else cI (Cc 57 0 [vR 40 0, vR 32 7] σ7) (fun x20 σ19 => retZ x20 σ19)) else cI (Cc 57 0 [vR 40 0, vR 32 6] σ5) (fun x22 σ21 => if x22 = 0 then retZ 0 σ21 else cI (Cc 58 0 [vR 40 0] σ21) (fun x24 σ23 => if x24 = 0 then retZ 0 σ23 else retZ 1 σ23))) else cI (Cc 57 0 [vR 40 0, vR 32 5] σ3) (fun x26 σ25 => retZ x26 σ25)) :=
  (Cc_eq _ _ _ _).trans (U_at (fun pc => false) 400 rfl)
/-! Reader.readRoofLine -/
set_option maxRecDepth 100000 in
theorem c_Reader_readRoofLine (σ : St) : Cc 56 0 [vR 40 0] σ = cI (Cc 62 0 [vR 40 0, vR 494 8] σ) (fun x2 σ1 => if x2 = 0 then retZ 0 σ1 else cI (Cc 62 0 [vR 40 0, vR 494 11] σ1) (fun x4 σ3 => if x4 = 0 then retZ 0 σ3 else cI (Cc 64 0 [vR 40 0, vI 1, vI 12] σ3) (fun x6 σ5 => if x6 = 0 then retZ 0 σ5 else cI (Cc 62 0 [vR 40 0, vR 494 3] (sI σ5 48 1 0 (gI σ5 40 0 6))) (fun x8 σ7 => if x8 = 0 then retZ 0 σ7 else cI (Cc 64 0 [vR 40 0, vI 0, vI 3] σ7) (fun x10 σ9 => if x10 = 0 then retZ 0 σ9 else cI (Cc 62 0 [vR 40 0, vR 494 6] (sI σ9 48 1 1 (gI σ9 40 0 6))) (fun x12 σ11 => if x12 = 0 then retZ 0 σ11 else cI (Cc 64 0 [vR 40 0, vI 0, vI 10] σ11) (fun x14 σ13 => if x14 = 0 then retZ 0 σ13 else retZ 1 (sI σ13 48 1 2 (gI σ13 40 0 6))))))))) :=
  (Cc_eq _ _ _ _).trans (U_at (fun pc => false) 400 rfl)
/-! Reader.readPoint -/
set_option maxRecDepth 100000 in
theorem c_Reader_readPoint (σ : St) (i1 : Nat) : Cc 57 0 [vR 40 0, vR 32 i1] σ = cI (Cc 61 0 [vR 40 0, vR 32 i1] σ) (fun x2 σ1 => if x2 = 0 then retZ 0 σ1 else cI (Cc 64 0 [vR 40 0, vI 0, vI 30] σ1) (fun x4 σ3 => if x4 = 0 then retZ 0 σ3 else cI (Cc 64 0 [vR 40 0, vI 0, vI 30] σ3) (fun x6 σ5 => if x6 = 0 then retZ 0 σ5 else cI (Cc 72 0 [vR 48 1, vI (gI σ3 40 0 6), vI (gI σ5 40 0 6)] σ5) (fun x8 σ7 => if x8 = 0 then cV (Cc 46 0 [vR 32 i1, vI (gI σ3 40 0 6), vI (gI σ7 40 0 6)] σ7) (fun σ9 => retZ 1 σ9) else cI (Cc 65 0 [vR 40 0, vI 2, vI (gI σ7 40 0 7)] σ7) (fun x11 σ10 => retZ x11 σ10))))) :=
  (Cc_eq _ _ _ _).trans (U_at (fun pc => false) 400 rfl)
/-! Reader.readWorth -/
set_option maxRecDepth 100000 in
theorem c_Reader_readWorth (σ : St) : Cc 58 0 [vR 40 0] σ = cI (Cc 62 0 [vR 40 0, vR 494 10] σ) (fun x2 σ1 => if x2 = 0 then retZ 0 σ1 else cI (Cc 64 0 [vR 40 0, vI 0, vI 99] σ1) (fun x4 σ3 => if x4 = 0 then retZ 0 σ3 else cV (Cc 75 0 [vR 48 1, vI ((gI σ3 32 6 2) - (1 : Int32)), vI (gI σ3 40 0 6)] σ3) (fun σ5 => retZ 1 σ5))) :=
  (Cc_eq _ _ _ _).trans (U_at (fun pc => false) 400 rfl)
/-! Reader.readWay -/
set_option maxRecDepth 100000 in
theorem c_Reader_readWay (σ : St) : Cc 59 0 [vR 40 0] σ = cI (Cc 61 0 [vR 40 0, vR 32 8] σ) (fun x2 σ1 => if x2 = 0 then retZ 0 σ1 else cI (Cc 64 0 [vR 40 0, vI 0, vI ((gI σ1 32 5 2) - (1 : Int32))] σ1) (fun x4 σ3 => if x4 = 0 then retZ 0 σ3 else cI (Cc 64 0 [vR 40 0, vI 0, vI ((gI σ3 32 5 2) - (1 : Int32))] σ3) (fun x6 σ5 => if x6 = 0 then retZ 0 σ5 else if (gI σ5 40 0 6) = (gI σ3 40 0 6) then cI (Cc 65 0 [vR 40 0, vI 2, vI (gI σ5 40 0 7)] σ5) (fun x8 σ7 => retZ x8 σ7) else cV (Cc 46 0 [vR 32 8, vI (gI σ3 40 0 6), vI (gI σ5 40 0 6)] σ5) (fun σ9 => retZ 1 σ9)))) :=
  (Cc_eq _ _ _ _).trans (U_at (fun pc => false) 400 rfl)
/-! Reader.readLooker -/
set_option maxRecDepth 100000 in
theorem c_Reader_readLooker (σ : St) : Cc 60 0 [vR 40 0] σ = cI (Cc 61 0 [vR 40 0, vR 32 9] σ) (fun x2 σ1 => if x2 = 0 then retZ 0 σ1 else cI (Cc 62 0 [vR 40 0, vR 494 0] σ1) (fun x4 σ3 => if x4 = 0 then retZ 0 σ3 else cI (Cc 64 0 [vR 40 0, vI 0, vI ((gI σ3 32 5 2) - (1 : Int32))] σ3) (fun x6 σ5 => if x6 = 0 then retZ 0 σ5 else cI (Cc 50 0 [vR 32 9, vI (gI σ5 40 0 6)] σ5) (fun x8 σ7 => if x8 = 0 then cI (Cc 62 0 [vR 40 0, vR 494 2] σ7) (fun x10 σ9 => if x10 = 0 then retZ 0 σ9 else cI (Cc 64 0 [vR 40 0, vI 0, vI ((gI σ9 32 6 2) - (1 : Int32))] σ9) (fun x12 σ11 => if x12 = 0 then retZ 0 σ11 else cV (Cc 46 0 [vR 32 9, vI (gI σ5 40 0 6), vI (gI σ11 40 0 6)] σ11) (fun σ13 => retZ 1 σ13))) else cI (Cc 65 0 [vR 40 0, vI 2, vI (gI σ7 40 0 7)] σ7) (fun x15 σ14 => retZ x15 σ14))))) :=
  (Cc_eq _ _ _ _).trans (U_at (fun pc => false) 400 rfl)
/-! Reader.takeHead -/
set_option maxRecDepth 100000 in
theorem c_Reader_takeHead (σ : St) (i1 : Nat) : Cc 61 0 [vR 40 0, vR 32 i1] σ = cI (Cc 45 0 [vR 32 i1] σ) (fun x2 σ1 => if x2 = 0 then cV (Cc 68 0 [vR 40 0] σ1) (fun σ3 => retZ 1 σ3) else cI (Cc 65 0 [vR 40 0, vI 3, vI (gI σ1 40 0 4)] σ1) (fun x5 σ4 => retZ x5 σ4)) :=
  (Cc_eq _ _ _ _).trans (U_at (fun pc => false) 400 rfl)
/-! Reader.takeWord -/
set_option maxRecDepth 100000 in
theorem c_Reader_takeWord (σ : St) (i1 : Nat) : Cc 62 0 [vR 40 0, vR 494 i1] σ = cI (Cc 66 0 [vR 40 0, vR 494 i1] σ) (fun x2 σ1 => if x2 = 0 then cI (Cc 65 0 [vR 40 0, vI 1, vI (gI σ1 40 0 4)] σ1) (fun x4 σ3 => retZ x4 σ3) else cV (Cc 68 0 [vR 40 0] σ1) (fun σ5 => retZ 1 σ5)) :=
  (Cc_eq _ _ _ _).trans (U_at (fun pc => false) 400 rfl)
/-! Reader.takeSign -/
set_option maxRecDepth 100000 in
theorem c_Reader_takeSign (σ : St) : Cc 63 0 [vR 40 0] σ = if (gI σ 40 0 3) = (3 : Int32) then cV (Cc 68 0 [vR 40 0] σ) (fun σ1 => retZ 1 σ1) else cI (Cc 65 0 [vR 40 0, vI 1, vI (gI σ 40 0 4)] σ) (fun x3 σ2 => retZ x3 σ2) :=
  (Cc_eq _ _ _ _).trans (U_at (fun pc => false) 400 rfl)
/-! Reader.takeNumber -/
set_option maxRecDepth 100000 in
theorem c_Reader_takeNumber (σ : St) (a1 a2 : Int32) : Cc 64 0 [vR 40 0, vI a1, vI a2] σ = if (gI σ 40 0 3) = (2 : Int32) then cI (Cc 67 0 [vR 40 0] σ) (fun x2 σ1 => if (gI (sI (sI σ1 40 0 6 x2) 40 0 7 (gI (sI σ1 40 0 6 x2) 40 0 4)) 40 0 6) < a1 then cI (Cc 65 0 [vR 40 0, vI 2, vI (gI (sI (sI σ1 40 0 6 x2) 40 0 7 (gI (sI σ1 40 0 6 x2) 40 0 4)) 40 0 4)] (sI (sI σ1 40 0 6 x2) 40 0 7 (gI (sI σ1 40 0 6 x2) 40 0 4))) (fun x4 σ3 => retZ x4 σ3) else if (gI (sI (sI σ1 40 0 6 x2) 40 0 7 (gI (sI σ1 40 0 6 x2) 40 0 4)) 40 0 6) ≤ a2 then cV (Cc 68 0 [vR 40 0] (sI (sI σ1 40 0 6 x2) 40 0 7 (gI (sI σ1 40 0 6 x2) 40 0 4))) (fun σ5 => retZ 1 σ5) else cI (Cc 65 0 [vR 40 0, vI 2, vI (gI (sI (sI σ1 40 0 6 x2) 40 0 7 (gI (sI σ1 40 0 6 x2) 40 0 4)) 40 0 4)] (sI (sI σ1 40 0 6 x2) 40 0 7 (gI (sI σ1 40 0 6 x2) 40 0 4))) (fun x7 σ6 => retZ x7 σ6)) else cI (Cc 65 0 [vR 40 0, vI 1, vI (gI σ 40 0 4)] σ) (fun x9 σ8 => retZ x9 σ8) :=
  (Cc_eq _ _ _ _).trans (U_at (fun pc => false) 400 rfl)
/-! Reader.refuse -/
set_option maxRecDepth 100000 in
theorem c_Reader_refuse (σ : St) (a1 a2 : Int32) : Cc 65 0 [vR 40 0, vI a1, vI a2] σ = retZ 0 (sI (sI σ 40 0 8 a1) 40 0 9 a2) :=
  (Cc_eq _ _ _ _).trans (U_at (fun pc => false) 400 rfl)
/-! Reader.isWord -/
set_option maxRecDepth 100000 in
theorem c_Reader_isWord (σ : St) (i1 : Nat) : Cc 66 0 [vR 40 0, vR 494 i1] σ = if (gI σ 40 0 3) = (1 : Int32) then if ((gI σ 40 0 5) - (gI σ 40 0 4)) = (Int32.ofNat (slen i1)) then if (gI σ 40 0 5) ≤ (700 : Int32) then Vv 66 0 41 [some (vR 40 0), some (vR 494 i1), some (vI (gI σ 40 0 4))] [] σ else retZ 0 σ else retZ 0 σ else retZ 0 σ :=
  (Cc_eq _ _ _ _).trans (U_at (fun pc => Nat.beq pc 41) 400 rfl)
set_option maxRecDepth 100000 in
theorem v_Reader_isWord_41 (σ : St) (l2 : Int32) (i1 : Nat) : Vv 66 0 41 [some (vR 40 0), some (vR 494 i1), some (vI l2)] [] σ = if l2 < (gI σ 40 0 5) then ix l2 700 (fun k1 => ix (l2 - (gI σ 40 0 4)) (slen i1) (fun k2 => if (gI σ 358555 0 k1) = (sch i1 k2) then Vv 66 0 41 [some (vR 40 0), some (vR 494 i1), some (vI (l2 + 1))] [] σ else retZ 0 σ)) else retZ 1 σ :=
  U_at (fun pc => Nat.beq pc 41) 400 rfl
/-! Reader.numberOfToken -/
set_option maxRecDepth 100000 in
theorem c_Reader_numberOfToken (σ : St) : Cc 67 0 [vR 40 0] σ = Vv 67 0 7 [some (vR 40 0), some (vI 0), some (vI (gI σ 40 0 4))] [] σ :=
  (Cc_eq _ _ _ _).trans (U_at (fun pc => Nat.beq pc 7) 400 rfl)
set_option maxRecDepth 100000 in
theorem v_Reader_numberOfToken_7 (σ : St) (l1 l2 : Int32) : Vv 67 0 7 [some (vR 40 0), some (vI l1), some (vI l2)] [] σ = if l2 < (gI σ 40 0 5) then if l2 < (700 : Int32) then ix l2 700 (fun k1 => Vv 67 0 7 [some (vR 40 0), some (vI (if 1000000 < (((l1 * (10 : Int32)) + (gI σ 358555 0 k1)) - (48 : Int32)) then 1000000 else (((l1 * (10 : Int32)) + (gI σ 358555 0 k1)) - (48 : Int32)))), some (vI (l2 + 1))] [] σ) else some (some (vI l1), σ) else some (some (vI l1), σ) :=
  U_at (fun pc => Nat.beq pc 7) 400 rfl
/-! Reader.nextToken -/
set_option maxRecDepth 100000 in
theorem c_Reader_nextToken (σ : St) : Cc 68 0 [vR 40 0] σ = Vv 68 0 13 [some (vR 40 0), some (vI (gI (sI σ 40 0 4 (gI σ 40 0 5)) 40 0 5))] [] (sI σ 40 0 4 (gI σ 40 0 5)) :=
  (Cc_eq _ _ _ _).trans (U_at (fun pc => Nat.beq pc 13 || Nat.beq pc 93) 400 rfl)
set_option maxRecDepth 100000 in
theorem v_Reader_nextToken_13 (σ : St) (l1 : Int32) : Vv 68 0 13 [some (vR 40 0), some (vI l1)] [] σ = if l1 < (gI σ 40 0 2) then cI (Cc 69 0 [vR 40 0, vI l1] σ) (fun x2 σ1 => if x2 = (5 : Int32) then Vv 68 0 13 [some (vR 40 0), some (vI (l1 + 1))] [] (sI σ1 40 0 4 (l1 + (1 : Int32))) else cI (Cc 69 0 [vR 40 0, vI (gI σ1 40 0 4)] σ1) (fun x4 σ3 => if (gI (sI (sI σ3 40 0 3 x4) 40 0 5 (if (gI (sI σ3 40 0 3 x4) 40 0 2) < ((gI (sI σ3 40 0 3 x4) 40 0 4) + (1 : Int32)) then (gI (sI σ3 40 0 3 x4) 40 0 2) else ((gI (sI σ3 40 0 3 x4) 40 0 4) + (1 : Int32)))) 40 0 3) = (1 : Int32) then Vv 68 0 93 [some (vR 40 0), some (vI (gI (sI (sI σ3 40 0 3 x4) 40 0 5 (if (gI (sI σ3 40 0 3 x4) 40 0 2) < ((gI (sI σ3 40 0 3 x4) 40 0 4) + (1 : Int32)) then (gI (sI σ3 40 0 3 x4) 40 0 2) else ((gI (sI σ3 40 0 3 x4) 40 0 4) + (1 : Int32)))) 40 0 5))] [] (sI (sI σ3 40 0 3 x4) 40 0 5 (if (gI (sI σ3 40 0 3 x4) 40 0 2) < ((gI (sI σ3 40 0 3 x4) 40 0 4) + (1 : Int32)) then (gI (sI σ3 40 0 3 x4) 40 0 2) else ((gI (sI σ3 40 0 3 x4) 40 0 4) + (1 : Int32)))) else if (gI (sI (sI σ3 40 0 3 x4) 40 0 5 (if (gI (sI σ3 40 0 3 x4) 40 0 2) < ((gI (sI σ3 40 0 3 x4) 40 0 4) + (1 : Int32)) then (gI (sI σ3 40 0 3 x4) 40 0 2) else ((gI (sI σ3 40 0 3 x4) 40 0 4) + (1 : Int32)))) 40 0 3) = (2 : Int32) then Vv 68 0 93 [some (vR 40 0), some (vI (gI (sI (sI σ3 40 0 3 x4) 40 0 5 (if (gI (sI σ3 40 0 3 x4) 40 0 2) < ((gI (sI σ3 40 0 3 x4) 40 0 4) + (1 : Int32)) then (gI (sI σ3 40 0 3 x4) 40 0 2) else ((gI (sI σ3 40 0 3 x4) 40 0 4) + (1 : Int32)))) 40 0 5))] [] (sI (sI σ3 40 0 3 x4) 40 0 5 (if (gI (sI σ3 40 0 3 x4) 40 0 2) < ((gI (sI σ3 40 0 3 x4) 40 0 4) + (1 : Int32)) then (gI (sI σ3 40 0 3 x4) 40 0 2) else ((gI (sI σ3 40 0 3 x4) 40 0 4) + (1 : Int32)))) else some (none, sI (sI σ3 40 0 3 x4) 40 0 5 (if (gI (sI σ3 40 0 3 x4) 40 0 2) < ((gI (sI σ3 40 0 3 x4) 40 0 4) + (1 : Int32)) then (gI (sI σ3 40 0 3 x4) 40 0 2) else ((gI (sI σ3 40 0 3 x4) 40 0 4) + (1 : Int32)))))) else cI (Cc 69 0 [vR 40 0, vI (gI σ 40 0 4)] σ) (fun x6 σ5 => if (gI (sI (sI σ5 40 0 3 x6) 40 0 5 (if (gI (sI σ5 40 0 3 x6) 40 0 2) < ((gI (sI σ5 40 0 3 x6) 40 0 4) + (1 : Int32)) then (gI (sI σ5 40 0 3 x6) 40 0 2) else ((gI (sI σ5 40 0 3 x6) 40 0 4) + (1 : Int32)))) 40 0 3) = (1 : Int32) then Vv 68 0 93 [some (vR 40 0), some (vI (gI (sI (sI σ5 40 0 3 x6) 40 0 5 (if (gI (sI σ5 40 0 3 x6) 40 0 2) < ((gI (sI σ5 40 0 3 x6) 40 0 4) + (1 : Int32)) then (gI (sI σ5 40 0 3 x6) 40 0 2) else ((gI (sI σ5 40 0 3 x6) 40 0 4) + (1 : Int32)))) 40 0 5))] [] (sI (sI σ5 40 0 3 x6) 40 0 5 (if (gI (sI σ5 40 0 3 x6) 40 0 2) < ((gI (sI σ5 40 0 3 x6) 40 0 4) + (1 : Int32)) then (gI (sI σ5 40 0 3 x6) 40 0 2) else ((gI (sI σ5 40 0 3 x6) 40 0 4) + (1 : Int32)))) else if (gI (sI (sI σ5 40 0 3 x6) 40 0 5 (if (gI (sI σ5 40 0 3 x6) 40 0 2) < ((gI (sI σ5 40 0 3 x6) 40 0 4) + (1 : Int32)) then (gI (sI σ5 40 0 3 x6) 40 0 2) else ((gI (sI σ5 40 0 3 x6) 40 0 4) + (1 : Int32)))) 40 0 3) = (2 : Int32) then Vv 68 0 93 [some (vR 40 0), some (vI (gI (sI (sI σ5 40 0 3 x6) 40 0 5 (if (gI (sI σ5 40 0 3 x6) 40 0 2) < ((gI (sI σ5 40 0 3 x6) 40 0 4) + (1 : Int32)) then (gI (sI σ5 40 0 3 x6) 40 0 2) else ((gI (sI σ5 40 0 3 x6) 40 0 4) + (1 : Int32)))) 40 0 5))] [] (sI (sI σ5 40 0 3 x6) 40 0 5 (if (gI (sI σ5 40 0 3 x6) 40 0 2) < ((gI (sI σ5 40 0 3 x6) 40 0 4) + (1 : Int32)) then (gI (sI σ5 40 0 3 x6) 40 0 2) else ((gI (sI σ5 40 0 3 x6) 40 0 4) + (1 : Int32)))) else some (none, sI (sI σ5 40 0 3 x6) 40 0 5 (if (gI (sI σ5 40 0 3 x6) 40 0 2) < ((gI (sI σ5 40 0 3 x6) 40 0 4) + (1 : Int32)) then (gI (sI σ5 40 0 3 x6) 40 0 2) else ((gI (sI σ5 40 0 3 x6) 40 0 4) + (1 : Int32))))) :=
  U_at (fun pc => Nat.beq pc 13 || Nat.beq pc 93) 400 rfl
set_option maxRecDepth 100000 in
theorem v_Reader_nextToken_93 (σ : St) (l1 : Int32) : Vv 68 0 93 [some (vR 40 0), some (vI l1)] [] σ = if l1 < (gI σ 40 0 2) then cI (Cc 69 0 [vR 40 0, vI l1] σ) (fun x2 σ1 => if x2 = (gI σ1 40 0 3) then Vv 68 0 93 [some (vR 40 0), some (vI (l1 + 1))] [] (sI σ1 40 0 5 (l1 + (1 : Int32))) else some (none, σ1)) else some (none, σ) :=
  U_at (fun pc => Nat.beq pc 13 || Nat.beq pc 93) 400 rfl
/-! Reader.kindAt -/
set_option maxRecDepth 100000 in
theorem c_Reader_kindAt (σ : St) (a1 : Int32) : Cc 69 0 [vR 40 0, vI a1] σ = if a1 < 0 then some (some (vI 0), σ) else if a1 < (gI σ 40 0 2) then if a1 < (700 : Int32) then ix a1 700 (fun k1 => if (gI σ 358555 0 k1) = (32 : Int32) then some (some (vI 5), σ) else if (gI σ 358555 0 k1) = (10 : Int32) then some (some (vI 5), σ) else if (gI σ 358555 0 k1) < (97 : Int32) then if (gI σ 358555 0 k1) < (48 : Int32) then if (gI σ 358555 0 k1) = (59 : Int32) then some (some (vI 3), σ) else some (some (vI 4), σ) else if (gI σ 358555 0 k1) ≤ (57 : Int32) then some (some (vI 2), σ) else if (gI σ 358555 0 k1) = (59 : Int32) then some (some (vI 3), σ) else some (some (vI 4), σ) else if (gI σ 358555 0 k1) ≤ (122 : Int32) then some (some (vI 1), σ) else if (gI σ 358555 0 k1) < (48 : Int32) then if (gI σ 358555 0 k1) = (59 : Int32) then some (some (vI 3), σ) else some (some (vI 4), σ) else if (gI σ 358555 0 k1) ≤ (57 : Int32) then some (some (vI 2), σ) else if (gI σ 358555 0 k1) = (59 : Int32) then some (some (vI 3), σ) else some (some (vI 4), σ)) else some (some (vI 0), σ) else some (some (vI 0), σ) :=
  (Cc_eq _ _ _ _).trans (U_at (fun pc => false) 400 rfl)
/-! Roof.isTold -/
set_option maxRecDepth 100000 in
theorem c_Roof_isTold (σ : St) (i0 : Nat) : Cc 70 0 [vR 48 i0] σ = if (gI σ 48 i0 3) ≤ 0 then retZ 0 σ else retZ 1 σ :=
  (Cc_eq _ _ _ _).trans (U_at (fun pc => false) 400 rfl)
/-! Roof.hasYear -/
set_option maxRecDepth 100000 in
theorem c_Roof_hasYear (σ : St) (a1 : Int32) (i0 : Nat) : Cc 71 0 [vR 48 i0, vI a1] σ = cI (Cc 70 0 [vR 48 i0] σ) (fun x2 σ1 => if x2 = 0 then retZ 0 σ1 else if a1 < 0 then retZ 0 σ1 else if a1 ≤ (gI σ1 48 i0 0) then retZ 1 σ1 else retZ 0 σ1) :=
  (Cc_eq _ _ _ _).trans (U_at (fun pc => false) 400 rfl)
/-! Roof.isTaken -/
set_option maxRecDepth 100000 in
theorem c_Roof_isTaken (σ : St) (a1 a2 : Int32) (i0 : Nat) : Cc 72 0 [vR 48 i0, vI a1, vI a2] σ = cI (Cc 49 0 [vR 32 (5 * i0 + 0), vI a1, vI a2] σ) (fun x2 σ1 => if x2 = 0 then cI (Cc 49 0 [vR 32 (5 * i0 + 1), vI a1, vI a2] σ1) (fun x4 σ3 => if x4 = 0 then cI (Cc 49 0 [vR 32 (5 * i0 + 2), vI a1, vI a2] σ3) (fun x6 σ5 => if x6 = 0 then retZ 0 σ5 else retZ 1 σ5) else retZ 1 σ3) else retZ 1 σ1) :=
  (Cc_eq _ _ _ _).trans (U_at (fun pc => false) 400 rfl)
/-! Roof.isFallen -/
set_option maxRecDepth 100000 in
theorem c_Roof_isFallen (σ : St) (a1 : Int32) (i0 : Nat) : Cc 73 0 [vR 48 i0, vI a1] σ = cI (Cc 4 0 [vR 0 i0, vI a1] σ) (fun x2 σ1 => retZ x2 σ1) :=
  (Cc_eq _ _ _ _).trans (U_at (fun pc => false) 400 rfl)
/-! Roof.worthOfMark -/
set_option maxRecDepth 100000 in
theorem c_Roof_worthOfMark (σ : St) (a1 : Int32) (i0 : Nat) : Cc 74 0 [vR 48 i0, vI a1] σ = cI (Cc 44 0 [vR 32 (5 * i0 + 1), vI a1] σ) (fun x2 σ1 => if x2 = 0 then some (some (vI 0), σ1) else ix a1 7 (fun k3 => some (some (vI (gI σ1 3705 i0 k3)), σ1))) :=
  (Cc_eq _ _ _ _).trans (U_at (fun pc => false) 400 rfl)
/-! Roof.setWorth -/
set_option maxRecDepth 100000 in
theorem c_Roof_setWorth (σ : St) (a1 a2 : Int32) (i0 : Nat) : Cc 75 0 [vR 48 i0, vI a1, vI a2] σ = cI (Cc 44 0 [vR 32 (5 * i0 + 1), vI a1] σ) (fun x2 σ1 => if x2 = 0 then some (none, σ1) else ix a1 7 (fun k3 => some (none, sI σ1 3705 i0 k3 a2))) :=
  (Cc_eq _ _ _ _).trans (U_at (fun pc => false) 400 rfl)
/-! Roof.worthOfSet -/
set_option maxRecDepth 100000 in
theorem c_Roof_worthOfSet (σ : St) (a1 : Int32) (i0 : Nat) : Cc 76 0 [vR 48 i0, vI a1] σ = Vv 76 0 4 [some (vR 48 i0), some (vI a1), some (vI 0), some (vI 0)] [] σ :=
  (Cc_eq _ _ _ _).trans (U_at (fun pc => Nat.beq pc 4) 400 rfl)
set_option maxRecDepth 100000 in
theorem v_Roof_worthOfSet_4 (σ : St) (l1 l2 l3 : Int32) (i0 : Nat) : Vv 76 0 4 [some (vR 48 i0), some (vI l1), some (vI l2), some (vI l3)] [] σ = if l3 < (gI σ 32 (5 * i0 + 1) 2) then if ((l1 >>> (l3 &&& 31)) &&& (1 : Int32)) = 0 then Vv 76 0 4 [some (vR 48 i0), some (vI l1), some (vI l2), some (vI (l3 + 1))] [] σ else ix l3 7 (fun k1 => Vv 76 0 4 [some (vR 48 i0), some (vI l1), some (vI (l2 + (gI σ 3705 i0 k1))), some (vI (l3 + 1))] [] σ) else some (some (vI l2), σ) :=
  U_at (fun pc => Nat.beq pc 4) 400 rfl
/-! Roof.neighbours -/
set_option maxRecDepth 100000 in
theorem c_Roof_neighbours (σ : St) (a1 : Int32) (i0 : Nat) : Cc 77 0 [vR 48 i0, vI a1] σ = Vv 77 0 4 [some (vR 48 i0), some (vI a1), some (vI 0), some (vI 0)] [] σ :=
  (Cc_eq _ _ _ _).trans (U_at (fun pc => Nat.beq pc 4) 400 rfl)
set_option maxRecDepth 100000 in
theorem v_Roof_neighbours_4 (σ : St) (l1 l2 l3 : Int32) (i0 : Nat) : Vv 77 0 4 [some (vR 48 i0), some (vI l1), some (vI l2), some (vI l3)] [] σ = if l3 < (gI σ 32 (5 * i0 + 3) 2) then cI (Cc 47 0 [vR 32 (5 * i0 + 3), vI l3] σ) (fun x2 σ1 => if x2 = l1 then cI (Cc 48 0 [vR 32 (5 * i0 + 3), vI l3] σ1) (fun x4 σ3 => cI (Cc 48 0 [vR 32 (5 * i0 + 3), vI l3] σ3) (fun x6 σ5 => if x6 = l1 then cI (Cc 47 0 [vR 32 (5 * i0 + 3), vI l3] σ5) (fun x8 σ7 => Vv 77 0 4 [some (vR 48 i0), some (vI l1), some (vI ((l2 ||| ((1 : Int32) <<< (x4 &&& 31))) ||| ((1 : Int32) <<< (x8 &&& 31)))), some (vI (l3 + 1))] [] σ7) else Vv 77 0 4 [some (vR 48 i0), some (vI l1), some (vI (l2 ||| ((1 : Int32) <<< (x4 &&& 31)))), some (vI (l3 + 1))] [] σ5)) else cI (Cc 48 0 [vR 32 (5 * i0 + 3), vI l3] σ1) (fun x10 σ9 => if x10 = l1 then cI (Cc 47 0 [vR 32 (5 * i0 + 3), vI l3] σ9) (fun x12 σ11 => Vv 77 0 4 [some (vR 48 i0), some (vI l1), some (vI (l2 ||| ((1 : Int32) <<< (x12 &&& 31)))), some (vI (l3 + 1))] [] σ11) else Vv 77 0 4 [some (vR 48 i0), some (vI l1), some (vI l2), some (vI (l3 + 1))] [] σ9)) else some (some (vI l2), σ) :=
  U_at (fun pc => Nat.beq pc 4) 400 rfl
/-! Roof.nextIn -/
set_option maxRecDepth 100000 in
theorem c_Roof_nextIn (σ : St) (a1 a2 : Int32) (i0 : Nat) : Cc 78 0 [vR 48 i0, vI a1, vI a2] σ = Vv 78 0 5 [some (vR 48 i0), some (vI a1), some (vI a2), some (vI a2), some (vI 0)] [] σ :=
  (Cc_eq _ _ _ _).trans (U_at (fun pc => Nat.beq pc 5) 400 rfl)
set_option maxRecDepth 100000 in
theorem v_Roof_nextIn_5 (σ : St) (l1 l2 l3 l4 : Int32) (i0 : Nat) : Vv 78 0 5 [some (vR 48 i0), some (vI l1), some (vI l2), some (vI l3), some (vI l4)] [] σ = if l4 < (gI σ 32 (5 * i0 + 0) 2) then if (l3 + (1 : Int32)) < (gI σ 32 (5 * i0 + 0) 2) then if ((l1 >>> ((l3 + (1 : Int32)) &&& 31)) &&& (1 : Int32)) = 0 then Vv 78 0 5 [some (vR 48 i0), some (vI l1), some (vI l2), some (vI (l3 + (1 : Int32))), some (vI (l4 + 1))] [] σ else some (some (vI (l3 + (1 : Int32))), σ) else if ((l1 >>> ((0 : Int32) &&& 31)) &&& (1 : Int32)) = 0 then Vv 78 0 5 [some (vR 48 i0), some (vI l1), some (vI l2), some (vI 0), some (vI (l4 + 1))] [] σ else some (some (vI 0), σ) else some (some (vI l2), σ) :=
  U_at (fun pc => Nat.beq pc 5) 400 rfl
/-! Roof.makeEmpty -/
set_option maxRecDepth 100000 in
theorem c_Roof_makeEmpty (σ : St) (i0 : Nat) : Cc 79 0 [vR 48 i0] σ = some (none, sI (sI (sI (sI (sI (sI (sI (sI (sI (sI σ 48 i0 0 0) 48 i0 1 0) 48 i0 2 0) 48 i0 3 0) 32 (5 * i0 + 0) 2 0) 32 (5 * i0 + 1) 2 0) 32 (5 * i0 + 2) 2 0) 32 (5 * i0 + 3) 2 0) 32 (5 * i0 + 4) 2 0) 0 i0 3 0) :=
  (Cc_eq _ _ _ _).trans (U_at (fun pc => false) 400 rfl)
/-! Roof.copyFrom -/
set_option maxRecDepth 100000 in
theorem c_Roof_copyFrom (σ : St) (i0 i1 : Nat) : Cc 80 0 [vR 48 i0, vR 48 i1] σ = cV (Cc 52 0 [vR 32 (5 * i0 + 0), vR 32 (5 * i1 + 0)] (sI (sI (sI (sI σ 48 i0 0 (gI σ 48 i1 0)) 48 i0 1 (gI (sI σ 48 i0 0 (gI σ 48 i1 0)) 48 i1 1)) 48 i0 2 (gI (sI (sI σ 48 i0 0 (gI σ 48 i1 0)) 48 i0 1 (gI (sI σ 48 i0 0 (gI σ 48 i1 0)) 48 i1 1)) 48 i1 2)) 48 i0 3 (gI (sI (sI (sI σ 48 i0 0 (gI σ 48 i1 0)) 48 i0 1 (gI (sI σ 48 i0 0 (gI σ 48 i1 0)) 48 i1 1)) 48 i0 2 (gI (sI (sI σ 48 i0 0 (gI σ 48 i1 0)) 48 i0 1 (gI (sI σ 48 i0 0 (gI σ 48 i1 0)) 48 i1 1)) 48 i1 2)) 48 i1 3))) (fun σ1 => cV (Cc 52 0 [vR 32 (5 * i0 + 1), vR 32 (5 * i1 + 1)] σ1) (fun σ2 => if 0 ≤ Int32.toInt 7 ∧ 0 ≤ Int32.toInt 0 ∧ 0 ≤ Int32.toInt 0 ∧ Int32.toInt 0 + Int32.toInt 7 ≤ ((7 : Nat) : Int) ∧ Int32.toInt 0 + Int32.toInt 7 ≤ ((7 : Nat) : Int) then cV (Cc 52 0 [vR 32 (5 * i0 + 2), vR 32 (5 * i1 + 2)] (cpI σ2 3705 i1 (Int32.toNatClampNeg 0) 3705 i0 (Int32.toNatClampNeg 0) (Int32.toNatClampNeg 7))) (fun σ3 => cV (Cc 52 0 [vR 32 (5 * i0 + 3), vR 32 (5 * i1 + 3)] σ3) (fun σ4 => cV (Cc 52 0 [vR 32 (5 * i0 + 4), vR 32 (5 * i1 + 4)] σ4) (fun σ5 => cV (Cc 7 0 [vR 0 i0, vR 0 i1] σ5) (fun σ6 => some (none, σ6))))) else none)) :=
  (Cc_eq _ _ _ _).trans (U_at (fun pc => false) 400 rfl)
/-! Rosters.tryAll -/
set_option maxRecDepth 100000 in
theorem c_Rosters_tryAll (σ : St) : Cc 81 0 [vR 56 0] σ = cI (Cc 199 0 [vI (gI σ 32 0 2), vI (gI σ 32 4 2)] σ) (fun x2 σ1 => Vv 81 0 38 [some (vR 56 0), some (vI (gI σ 32 4 2)), some (vI x2), some (vI 0), none] [] (sI (sI σ1 56 0 4 (-1)) 56 0 5 0)) :=
  (Cc_eq _ _ _ _).trans (U_at (fun pc => Nat.beq pc 38) 400 rfl)
set_option maxRecDepth 100000 in
theorem v_Rosters_tryAll_38 (σ : St) (l1 l2 l3 : Int32) : Vv 81 0 38 [some (vR 56 0), some (vI l1), some (vI l2), some (vI l3), none] [] σ = if l3 < l2 then cV (Cc 200 0 [vR 3297 0, vI (gI σ 32 0 2), vI l1, vI l3] σ) (fun σ1 => cI (Cc 82 0 [vR 56 0] σ1) (fun x3 σ2 => if x3 ≤ (gI σ2 56 0 4) then if x3 = (gI σ2 56 0 4) then Vv 81 0 38 [some (vR 56 0), some (vI l1), some (vI l2), some (vI (l3 + 1)), none] [] (sI σ2 56 0 5 ((gI σ2 56 0 5) + (1 : Int32))) else Vv 81 0 38 [some (vR 56 0), some (vI l1), some (vI l2), some (vI (l3 + 1)), none] [] σ2 else if 0 ≤ Int32.toInt 6 ∧ 0 ≤ Int32.toInt 0 ∧ 0 ≤ Int32.toInt 0 ∧ Int32.toInt 0 + Int32.toInt 6 ≤ ((6 : Nat) : Int) ∧ Int32.toInt 0 + Int32.toInt 6 ≤ ((6 : Nat) : Int) then if x3 = (gI (cpI (sI (sI σ2 56 0 4 x3) 56 0 5 0) 3297 0 (Int32.toNatClampNeg 0) 3305 0 (Int32.toNatClampNeg 0) (Int32.toNatClampNeg 6)) 56 0 4) then Vv 81 0 38 [some (vR 56 0), some (vI l1), some (vI l2), some (vI (l3 + 1)), none] [] (sI (cpI (sI (sI σ2 56 0 4 x3) 56 0 5 0) 3297 0 (Int32.toNatClampNeg 0) 3305 0 (Int32.toNatClampNeg 0) (Int32.toNatClampNeg 6)) 56 0 5 ((gI (cpI (sI (sI σ2 56 0 4 x3) 56 0 5 0) 3297 0 (Int32.toNatClampNeg 0) 3305 0 (Int32.toNatClampNeg 0) (Int32.toNatClampNeg 6)) 56 0 5) + (1 : Int32))) else Vv 81 0 38 [some (vR 56 0), some (vI l1), some (vI l2), some (vI (l3 + 1)), none] [] (cpI (sI (sI σ2 56 0 4 x3) 56 0 5 0) 3297 0 (Int32.toNatClampNeg 0) 3305 0 (Int32.toNatClampNeg 0) (Int32.toNatClampNeg 6)) else none)) else some (none, σ) :=
  U_at (fun pc => Nat.beq pc 38) 400 rfl
/-! Rosters.gladByRow -/
set_option maxRecDepth 100000 in
theorem c_Rosters_gladByRow (σ : St) : Cc 82 0 [vR 56 0] σ = Vv 82 0 4 [some (vR 56 0), some (vI 0), some (vI 0)] [] σ :=
  (Cc_eq _ _ _ _).trans (U_at (fun pc => Nat.beq pc 4) 400 rfl)
set_option maxRecDepth 100000 in
theorem v_Rosters_gladByRow_4 (σ : St) (l1 l2 : Int32) : Vv 82 0 4 [some (vR 56 0), some (vI l1), some (vI l2)] [] σ = if l2 < (gI σ 32 4 2) then ix l2 6 (fun k1 => cI (Cc 48 0 [vR 32 4, vI l2] σ) (fun x3 σ2 => cI (Cc 102 0 [vR 72 0, vI (gI σ 3297 0 k1), vI x3] σ2) (fun x5 σ4 => if x5 = 0 then Vv 82 0 4 [some (vR 56 0), some (vI l1), some (vI (l2 + 1))] [] σ4 else Vv 82 0 4 [some (vR 56 0), some (vI (l1 + 1)), some (vI (l2 + 1))] [] σ4))) else some (some (vI l1), σ) :=
  U_at (fun pc => Nat.beq pc 4) 400 rfl
/-! Rosters.placeInFirst -/
set_option maxRecDepth 100000 in
theorem c_Rosters_placeInFirst (σ : St) (a1 : Int32) : Cc 83 0 [vR 56 0, vI a1] σ = cI (Cc 44 0 [vR 32 4, vI a1] σ) (fun x2 σ1 => if x2 = 0 then some (some (vI 0), σ1) else ix a1 6 (fun k3 => some (some (vI (gI σ1 3305 0 k3)), σ1))) :=
  (Cc_eq _ _ _ _).trans (U_at (fun pc => false) 400 rfl)
/-! Rosters.ordersThatGive -/
set_option maxRecDepth 100000 in
theorem c_Rosters_ordersThatGive (σ : St) (a1 a2 : Int32) : Cc 84 0 [vR 56 0, vI a1, vI a2] σ = cI (Cc 199 0 [vI (gI σ 32 4 2), vI (gI σ 32 4 2)] σ) (fun x2 σ1 => Vv 84 0 24 [some (vR 56 0), some (vI a1), some (vI a2), some (vI (gI σ 32 4 2)), some (vI x2), some (vI 0), some (vI 0)] [] σ1) :=
  (Cc_eq _ _ _ _).trans (U_at (fun pc => Nat.beq pc 24) 400 rfl)
set_option maxRecDepth 100000 in
theorem v_Rosters_ordersThatGive_24 (σ : St) (l1 l2 l3 l4 l5 l6 : Int32) : Vv 84 0 24 [some (vR 56 0), some (vI l1), some (vI l2), some (vI l3), some (vI l4), some (vI l5), some (vI l6)] [] σ = if l6 < l4 then cV (Cc 200 0 [vR 3297 0, vI l3, vI l3, vI l6] σ) (fun σ1 => cI (Cc 85 0 [vR 56 0, vI l1] σ1) (fun x3 σ2 => if x3 = l2 then Vv 84 0 24 [some (vR 56 0), some (vI l1), some (vI l2), some (vI l3), some (vI l4), some (vI (l5 + 1)), some (vI (l6 + 1))] [] σ2 else Vv 84 0 24 [some (vR 56 0), some (vI l1), some (vI l2), some (vI l3), some (vI l4), some (vI l5), some (vI (l6 + 1))] [] σ2)) else some (some (vI l5), σ) :=
  U_at (fun pc => Nat.beq pc 24) 400 rfl
/-! Rosters.takenByOrder -/
set_option maxRecDepth 100000 in
theorem c_Rosters_takenByOrder (σ : St) (a1 : Int32) : Cc 85 0 [vR 56 0, vI a1] σ = cI (Cc 51 0 [vR 32 0] σ) (fun x2 σ1 => Vv 85 0 13 [some (vR 56 0), some (vI a1), some (vI x2), some (vI 0), none, none] [] σ1) :=
  (Cc_eq _ _ _ _).trans (U_at (fun pc => Nat.beq pc 13) 400 rfl)
set_option maxRecDepth 100000 in
theorem v_Rosters_takenByOrder_13 (σ : St) (l1 l2 l3 : Int32) : Vv 85 0 13 [some (vR 56 0), some (vI l1), some (vI l2), some (vI l3), none, none] [] σ = if l3 < (gI σ 32 4 2) then ix l3 6 (fun k1 => cI (Cc 48 0 [vR 32 4, vI (gI σ 3297 0 k1)] σ) (fun x3 σ2 => cI (Cc 106 0 [vR 72 0, vI l2, vI x3] σ2) (fun x5 σ4 => if x5 = (-1 : Int32) then cI (Cc 105 0 [vR 72 0, vI l2] σ4) (fun x7 σ6 => ix l3 6 (fun k8 => if (gI σ6 3297 0 k8) = l1 then some (some (vI x7), σ6) else if x7 = (-1 : Int32) then some (some (vI x7), σ6) else Vv 85 0 13 [some (vR 56 0), some (vI l1), some (vI (l2 &&& (((1 : Int32) <<< (x7 &&& 31)) ^^^ (-1 : Int32)))), some (vI (l3 + 1)), none, none] [] σ6)) else ix l3 6 (fun k9 => if (gI σ4 3297 0 k9) = l1 then some (some (vI x5), σ4) else if x5 = (-1 : Int32) then some (some (vI x5), σ4) else Vv 85 0 13 [some (vR 56 0), some (vI l1), some (vI (l2 &&& (((1 : Int32) <<< (x5 &&& 31)) ^^^ (-1 : Int32)))), some (vI (l3 + 1)), none, none] [] σ4)))) else some (some (vI (-1)), σ) :=
  U_at (fun pc => Nat.beq pc 13) 400 rfl
/-! Shifting.isGoal -/
set_option maxRecDepth 100000 in
theorem c_Shifting_isGoal (σ : St) (i1 : Nat) : Cc 86 0 [vR 64 0, vR 80 i1] σ = if (gI σ 80 i1 3) = (gI σ 32 4 2) then Vv 86 0 23 [some (vR 64 0), some (vR 80 i1), some (vI 0), some (vI 0), none, none] [] σ else retZ 0 σ :=
  (Cc_eq _ _ _ _).trans (U_at (fun pc => Nat.beq pc 23) 400 rfl)
set_option maxRecDepth 100000 in
theorem v_Shifting_isGoal_23 (σ : St) (l2 l3 : Int32) (i1 : Nat) : Vv 86 0 23 [some (vR 64 0), some (vR 80 i1), some (vI l2), some (vI l3), none, none] [] σ = if l3 < (gI σ 80 i1 3) then cL (Cc 112 0 [vR 80 i1, vI l3] σ) (fun x2 σ1 => if (lg_cmp x2 0) < 0 then retZ 0 σ1 else if (lg_cmp x2 (Int32.toInt64 (gI σ1 32 0 2))) < 0 then if ((l2 >>> ((Int64.toInt32 x2) &&& 31)) &&& (1 : Int32)) = 0 then Vv 86 0 23 [some (vR 64 0), some (vR 80 i1), some (vI (l2 ||| ((1 : Int32) <<< ((Int64.toInt32 x2) &&& 31)))), some (vI (l3 + 1)), none, none] [] σ1 else retZ 0 σ1 else retZ 0 σ1) else retZ 1 σ :=
  U_at (fun pc => Nat.beq pc 23) 400 rfl
/-! Shifting.fewest -/
set_option maxRecDepth 100000 in
theorem c_Shifting_fewest (σ : St) (i1 : Nat) : Cc 87 0 [vR 64 0, vR 80 i1] σ = Vv 87 0 2 [some (vR 64 0), some (vR 80 i1), some (vI 0)] [] σ :=
  (Cc_eq _ _ _ _).trans (U_at (fun pc => Nat.beq pc 2) 400 rfl)
set_option maxRecDepth 100000 in
theorem v_Shifting_fewest_2 (σ : St) (l2 : Int32) (i1 : Nat) : Vv 87 0 2 [some (vR 64 0), some (vR 80 i1), some (vI l2)] [] σ = if l2 < (gI σ 32 4 2) then cL (Cc 112 0 [vR 80 i1, vI l2] σ) (fun x2 σ1 => ix l2 6 (fun k3 => Vv 87 0 2 [some (vR 64 0), some (vR 80 i1), some (vI (l2 + 1))] [] (sI σ1 3329 0 k3 (Int64.toInt32 x2)))) else cV (Cc 91 0 [vR 64 0] σ) (fun σ4 => cV (Cc 90 0 [vR 64 0] σ4) (fun σ5 => cI (Cc 96 0 [vR 64 0] σ5) (fun x7 σ6 => some (some (vI x7), σ6)))) :=
  U_at (fun pc => Nat.beq pc 2) 400 rfl
/-! Shifting.firstLooker -/
set_option maxRecDepth 100000 in
theorem c_Shifting_firstLooker (σ : St) (i1 : Nat) : Cc 88 0 [vR 64 0, vR 80 i1] σ = cI (Cc 87 0 [vR 64 0, vR 80 i1] σ) (fun x2 σ1 => if x2 ≤ 0 then some (some (vI (-1)), σ1) else Vv 88 0 14 [some (vR 64 0), some (vR 80 i1), some (vI x2), some (vI 0), none, none, none] [] σ1) :=
  (Cc_eq _ _ _ _).trans (U_at (fun pc => Nat.beq pc 14 || Nat.beq pc 57) 400 rfl)
set_option maxRecDepth 100000 in
theorem v_Shifting_firstLooker_14 (σ : St) (l2 l3 : Int32) (i1 : Nat) : Vv 88 0 14 [some (vR 64 0), some (vR 80 i1), some (vI l2), some (vI l3), none, none, none] [] σ = if l3 < (gI σ 32 4 2) then ix l3 6 (fun k1 => cI (Cc 77 0 [vR 48 0, vI (gI σ 3329 0 k1)] σ) (fun x3 σ2 => cI (Cc 95 0 [vR 64 0] σ2) (fun x5 σ4 => Vv 88 0 57 [some (vR 64 0), some (vR 80 i1), some (vI l2), some (vI l3), some (vI (gI σ 3329 0 k1)), some (vI (x3 &&& (x5 ^^^ (-1 : Int32)))), some (vI 0)] [] σ4))) else some (some (vI (-1)), σ) :=
  U_at (fun pc => Nat.beq pc 14 || Nat.beq pc 57) 400 rfl
set_option maxRecDepth 100000 in
theorem v_Shifting_firstLooker_57 (σ : St) (l2 l3 l4 l5 l6 : Int32) (i1 : Nat) : Vv 88 0 57 [some (vR 64 0), some (vR 80 i1), some (vI l2), some (vI l3), some (vI l4), some (vI l5), some (vI l6)] [] σ = if l6 < (gI σ 32 0 2) then ix l3 6 (fun k1 => if ((l5 >>> (l6 &&& 31)) &&& (1 : Int32)) = 0 then Vv 88 0 57 [some (vR 64 0), some (vR 80 i1), some (vI l2), some (vI l3), some (vI l4), some (vI l5), some (vI (l6 + 1))] [] (sI σ 3329 0 k1 l6) else cI (Cc 96 0 [vR 64 0] (sI σ 3329 0 k1 l6)) (fun x3 σ2 => if x3 = (l2 - (1 : Int32)) then some (some (vI l3), σ2) else Vv 88 0 57 [some (vR 64 0), some (vR 80 i1), some (vI l2), some (vI l3), some (vI l4), some (vI l5), some (vI (l6 + 1))] [] σ2)) else ix l3 6 (fun k4 => Vv 88 0 14 [some (vR 64 0), some (vR 80 i1), some (vI l2), some (vI (l3 + 1)), none, none, none] [] (sI σ 3329 0 k4 l4)) :=
  U_at (fun pc => Nat.beq pc 14 || Nat.beq pc 57) 400 rfl
/-! Shifting.spreadFromTold -/
set_option maxRecDepth 100000 in
theorem c_Shifting_spreadFromTold (σ : St) : Cc 89 0 [vR 64 0] σ = cV (Cc 90 0 [vR 64 0] σ) (fun σ1 => cV (Cc 91 0 [vR 64 0] σ1) (fun σ2 => some (none, σ2))) :=
  (Cc_eq _ _ _ _).trans (U_at (fun pc => false) 400 rfl)
/-! Shifting.fillAsTold -/
set_option maxRecDepth 100000 in
theorem c_Shifting_fillAsTold (σ : St) : Cc 90 0 [vR 64 0] σ = Vv 90 0 2 [some (vR 64 0), some (vI 0)] [] σ :=
  (Cc_eq _ _ _ _).trans (U_at (fun pc => Nat.beq pc 2) 400 rfl)
set_option maxRecDepth 100000 in
theorem v_Shifting_fillAsTold_2 (σ : St) (l1 : Int32) : Vv 90 0 2 [some (vR 64 0), some (vI l1)] [] σ = if l1 < (gI σ 32 4 2) then cI (Cc 47 0 [vR 32 4, vI l1] σ) (fun x2 σ1 => ix l1 6 (fun k3 => Vv 90 0 2 [some (vR 64 0), some (vI (l1 + 1))] [] (sI σ1 3329 0 k3 x2))) else some (none, σ) :=
  U_at (fun pc => Nat.beq pc 2) 400 rfl
/-! Shifting.spread -/
set_option maxRecDepth 100000 in
theorem c_Shifting_spread (σ : St) : Cc 91 0 [vR 64 0] σ = Vv 91 0 2 [some (vR 64 0), some (vI 0)] [] σ :=
  (Cc_eq _ _ _ _).trans (U_at (fun pc => Nat.beq pc 2 || Nat.beq pc 24 || Nat.beq pc 67) 400 rfl)
set_option maxRecDepth 100000 in
theorem v_Shifting_spread_2 (σ : St) (l1 : Int32) : Vv 91 0 2 [some (vR 64 0), some (vI l1)] [] σ = if l1 < (720 : Int32) then ix l1 720 (fun k1 => Vv 91 0 2 [some (vR 64 0), some (vI (l1 + 1))] [] (sI σ 368881 0 k1 (-1))) else Vv 91 0 24 [some (vR 64 0), some (vI 0)] [] σ :=
  U_at (fun pc => Nat.beq pc 2 || Nat.beq pc 24 || Nat.beq pc 67) 400 rfl
set_option maxRecDepth 100000 in
theorem v_Shifting_spread_24 (σ : St) (l1 : Int32) : Vv 91 0 24 [some (vR 64 0), some (vI l1)] [] σ = if l1 < (6 : Int32) then cI (Cc 77 0 [vR 48 0, vI l1] σ) (fun x2 σ1 => ix l1 6 (fun k3 => Vv 91 0 24 [some (vR 64 0), some (vI (l1 + 1))] [] (sI σ1 3337 0 k3 x2))) else cV (Cc 94 0 [vR 64 0, vI 0] (sI (sI σ 64 0 5 0) 64 0 6 0)) (fun σ4 => Vv 91 0 67 [some (vR 64 0), some (vI 0)] [] σ4) :=
  U_at (fun pc => Nat.beq pc 2 || Nat.beq pc 24 || Nat.beq pc 67) 400 rfl
set_option maxRecDepth 100000 in
theorem v_Shifting_spread_67 (σ : St) (l1 : Int32) : Vv 91 0 67 [some (vR 64 0), some (vI l1)] [] σ = if l1 < (gI σ 64 0 5) then if l1 < (720 : Int32) then ix l1 720 (fun k1 => cV (Cc 200 0 [vR 3329 0, vI (gI σ 32 0 2), vI (gI σ 32 4 2), vI (gI σ 368889 0 k1)] σ) (fun σ2 => cV (Cc 92 0 [vR 64 0] σ2) (fun σ3 => Vv 91 0 67 [some (vR 64 0), some (vI (l1 + 1))] [] σ3))) else some (none, σ) else some (none, σ) :=
  U_at (fun pc => Nat.beq pc 2 || Nat.beq pc 24 || Nat.beq pc 67) 400 rfl
/-! Shifting.visitNeighbours -/
set_option maxRecDepth 100000 in
theorem c_Shifting_visitNeighbours (σ : St) : Cc 92 0 [vR 64 0] σ = cI (Cc 96 0 [vR 64 0] σ) (fun x2 σ1 => cI (Cc 95 0 [vR 64 0] σ1) (fun x4 σ3 => Vv 92 0 14 [some (vR 64 0), some (vI (x2 + (1 : Int32))), some (vI x4), some (vI 0), none, none, none] [] σ3)) :=
  (Cc_eq _ _ _ _).trans (U_at (fun pc => Nat.beq pc 14 || Nat.beq pc 51) 400 rfl)
set_option maxRecDepth 100000 in
theorem v_Shifting_visitNeighbours_14 (σ : St) (l1 l2 l3 : Int32) : Vv 92 0 14 [some (vR 64 0), some (vI l1), some (vI l2), some (vI l3), none, none, none] [] σ = if l3 < (gI σ 32 4 2) then ix l3 6 (fun k1 => cI (Cc 93 0 [vR 64 0, vI (gI σ 3329 0 k1)] σ) (fun x3 σ2 => Vv 92 0 51 [some (vR 64 0), some (vI l1), some (vI l2), some (vI l3), some (vI (gI σ 3329 0 k1)), some (vI (x3 &&& (l2 ^^^ (-1 : Int32)))), some (vI 0)] [] σ2)) else some (none, σ) :=
  U_at (fun pc => Nat.beq pc 14 || Nat.beq pc 51) 400 rfl
set_option maxRecDepth 100000 in
theorem v_Shifting_visitNeighbours_51 (σ : St) (l1 l2 l3 l4 l5 l6 : Int32) : Vv 92 0 51 [some (vR 64 0), some (vI l1), some (vI l2), some (vI l3), some (vI l4), some (vI l5), some (vI l6)] [] σ = if l6 < (gI σ 32 0 2) then if ((l5 >>> (l6 &&& 31)) &&& (1 : Int32)) = 0 then Vv 92 0 51 [some (vR 64 0), some (vI l1), some (vI l2), some (vI l3), some (vI l4), some (vI l5), some (vI (l6 + 1))] [] σ else ix l3 6 (fun k1 => cV (Cc 94 0 [vR 64 0, vI l1] (sI σ 3329 0 k1 l6)) (fun σ2 => Vv 92 0 51 [some (vR 64 0), some (vI l1), some (vI l2), some (vI l3), some (vI l4), some (vI l5), some (vI (l6 + 1))] [] σ2)) else ix l3 6 (fun k3 => Vv 92 0 14 [some (vR 64 0), some (vI l1), some (vI l2), some (vI (l3 + 1)), none, none, none] [] (sI σ 3329 0 k3 l4)) :=
  U_at (fun pc => Nat.beq pc 14 || Nat.beq pc 51) 400 rfl
end
