-- ===== PART A: goes FIRST, ahead of the names: the tables' words, and 'selects' of the private methods out of them =====
/-- a private method of a class that the tables say can be made, by its rows of tables_1 -/
def lw_okq (q : MethodName × Nat) : Prop := (q.1.cls ≠ "java/lang/invoke/MethodHandle" ∧ q.1.cls ≠ "java/lang/invoke/VarHandle") ∧ Cond.instantiable q.1.cls q.2 ∈ tables_1 ∧ Cond.privateMethod q.1 ∈ tables_1 ∧ Cond.instanceMethod q.1 ∈ tables_1
theorem lw_p0 : lw_okq (⟨"SheGoesOut", "refuse", "(I)I"⟩, 7) := ⟨⟨by decide +kernel, by decide +kernel⟩, List.mem_of_getElem? (i := 24) (by decide +kernel), List.mem_of_getElem? (i := 345) (by decide +kernel), List.mem_of_getElem? (i := 346) (by decide +kernel)⟩
theorem lw_p1 : lw_okq (⟨"SheGoesOut$Tape", "landFault", "()I"⟩, 2) := ⟨⟨by decide +kernel, by decide +kernel⟩, List.mem_of_getElem? (i := 280) (by decide +kernel), List.mem_of_getElem? (i := 399) (by decide +kernel), List.mem_of_getElem? (i := 400) (by decide +kernel)⟩
theorem lw_p2 : lw_okq (⟨"SheGoesOut$Tape", "digitAt", "(I)I"⟩, 2) := ⟨⟨by decide +kernel, by decide +kernel⟩, List.mem_of_getElem? (i := 280) (by decide +kernel), List.mem_of_getElem? (i := 403) (by decide +kernel), List.mem_of_getElem? (i := 404) (by decide +kernel)⟩
theorem lw_p3 : lw_okq (⟨"SheGoesOut$Tape", "layOut", "(LSheGoesOut$Land;)I"⟩, 2) := ⟨⟨by decide +kernel, by decide +kernel⟩, List.mem_of_getElem? (i := 280) (by decide +kernel), List.mem_of_getElem? (i := 494) (by decide +kernel), List.mem_of_getElem? (i := 495) (by decide +kernel)⟩
theorem lw_p4 : lw_okq (⟨"SheGoesOut", "answered", "(I)I"⟩, 7) := ⟨⟨by decide +kernel, by decide +kernel⟩, List.mem_of_getElem? (i := 24) (by decide +kernel), List.mem_of_getElem? (i := 502) (by decide +kernel), List.mem_of_getElem? (i := 503) (by decide +kernel)⟩
theorem lw_p5 : lw_okq (⟨"SheGoesOut$Tape", "lawFault", "()I"⟩, 2) := ⟨⟨by decide +kernel, by decide +kernel⟩, List.mem_of_getElem? (i := 280) (by decide +kernel), List.mem_of_getElem? (i := 515) (by decide +kernel), List.mem_of_getElem? (i := 516) (by decide +kernel)⟩
theorem lw_p6 : lw_okq (⟨"SheGoesOut$Tape", "layDown", "(LSheGoesOut$Law;)I"⟩, 2) := ⟨⟨by decide +kernel, by decide +kernel⟩, List.mem_of_getElem? (i := 280) (by decide +kernel), List.mem_of_getElem? (i := 520) (by decide +kernel), List.mem_of_getElem? (i := 521) (by decide +kernel)⟩
theorem lw_p7 : lw_okq (⟨"SheGoesOut$Night", "leave", "(LSheGoesOut$Land;LSheGoesOut$Law;I)V"⟩, 5) := ⟨⟨by decide +kernel, by decide +kernel⟩, List.mem_of_getElem? (i := 79) (by decide +kernel), List.mem_of_getElem? (i := 563) (by decide +kernel), List.mem_of_getElem? (i := 564) (by decide +kernel)⟩
theorem lw_p8 : lw_okq (⟨"SheGoesOut$Night", "pulls", "(LSheGoesOut$Law;I)I"⟩, 5) := ⟨⟨by decide +kernel, by decide +kernel⟩, List.mem_of_getElem? (i := 79) (by decide +kernel), List.mem_of_getElem? (i := 587) (by decide +kernel), List.mem_of_getElem? (i := 588) (by decide +kernel)⟩
theorem lw_p9 : lw_okq (⟨"SheGoesOut$Night", "turn", "(LSheGoesOut$Law;IIJ)J"⟩, 5) := ⟨⟨by decide +kernel, by decide +kernel⟩, List.mem_of_getElem? (i := 79) (by decide +kernel), List.mem_of_getElem? (i := 593) (by decide +kernel), List.mem_of_getElem? (i := 594) (by decide +kernel)⟩
theorem lw_p10 : lw_okq (⟨"SheGoesOut$Night", "arrive", "(IIJ)J"⟩, 5) := ⟨⟨by decide +kernel, by decide +kernel⟩, List.mem_of_getElem? (i := 79) (by decide +kernel), List.mem_of_getElem? (i := 601) (by decide +kernel), List.mem_of_getElem? (i := 602) (by decide +kernel)⟩
theorem lw_p11 : lw_okq (⟨"SheGoesOut$Teams", "hasPlace", "(I)Z"⟩, 10) := ⟨⟨by decide +kernel, by decide +kernel⟩, List.mem_of_getElem? (i := 108) (by decide +kernel), List.mem_of_getElem? (i := 714) (by decide +kernel), List.mem_of_getElem? (i := 715) (by decide +kernel)⟩
theorem lw_p12 : lw_okq (⟨"SheGoesOut$Teams", "weigh", "(LSheGoesOut$State;)V"⟩, 10) := ⟨⟨by decide +kernel, by decide +kernel⟩, List.mem_of_getElem? (i := 108) (by decide +kernel), List.mem_of_getElem? (i := 726) (by decide +kernel), List.mem_of_getElem? (i := 727) (by decide +kernel)⟩
theorem lw_p13 : lw_okq (⟨"SheGoesOut$Teams", "send", "(IIJ)V"⟩, 10) := ⟨⟨by decide +kernel, by decide +kernel⟩, List.mem_of_getElem? (i := 108) (by decide +kernel), List.mem_of_getElem? (i := 745) (by decide +kernel), List.mem_of_getElem? (i := 746) (by decide +kernel)⟩
theorem lw_p14 : lw_okq (⟨"SheGoesOut$Jobs", "line", "(LSheGoesOut$State;IIIJ)V"⟩, 7) := ⟨⟨by decide +kernel, by decide +kernel⟩, List.mem_of_getElem? (i := 149) (by decide +kernel), List.mem_of_getElem? (i := 818) (by decide +kernel), List.mem_of_getElem? (i := 819) (by decide +kernel)⟩
theorem lw_p15 : lw_okq (⟨"SheGoesOut$Book", "within", "(II)I"⟩, 4) := ⟨⟨by decide +kernel, by decide +kernel⟩, List.mem_of_getElem? (i := 180) (by decide +kernel), List.mem_of_getElem? (i := 854) (by decide +kernel), List.mem_of_getElem? (i := 855) (by decide +kernel)⟩
def lw_privs_1 : List (MethodName × Nat) := [(⟨"SheGoesOut", "refuse", "(I)I"⟩, 7), (⟨"SheGoesOut$Tape", "landFault", "()I"⟩, 2), (⟨"SheGoesOut$Tape", "digitAt", "(I)I"⟩, 2), (⟨"SheGoesOut$Tape", "layOut", "(LSheGoesOut$Land;)I"⟩, 2), (⟨"SheGoesOut", "answered", "(I)I"⟩, 7), (⟨"SheGoesOut$Tape", "lawFault", "()I"⟩, 2), (⟨"SheGoesOut$Tape", "layDown", "(LSheGoesOut$Law;)I"⟩, 2), (⟨"SheGoesOut$Night", "leave", "(LSheGoesOut$Land;LSheGoesOut$Law;I)V"⟩, 5), (⟨"SheGoesOut$Night", "pulls", "(LSheGoesOut$Law;I)I"⟩, 5), (⟨"SheGoesOut$Night", "turn", "(LSheGoesOut$Law;IIJ)J"⟩, 5), (⟨"SheGoesOut$Night", "arrive", "(IIJ)J"⟩, 5), (⟨"SheGoesOut$Teams", "hasPlace", "(I)Z"⟩, 10), (⟨"SheGoesOut$Teams", "weigh", "(LSheGoesOut$State;)V"⟩, 10), (⟨"SheGoesOut$Teams", "send", "(IIJ)V"⟩, 10), (⟨"SheGoesOut$Jobs", "line", "(LSheGoesOut$State;IIIJ)V"⟩, 7), (⟨"SheGoesOut$Book", "within", "(II)I"⟩, 4)]
theorem lw_r1 : ∀ q ∈ lw_privs_1, lw_okq q := List.forall_mem_cons.mpr ⟨lw_p0, List.forall_mem_cons.mpr ⟨lw_p1, List.forall_mem_cons.mpr ⟨lw_p2, List.forall_mem_cons.mpr ⟨lw_p3, List.forall_mem_cons.mpr ⟨lw_p4, List.forall_mem_cons.mpr ⟨lw_p5, List.forall_mem_cons.mpr ⟨lw_p6, List.forall_mem_cons.mpr ⟨lw_p7, List.forall_mem_cons.mpr ⟨lw_p8, List.forall_mem_cons.mpr ⟨lw_p9, List.forall_mem_cons.mpr ⟨lw_p10, List.forall_mem_cons.mpr ⟨lw_p11, List.forall_mem_cons.mpr ⟨lw_p12, List.forall_mem_cons.mpr ⟨lw_p13, List.forall_mem_cons.mpr ⟨lw_p14, List.forall_mem_cons.mpr ⟨lw_p15, fun _ h => absurd h List.not_mem_nil⟩⟩⟩⟩⟩⟩⟩⟩⟩⟩⟩⟩⟩⟩⟩⟩
theorem lw_p16 : lw_okq (⟨"SheGoesOut$Net", "findHouses", "(LSheGoesOut$Land;)V"⟩, 7) := ⟨⟨by decide +kernel, by decide +kernel⟩, List.mem_of_getElem? (i := 250) (by decide +kernel), List.mem_of_getElem? (i := 923) (by decide +kernel), List.mem_of_getElem? (i := 924) (by decide +kernel)⟩
theorem lw_p17 : lw_okq (⟨"SheGoesOut$Net", "tell", "(LSheGoesOut$Night;IIJ)V"⟩, 7) := ⟨⟨by decide +kernel, by decide +kernel⟩, List.mem_of_getElem? (i := 250) (by decide +kernel), List.mem_of_getElem? (i := 929) (by decide +kernel), List.mem_of_getElem? (i := 930) (by decide +kernel)⟩
theorem lw_p18 : lw_okq (⟨"SheGoesOut$Net", "hear", "(LSheGoesOut$Night;I)J"⟩, 7) := ⟨⟨by decide +kernel, by decide +kernel⟩, List.mem_of_getElem? (i := 250) (by decide +kernel), List.mem_of_getElem? (i := 934) (by decide +kernel), List.mem_of_getElem? (i := 935) (by decide +kernel)⟩
theorem lw_p19 : lw_okq (⟨"SheGoesOut$Net", "forget", "(I)V"⟩, 7) := ⟨⟨by decide +kernel, by decide +kernel⟩, List.mem_of_getElem? (i := 250) (by decide +kernel), List.mem_of_getElem? (i := 943) (by decide +kernel), List.mem_of_getElem? (i := 944) (by decide +kernel)⟩
theorem lw_p20 : lw_okq (⟨"SheGoesOut", "areFindsAsTold", "(III)Z"⟩, 7) := ⟨⟨by decide +kernel, by decide +kernel⟩, List.mem_of_getElem? (i := 24) (by decide +kernel), List.mem_of_getElem? (i := 1038) (by decide +kernel), List.mem_of_getElem? (i := 1039) (by decide +kernel)⟩
theorem lw_p21 : lw_okq (⟨"SheGoesOutModel", "tells", "(I)I"⟩, 42) := ⟨⟨by decide +kernel, by decide +kernel⟩, List.mem_of_getElem? (i := 1098) (by decide +kernel), List.mem_of_getElem? (i := 1239) (by decide +kernel), List.mem_of_getElem? (i := 1240) (by decide +kernel)⟩
theorem lw_p22 : lw_okq (⟨"SheGoesOutModel", "says", "(J)J"⟩, 42) := ⟨⟨by decide +kernel, by decide +kernel⟩, List.mem_of_getElem? (i := 1098) (by decide +kernel), List.mem_of_getElem? (i := 1243) (by decide +kernel), List.mem_of_getElem? (i := 1244) (by decide +kernel)⟩
theorem lw_p23 : lw_okq (⟨"SheGoesOutModel", "row", "(I)I"⟩, 42) := ⟨⟨by decide +kernel, by decide +kernel⟩, List.mem_of_getElem? (i := 1098) (by decide +kernel), List.mem_of_getElem? (i := 1295) (by decide +kernel), List.mem_of_getElem? (i := 1296) (by decide +kernel)⟩
theorem lw_p24 : lw_okq (⟨"SheGoesOutModel", "here", "()I"⟩, 42) := ⟨⟨by decide +kernel, by decide +kernel⟩, List.mem_of_getElem? (i := 1098) (by decide +kernel), List.mem_of_getElem? (i := 1299) (by decide +kernel), List.mem_of_getElem? (i := 1300) (by decide +kernel)⟩
theorem lw_p25 : lw_okq (⟨"SheGoesOutModel", "has", "(I)Z"⟩, 42) := ⟨⟨by decide +kernel, by decide +kernel⟩, List.mem_of_getElem? (i := 1098) (by decide +kernel), List.mem_of_getElem? (i := 1308) (by decide +kernel), List.mem_of_getElem? (i := 1309) (by decide +kernel)⟩
theorem lw_p26 : lw_okq (⟨"SheGoesOutModel", "goes", "(II)V"⟩, 42) := ⟨⟨by decide +kernel, by decide +kernel⟩, List.mem_of_getElem? (i := 1098) (by decide +kernel), List.mem_of_getElem? (i := 1330) (by decide +kernel), List.mem_of_getElem? (i := 1331) (by decide +kernel)⟩
theorem lw_p27 : lw_okq (⟨"SheGoesOutModel", "weight", "(III)I"⟩, 42) := ⟨⟨by decide +kernel, by decide +kernel⟩, List.mem_of_getElem? (i := 1098) (by decide +kernel), List.mem_of_getElem? (i := 1334) (by decide +kernel), List.mem_of_getElem? (i := 1335) (by decide +kernel)⟩
theorem lw_p28 : lw_okq (⟨"SheGoesOutModel", "stopBehind", "(I)I"⟩, 42) := ⟨⟨by decide +kernel, by decide +kernel⟩, List.mem_of_getElem? (i := 1098) (by decide +kernel), List.mem_of_getElem? (i := 1342) (by decide +kernel), List.mem_of_getElem? (i := 1343) (by decide +kernel)⟩
theorem lw_p29 : lw_okq (⟨"SheGoesOutModel", "partsOf", "(I)J"⟩, 42) := ⟨⟨by decide +kernel, by decide +kernel⟩, List.mem_of_getElem? (i := 1098) (by decide +kernel), List.mem_of_getElem? (i := 1351) (by decide +kernel), List.mem_of_getElem? (i := 1352) (by decide +kernel)⟩
theorem lw_p30 : lw_okq (⟨"SheGoesOutModel", "all", "()J"⟩, 42) := ⟨⟨by decide +kernel, by decide +kernel⟩, List.mem_of_getElem? (i := 1098) (by decide +kernel), List.mem_of_getElem? (i := 1359) (by decide +kernel), List.mem_of_getElem? (i := 1360) (by decide +kernel)⟩
theorem lw_p31 : lw_okq (⟨"SheGoesOutModel", "cellsOf", "(I)I"⟩, 42) := ⟨⟨by decide +kernel, by decide +kernel⟩, List.mem_of_getElem? (i := 1098) (by decide +kernel), List.mem_of_getElem? (i := 1375) (by decide +kernel), List.mem_of_getElem? (i := 1376) (by decide +kernel)⟩
def lw_privs_2 : List (MethodName × Nat) := [(⟨"SheGoesOut$Net", "findHouses", "(LSheGoesOut$Land;)V"⟩, 7), (⟨"SheGoesOut$Net", "tell", "(LSheGoesOut$Night;IIJ)V"⟩, 7), (⟨"SheGoesOut$Net", "hear", "(LSheGoesOut$Night;I)J"⟩, 7), (⟨"SheGoesOut$Net", "forget", "(I)V"⟩, 7), (⟨"SheGoesOut", "areFindsAsTold", "(III)Z"⟩, 7), (⟨"SheGoesOutModel", "tells", "(I)I"⟩, 42), (⟨"SheGoesOutModel", "says", "(J)J"⟩, 42), (⟨"SheGoesOutModel", "row", "(I)I"⟩, 42), (⟨"SheGoesOutModel", "here", "()I"⟩, 42), (⟨"SheGoesOutModel", "has", "(I)Z"⟩, 42), (⟨"SheGoesOutModel", "goes", "(II)V"⟩, 42), (⟨"SheGoesOutModel", "weight", "(III)I"⟩, 42), (⟨"SheGoesOutModel", "stopBehind", "(I)I"⟩, 42), (⟨"SheGoesOutModel", "partsOf", "(I)J"⟩, 42), (⟨"SheGoesOutModel", "all", "()J"⟩, 42), (⟨"SheGoesOutModel", "cellsOf", "(I)I"⟩, 42)]
theorem lw_r2 : ∀ q ∈ lw_privs_2, lw_okq q := List.forall_mem_cons.mpr ⟨lw_p16, List.forall_mem_cons.mpr ⟨lw_p17, List.forall_mem_cons.mpr ⟨lw_p18, List.forall_mem_cons.mpr ⟨lw_p19, List.forall_mem_cons.mpr ⟨lw_p20, List.forall_mem_cons.mpr ⟨lw_p21, List.forall_mem_cons.mpr ⟨lw_p22, List.forall_mem_cons.mpr ⟨lw_p23, List.forall_mem_cons.mpr ⟨lw_p24, List.forall_mem_cons.mpr ⟨lw_p25, List.forall_mem_cons.mpr ⟨lw_p26, List.forall_mem_cons.mpr ⟨lw_p27, List.forall_mem_cons.mpr ⟨lw_p28, List.forall_mem_cons.mpr ⟨lw_p29, List.forall_mem_cons.mpr ⟨lw_p30, List.forall_mem_cons.mpr ⟨lw_p31, fun _ h => absurd h List.not_mem_nil⟩⟩⟩⟩⟩⟩⟩⟩⟩⟩⟩⟩⟩⟩⟩⟩
theorem lw_p32 : lw_okq (⟨"SheGoesOutModel", "sixteenths", "(IIZI)I"⟩, 42) := ⟨⟨by decide +kernel, by decide +kernel⟩, List.mem_of_getElem? (i := 1098) (by decide +kernel), List.mem_of_getElem? (i := 1386) (by decide +kernel), List.mem_of_getElem? (i := 1387) (by decide +kernel)⟩
theorem lw_p33 : lw_okq (⟨"SheGoesOutModel", "aliveAt", "(I)I"⟩, 42) := ⟨⟨by decide +kernel, by decide +kernel⟩, List.mem_of_getElem? (i := 1098) (by decide +kernel), List.mem_of_getElem? (i := 1403) (by decide +kernel), List.mem_of_getElem? (i := 1404) (by decide +kernel)⟩
theorem lw_p34 : lw_okq (⟨"SheGoesOutModel", "valuesAll", "()V"⟩, 42) := ⟨⟨by decide +kernel, by decide +kernel⟩, List.mem_of_getElem? (i := 1098) (by decide +kernel), List.mem_of_getElem? (i := 1420) (by decide +kernel), List.mem_of_getElem? (i := 1421) (by decide +kernel)⟩
theorem lw_p35 : lw_okq (⟨"SheGoesOutModel", "value", "(II)J"⟩, 42) := ⟨⟨by decide +kernel, by decide +kernel⟩, List.mem_of_getElem? (i := 1098) (by decide +kernel), List.mem_of_getElem? (i := 1424) (by decide +kernel), List.mem_of_getElem? (i := 1425) (by decide +kernel)⟩
theorem lw_p36 : lw_okq (⟨"SheGoesOutModel", "seen", "(III)J"⟩, 42) := ⟨⟨by decide +kernel, by decide +kernel⟩, List.mem_of_getElem? (i := 1098) (by decide +kernel), List.mem_of_getElem? (i := 1431) (by decide +kernel), List.mem_of_getElem? (i := 1432) (by decide +kernel)⟩
theorem lw_p37 : lw_okq (⟨"SheGoesOutModel", "turns", "(I)Z"⟩, 42) := ⟨⟨by decide +kernel, by decide +kernel⟩, List.mem_of_getElem? (i := 1098) (by decide +kernel), List.mem_of_getElem? (i := 1467) (by decide +kernel), List.mem_of_getElem? (i := 1468) (by decide +kernel)⟩
theorem lw_p38 : lw_okq (⟨"SheGoesOutModel", "writes", "(III)V"⟩, 42) := ⟨⟨by decide +kernel, by decide +kernel⟩, List.mem_of_getElem? (i := 1098) (by decide +kernel), List.mem_of_getElem? (i := 1479) (by decide +kernel), List.mem_of_getElem? (i := 1480) (by decide +kernel)⟩
theorem lw_p39 : lw_okq (⟨"SheGoesOutModel", "spanOf", "(III)I"⟩, 42) := ⟨⟨by decide +kernel, by decide +kernel⟩, List.mem_of_getElem? (i := 1098) (by decide +kernel), List.mem_of_getElem? (i := 1492) (by decide +kernel), List.mem_of_getElem? (i := 1493) (by decide +kernel)⟩
theorem lw_p40 : lw_okq (⟨"SheGoesOutModel", "leavesOf", "(I)J"⟩, 42) := ⟨⟨by decide +kernel, by decide +kernel⟩, List.mem_of_getElem? (i := 1098) (by decide +kernel), List.mem_of_getElem? (i := 1508) (by decide +kernel), List.mem_of_getElem? (i := 1509) (by decide +kernel)⟩
theorem lw_p41 : lw_okq (⟨"SheGoesOutModel", "netOf", "(II)J"⟩, 42) := ⟨⟨by decide +kernel, by decide +kernel⟩, List.mem_of_getElem? (i := 1098) (by decide +kernel), List.mem_of_getElem? (i := 1520) (by decide +kernel), List.mem_of_getElem? (i := 1521) (by decide +kernel)⟩
theorem lw_p42 : lw_okq (⟨"SheGoesOutModel", "lay", "([II)I"⟩, 42) := ⟨⟨by decide +kernel, by decide +kernel⟩, List.mem_of_getElem? (i := 1098) (by decide +kernel), List.mem_of_getElem? (i := 1535) (by decide +kernel), List.mem_of_getElem? (i := 1536) (by decide +kernel)⟩
theorem lw_p43 : lw_okq (⟨"SheGoesOutModel", "gives", "(I[I)I"⟩, 42) := ⟨⟨by decide +kernel, by decide +kernel⟩, List.mem_of_getElem? (i := 1098) (by decide +kernel), List.mem_of_getElem? (i := 1543) (by decide +kernel), List.mem_of_getElem? (i := 1544) (by decide +kernel)⟩
theorem lw_p44 : lw_okq (⟨"SheGoesOutModel", "why", "(IIII)I"⟩, 42) := ⟨⟨by decide +kernel, by decide +kernel⟩, List.mem_of_getElem? (i := 1098) (by decide +kernel), List.mem_of_getElem? (i := 1557) (by decide +kernel), List.mem_of_getElem? (i := 1558) (by decide +kernel)⟩
theorem lw_p45 : lw_okq (⟨"SheGoesOutModel", "puts", "(IIJ)V"⟩, 42) := ⟨⟨by decide +kernel, by decide +kernel⟩, List.mem_of_getElem? (i := 1098) (by decide +kernel), List.mem_of_getElem? (i := 1565) (by decide +kernel), List.mem_of_getElem? (i := 1566) (by decide +kernel)⟩
def lw_privs_3 : List (MethodName × Nat) := [(⟨"SheGoesOutModel", "sixteenths", "(IIZI)I"⟩, 42), (⟨"SheGoesOutModel", "aliveAt", "(I)I"⟩, 42), (⟨"SheGoesOutModel", "valuesAll", "()V"⟩, 42), (⟨"SheGoesOutModel", "value", "(II)J"⟩, 42), (⟨"SheGoesOutModel", "seen", "(III)J"⟩, 42), (⟨"SheGoesOutModel", "turns", "(I)Z"⟩, 42), (⟨"SheGoesOutModel", "writes", "(III)V"⟩, 42), (⟨"SheGoesOutModel", "spanOf", "(III)I"⟩, 42), (⟨"SheGoesOutModel", "leavesOf", "(I)J"⟩, 42), (⟨"SheGoesOutModel", "netOf", "(II)J"⟩, 42), (⟨"SheGoesOutModel", "lay", "([II)I"⟩, 42), (⟨"SheGoesOutModel", "gives", "(I[I)I"⟩, 42), (⟨"SheGoesOutModel", "why", "(IIII)I"⟩, 42), (⟨"SheGoesOutModel", "puts", "(IIJ)V"⟩, 42)]
theorem lw_r3 : ∀ q ∈ lw_privs_3, lw_okq q := List.forall_mem_cons.mpr ⟨lw_p32, List.forall_mem_cons.mpr ⟨lw_p33, List.forall_mem_cons.mpr ⟨lw_p34, List.forall_mem_cons.mpr ⟨lw_p35, List.forall_mem_cons.mpr ⟨lw_p36, List.forall_mem_cons.mpr ⟨lw_p37, List.forall_mem_cons.mpr ⟨lw_p38, List.forall_mem_cons.mpr ⟨lw_p39, List.forall_mem_cons.mpr ⟨lw_p40, List.forall_mem_cons.mpr ⟨lw_p41, List.forall_mem_cons.mpr ⟨lw_p42, List.forall_mem_cons.mpr ⟨lw_p43, List.forall_mem_cons.mpr ⟨lw_p44, List.forall_mem_cons.mpr ⟨lw_p45, fun _ h => absurd h List.not_mem_nil⟩⟩⟩⟩⟩⟩⟩⟩⟩⟩⟩⟩⟩⟩
def lw_privs : List (MethodName × Nat) := lw_privs_1 ++ (lw_privs_2 ++ (lw_privs_3))
def lw_tbl : List Cond := k2_sels lw_privs ++ tables_1
theorem lw_privs_ok : ∀ q ∈ lw_privs, lw_okq q := by
  show ∀ q ∈ lw_privs_1 ++ (lw_privs_2 ++ (lw_privs_3)), lw_okq q
  exact List.forall_mem_append.mpr ⟨lw_r1, List.forall_mem_append.mpr ⟨lw_r2, lw_r3⟩⟩
-- ===== end of PART A; then your names; then what follows =====
/-! printed by program out of the claim: names of classes, fields, methods -/
def RX0 : String := "SheGoesOut$Book"
def TX0 : u_T := fun k => match k with
  | 0 => ("SheGoesOut$Book", "ages", "[I", true)
  | 1 => ("SheGoesOut$Book", "fars", "[I", true)
  | 2 => ("SheGoesOut$Book", "kinds", "[I", true)
  | _ => ("SheGoesOut$Book", "count", "I", false)
def tyX0 : Nat → FieldType := fun k => match k with
  | 0 => .array .int
  | 1 => .array .int
  | 2 => .array .int
  | _ => .int
abbrev wsX00 : List Cond := u_ws RX0 TX0 4
theorem nmX0 : ∀ a, a < 4 → ∀ b, b < 4 → a ≠ b → (TX0 a).2.1 ≠ (TX0 b).2.1 := by decide +kernel
theorem tyX0_ok : ∀ k, k < 4 → parseFieldDescriptor (TX0 k).2.2.1 = some (tyX0 k) := by decide +kernel
abbrev cX0_init : ByteArray := prog_2_method_1_code
def yX0_init : MethodName := ⟨RX0, "<init>", "()V"⟩
abbrev cX0_become : ByteArray := prog_2_method_2_code
def yX0_become : MethodName := ⟨RX0, "become", "(LSheGoesOut$Book;)V"⟩
abbrev cX0_isAsTold : ByteArray := prog_2_method_3_code
def yX0_isAsTold : MethodName := ⟨RX0, "isAsTold", "(JJJ)Z"⟩
abbrev cX0_empty : ByteArray := prog_2_method_4_code
def yX0_empty : MethodName := ⟨RX0, "empty", "()I"⟩
abbrev cX0_add : ByteArray := prog_2_method_5_code
def yX0_add : MethodName := ⟨RX0, "add", "(III)I"⟩
abbrev cX0_ofKind : ByteArray := prog_2_method_6_code
def yX0_ofKind : MethodName := ⟨RX0, "ofKind", "(I)I"⟩
abbrev cX0_within : ByteArray := prog_2_method_7_code
def yX0_within : MethodName := ⟨RX0, "within", "(II)I"⟩
abbrev cX0_quarters : ByteArray := prog_2_method_8_code
def yX0_quarters : MethodName := ⟨RX0, "quarters", "(II)I"⟩
abbrev cX0_reach : ByteArray := prog_2_method_9_code
def yX0_reach : MethodName := ⟨RX0, "reach", "(II)I"⟩
abbrev cX0_heldUp : ByteArray := prog_2_method_10_code
def yX0_heldUp : MethodName := ⟨RX0, "heldUp", "()I"⟩
def RX1 : String := "SheGoesOut$Door"
def TX1 : u_T := fun k => match k with
  | 0 => ("SheGoesOut$Door", "keeps", "[I", true)
  | 1 => ("SheGoesOut$Door", "shuts", "[I", true)
  | _ => ("SheGoesOut$Door", "count", "I", false)
def tyX1 : Nat → FieldType := fun k => match k with
  | 0 => .array .int
  | 1 => .array .int
  | _ => .int
abbrev wsX10 : List Cond := u_ws RX1 TX1 3
theorem nmX1 : ∀ a, a < 3 → ∀ b, b < 3 → a ≠ b → (TX1 a).2.1 ≠ (TX1 b).2.1 := by decide +kernel
theorem tyX1_ok : ∀ k, k < 3 → parseFieldDescriptor (TX1 k).2.2.1 = some (tyX1 k) := by decide +kernel
abbrev cX1_init : ByteArray := prog_3_method_1_code
def yX1_init : MethodName := ⟨RX1, "<init>", "()V"⟩
abbrev cX1_become : ByteArray := prog_3_method_2_code
def yX1_become : MethodName := ⟨RX1, "become", "(LSheGoesOut$Door;)V"⟩
abbrev cX1_empty : ByteArray := prog_3_method_3_code
def yX1_empty : MethodName := ⟨RX1, "empty", "()I"⟩
abbrev cX1_add : ByteArray := prog_3_method_4_code
def yX1_add : MethodName := ⟨RX1, "add", "(II)I"⟩
abbrev cX1_isSet : ByteArray := prog_3_method_5_code
def yX1_isSet : MethodName := ⟨RX1, "isSet", "(I)Z"⟩
abbrev cX1_left : ByteArray := prog_3_method_6_code
def yX1_left : MethodName := ⟨RX1, "left", "(I)J"⟩
abbrev cX1_whole : ByteArray := prog_3_method_7_code
def yX1_whole : MethodName := ⟨RX1, "whole", "(I)J"⟩
abbrev cX1_shutIn : ByteArray := prog_3_method_8_code
def yX1_shutIn : MethodName := ⟨RX1, "shutIn", "(I)I"⟩
abbrev cX1_mildest : ByteArray := prog_3_method_9_code
def yX1_mildest : MethodName := ⟨RX1, "mildest", "(I)I"⟩
def RX2 : String := "SheGoesOut$Jobs"
def TX2 : u_T := fun k => match k with
  | 0 => ("SheGoesOut$Jobs", "cells", "[I", true)
  | 1 => ("SheGoesOut$Jobs", "sorts", "[I", true)
  | 2 => ("SheGoesOut$Jobs", "minutes", "[I", true)
  | 3 => ("SheGoesOut$Jobs", "tried", "[I", true)
  | 4 => ("SheGoesOut$Jobs", "chosen", "[I", true)
  | 5 => ("SheGoesOut$Jobs", "count", "I", false)
  | _ => ("SheGoesOut$Jobs", "most", "J", false)
def tyX2 : Nat → FieldType := fun k => match k with
  | 0 => .array .int
  | 1 => .array .int
  | 2 => .array .int
  | 3 => .array .int
  | 4 => .array .int
  | 5 => .int
  | _ => .long
abbrev wsX20 : List Cond := u_ws RX2 TX2 7
theorem nmX2 : ∀ a, a < 7 → ∀ b, b < 7 → a ≠ b → (TX2 a).2.1 ≠ (TX2 b).2.1 := by decide +kernel
theorem tyX2_ok : ∀ k, k < 7 → parseFieldDescriptor (TX2 k).2.2.1 = some (tyX2 k) := by decide +kernel
abbrev cX2_init : ByteArray := prog_4_method_1_code
def yX2_init : MethodName := ⟨RX2, "<init>", "()V"⟩
abbrev cX2_become : ByteArray := prog_4_method_2_code
def yX2_become : MethodName := ⟨RX2, "become", "(LSheGoesOut$Jobs;)V"⟩
abbrev cX2_empty : ByteArray := prog_4_method_3_code
def yX2_empty : MethodName := ⟨RX2, "empty", "()I"⟩
abbrev cX2_add : ByteArray := prog_4_method_4_code
def yX2_add : MethodName := ⟨RX2, "add", "(III)I"⟩
abbrev cX2_choose : ByteArray := prog_4_method_5_code
def yX2_choose : MethodName := ⟨RX2, "choose", "(LSheGoesOut$State;)V"⟩
abbrev cX2_line : ByteArray := prog_4_method_6_code
def yX2_line : MethodName := ⟨RX2, "line", "(LSheGoesOut$State;IIIJ)V"⟩
def RX3 : String := "SheGoesOut$Land"
def TX3 : u_T := fun k => match k with
  | 0 => ("SheGoesOut$Land", "kinds", "[I", true)
  | 1 => ("SheGoesOut$Land", "draws", "[I", true)
  | _ => ("SheGoesOut$Land", "searched", "[I", true)
def tyX3 : Nat → FieldType := fun k => match k with
  | 0 => .array .int
  | 1 => .array .int
  | _ => .array .int
abbrev wsX30 : List Cond := u_ws RX3 TX3 3
theorem nmX3 : ∀ a, a < 3 → ∀ b, b < 3 → a ≠ b → (TX3 a).2.1 ≠ (TX3 b).2.1 := by decide +kernel
theorem tyX3_ok : ∀ k, k < 3 → parseFieldDescriptor (TX3 k).2.2.1 = some (tyX3 k) := by decide +kernel
abbrev cX3_init : ByteArray := prog_5_method_1_code
def yX3_init : MethodName := ⟨RX3, "<init>", "()V"⟩
abbrev cX3_become : ByteArray := prog_5_method_2_code
def yX3_become : MethodName := ⟨RX3, "become", "(LSheGoesOut$Land;)V"⟩
abbrev cX3_lay : ByteArray := prog_5_method_3_code
def yX3_lay : MethodName := ⟨RX3, "lay", "(II)V"⟩
abbrev cX3_forgetSearches : ByteArray := prog_5_method_4_code
def yX3_forgetSearches : MethodName := ⟨RX3, "forgetSearches", "()V"⟩
abbrev cX3_isBarred : ByteArray := prog_5_method_5_code
def yX3_isBarred : MethodName := ⟨RX3, "isBarred", "(I)Z"⟩
abbrev cX3_cellsOf : ByteArray := prog_5_method_6_code
def yX3_cellsOf : MethodName := ⟨RX3, "cellsOf", "(I)I"⟩
abbrev cX3_searchedCells : ByteArray := prog_5_method_7_code
def yX3_searchedCells : MethodName := ⟨RX3, "searchedCells", "()I"⟩
abbrev cX3_lure : ByteArray := prog_5_method_8_code
def yX3_lure : MethodName := ⟨RX3, "lure", "(II)I"⟩
abbrev cX3_nextStop : ByteArray := prog_5_method_9_code
def yX3_nextStop : MethodName := ⟨RX3, "nextStop", "(I)I"⟩
abbrev cX3_beside : ByteArray := prog_5_method_10_code
def yX3_beside : MethodName := ⟨RX3, "beside", "(II)I"⟩
abbrev cX3_neighbour : ByteArray := prog_5_method_11_code
def yX3_neighbour : MethodName := ⟨RX3, "neighbour", "(II)I"⟩
abbrev cX3_rowsApart : ByteArray := prog_5_method_12_code
def yX3_rowsApart : MethodName := ⟨RX3, "rowsApart", "(II)I"⟩
abbrev cX3_columnsApart : ByteArray := prog_5_method_13_code
def yX3_columnsApart : MethodName := ⟨RX3, "columnsApart", "(II)I"⟩
abbrev cX3_isNear : ByteArray := prog_5_method_14_code
def yX3_isNear : MethodName := ⟨RX3, "isNear", "(III)Z"⟩
abbrev cX3_cellsNear : ByteArray := prog_5_method_15_code
def yX3_cellsNear : MethodName := ⟨RX3, "cellsNear", "(II)I"⟩
def RX4 : String := "SheGoesOut$Law"
def TX4 : u_T := fun k => match k with
  | 0 => ("SheGoesOut$Law", "settings", "[I", true)
  | _ => ("SheGoesOut$Law", "sits", "[I", true)
def tyX4 : Nat → FieldType := fun k => match k with
  | 0 => .array .int
  | _ => .array .int
abbrev wsX40 : List Cond := u_ws RX4 TX4 2
theorem nmX4 : ∀ a, a < 2 → ∀ b, b < 2 → a ≠ b → (TX4 a).2.1 ≠ (TX4 b).2.1 := by decide +kernel
theorem tyX4_ok : ∀ k, k < 2 → parseFieldDescriptor (TX4 k).2.2.1 = some (tyX4 k) := by decide +kernel
abbrev cX4_init : ByteArray := prog_6_method_1_code
def yX4_init : MethodName := ⟨RX4, "<init>", "()V"⟩
abbrev cX4_become : ByteArray := prog_6_method_2_code
def yX4_become : MethodName := ⟨RX4, "become", "(LSheGoesOut$Law;)V"⟩
abbrev cX4_highest : ByteArray := prog_6_method_3_code
def yX4_highest : MethodName := ⟨RX4, "highest", "(I)I"⟩
abbrev cX4_sitDown : ByteArray := prog_6_method_4_code
def yX4_sitDown : MethodName := ⟨RX4, "sitDown", "(II)I"⟩
abbrev cX4_rideOn : ByteArray := prog_6_method_5_code
def yX4_rideOn : MethodName := ⟨RX4, "rideOn", "(II)I"⟩
abbrev cX4_livingAt : ByteArray := prog_6_method_6_code
def yX4_livingAt : MethodName := ⟨RX4, "livingAt", "(I)I"⟩
abbrev cX4_sight : ByteArray := prog_6_method_7_code
def yX4_sight : MethodName := ⟨RX4, "sight", "(IIZI)I"⟩
def RX5 : String := "SheGoesOut$Net"
def TX5 : u_T := fun k => match k with
  | 0 => ("SheGoesOut$Net", "houses", "[I", true)
  | 1 => ("SheGoesOut$Net", "houseCount", "I", false)
  | 2 => ("SheGoesOut$Net", "ears", "[I", true)
  | 3 => ("SheGoesOut$Net", "tried", "[I", true)
  | 4 => ("SheGoesOut$Net", "wanted", "I", false)
  | 5 => ("SheGoesOut$Net", "chosen", "[I", true)
  | _ => ("SheGoesOut$Net", "most", "J", false)
def tyX5 : Nat → FieldType := fun k => match k with
  | 0 => .array .int
  | 1 => .int
  | 2 => .array .int
  | 3 => .array .int
  | 4 => .int
  | 5 => .array .int
  | _ => .long
abbrev wsX50 : List Cond := u_ws RX5 TX5 7
theorem nmX5 : ∀ a, a < 7 → ∀ b, b < 7 → a ≠ b → (TX5 a).2.1 ≠ (TX5 b).2.1 := by decide +kernel
theorem tyX5_ok : ∀ k, k < 7 → parseFieldDescriptor (TX5 k).2.2.1 = some (tyX5 k) := by decide +kernel
abbrev cX5_init : ByteArray := prog_7_method_1_code
def yX5_init : MethodName := ⟨RX5, "<init>", "()V"⟩
abbrev cX5_choose : ByteArray := prog_7_method_2_code
def yX5_choose : MethodName := ⟨RX5, "choose", "(LSheGoesOut$State;I)V"⟩
abbrev cX5_findHouses : ByteArray := prog_7_method_3_code
def yX5_findHouses : MethodName := ⟨RX5, "findHouses", "(LSheGoesOut$Land;)V"⟩
abbrev cX5_tell : ByteArray := prog_7_method_4_code
def yX5_tell : MethodName := ⟨RX5, "tell", "(LSheGoesOut$Night;IIJ)V"⟩
abbrev cX5_hear : ByteArray := prog_7_method_5_code
def yX5_hear : MethodName := ⟨RX5, "hear", "(LSheGoesOut$Night;I)J"⟩
abbrev cX5_forget : ByteArray := prog_7_method_6_code
def yX5_forget : MethodName := ⟨RX5, "forget", "(I)V"⟩
def RX6 : String := "SheGoesOut$Night"
def TX6 : u_T := fun k => match k with
  | 0 => ("SheGoesOut$Night", "going", "[J", true)
  | 1 => ("SheGoesOut$Night", "sitting", "[J", true)
  | 2 => ("SheGoesOut$Night", "coming", "[J", true)
  | 3 => ("SheGoesOut$Night", "lures", "[I", true)
  | _ => ("SheGoesOut$Night", "minute", "I", false)
def tyX6 : Nat → FieldType := fun k => match k with
  | 0 => .array .long
  | 1 => .array .long
  | 2 => .array .long
  | 3 => .array .int
  | _ => .int
abbrev wsX60 : List Cond := u_ws RX6 TX6 5
theorem nmX6 : ∀ a, a < 5 → ∀ b, b < 5 → a ≠ b → (TX6 a).2.1 ≠ (TX6 b).2.1 := by decide +kernel
theorem tyX6_ok : ∀ k, k < 5 → parseFieldDescriptor (TX6 k).2.2.1 = some (tyX6 k) := by decide +kernel
abbrev cX6_init : ByteArray := prog_8_method_1_code
def yX6_init : MethodName := ⟨RX6, "<init>", "()V"⟩
abbrev cX6_become : ByteArray := prog_8_method_2_code
def yX6_become : MethodName := ⟨RX6, "become", "(LSheGoesOut$Night;)V"⟩
abbrev cX6_isOut : ByteArray := prog_8_method_3_code
def yX6_isOut : MethodName := ⟨RX6, "isOut", "()Z"⟩
abbrev cX6_setOut : ByteArray := prog_8_method_4_code
def yX6_setOut : MethodName := ⟨RX6, "setOut", "(II)V"⟩
abbrev cX6_together : ByteArray := prog_8_method_5_code
def yX6_together : MethodName := ⟨RX6, "together", "(I)J"⟩
abbrev cX6_all : ByteArray := prog_8_method_6_code
def yX6_all : MethodName := ⟨RX6, "all", "()J"⟩
abbrev cX6_fullest : ByteArray := prog_8_method_7_code
def yX6_fullest : MethodName := ⟨RX6, "fullest", "(Z)I"⟩
abbrev cX6_pass : ByteArray := prog_8_method_8_code
def yX6_pass : MethodName := ⟨RX6, "pass", "(LSheGoesOut$Land;LSheGoesOut$Law;)V"⟩
abbrev cX6_leave : ByteArray := prog_8_method_9_code
def yX6_leave : MethodName := ⟨RX6, "leave", "(LSheGoesOut$Land;LSheGoesOut$Law;I)V"⟩
abbrev cX6_portion : ByteArray := prog_8_method_10_code
def yX6_portion : MethodName := ⟨RX6, "portion", "(JJJ)J"⟩
abbrev cX6_pulls : ByteArray := prog_8_method_11_code
def yX6_pulls : MethodName := ⟨RX6, "pulls", "(LSheGoesOut$Law;I)I"⟩
abbrev cX6_turn : ByteArray := prog_8_method_12_code
def yX6_turn : MethodName := ⟨RX6, "turn", "(LSheGoesOut$Law;IIJ)J"⟩
abbrev cX6_arrive : ByteArray := prog_8_method_13_code
def yX6_arrive : MethodName := ⟨RX6, "arrive", "(IIJ)J"⟩
abbrev cX6_seen : ByteArray := prog_8_method_14_code
def yX6_seen : MethodName := ⟨RX6, "seen", "(III)J"⟩
abbrev cX6_lose : ByteArray := prog_8_method_15_code
def yX6_lose : MethodName := ⟨RX6, "lose", "(III)V"⟩
abbrev cX6_doubtFarther : ByteArray := prog_8_method_16_code
def yX6_doubtFarther : MethodName := ⟨RX6, "doubtFarther", "(III)V"⟩
abbrev cX6_near : ByteArray := prog_8_method_17_code
def yX6_near : MethodName := ⟨RX6, "near", "(II)J"⟩
def RX7 : String := "SheGoesOut$Sheets"
def TX7 : u_T := fun k => match k with
  | 0 => ("SheGoesOut$Sheets", "items", "[J", true)
  | 1 => ("SheGoesOut$Sheets", "lanes", "[I", true)
  | _ => ("SheGoesOut$Sheets", "sizes", "[I", true)
def tyX7 : Nat → FieldType := fun k => match k with
  | 0 => .array .long
  | 1 => .array .int
  | _ => .array .int
abbrev wsX70 : List Cond := u_ws RX7 TX7 3
theorem nmX7 : ∀ a, a < 3 → ∀ b, b < 3 → a ≠ b → (TX7 a).2.1 ≠ (TX7 b).2.1 := by decide +kernel
theorem tyX7_ok : ∀ k, k < 3 → parseFieldDescriptor (TX7 k).2.2.1 = some (tyX7 k) := by decide +kernel
abbrev cX7_init : ByteArray := prog_9_method_1_code
def yX7_init : MethodName := ⟨RX7, "<init>", "()V"⟩
abbrev cX7_isSheet : ByteArray := prog_9_method_2_code
def yX7_isSheet : MethodName := ⟨RX7, "isSheet", "(I)Z"⟩
abbrev cX7_isLane : ByteArray := prog_9_method_3_code
def yX7_isLane : MethodName := ⟨RX7, "isLane", "(I)Z"⟩
abbrev cX7_isThere : ByteArray := prog_9_method_4_code
def yX7_isThere : MethodName := ⟨RX7, "isThere", "(I)Z"⟩
abbrev cX7_areAlike : ByteArray := prog_9_method_5_code
def yX7_areAlike : MethodName := ⟨RX7, "areAlike", "(II)Z"⟩
abbrev cX7_holds : ByteArray := prog_9_method_6_code
def yX7_holds : MethodName := ⟨RX7, "holds", "(III)Z"⟩
abbrev cX7_wrong : ByteArray := prog_9_method_7_code
def yX7_wrong : MethodName := ⟨RX7, "wrong", "(IIII)I"⟩
abbrev cX7_renew : ByteArray := prog_9_method_8_code
def yX7_renew : MethodName := ⟨RX7, "renew", "(III)V"⟩
abbrev cX7_empty : ByteArray := prog_9_method_9_code
def yX7_empty : MethodName := ⟨RX7, "empty", "(I)I"⟩
abbrev cX7_at : ByteArray := prog_9_method_10_code
def yX7_at : MethodName := ⟨RX7, "at", "(II)J"⟩
abbrev cX7_put : ByteArray := prog_9_method_11_code
def yX7_put : MethodName := ⟨RX7, "put", "(IIJ)V"⟩
abbrev cX7_cut : ByteArray := prog_9_method_12_code
def yX7_cut : MethodName := ⟨RX7, "cut", "(IJ)J"⟩
abbrev cX7_move : ByteArray := prog_9_method_13_code
def yX7_move : MethodName := ⟨RX7, "move", "(IIIII)V"⟩
def RX8 : String := "SheGoesOut$State"
def TX8 : u_T := fun k => match k with
  | 0 => ("SheGoesOut$State", "land", "LSheGoesOut$Land;", true)
  | 1 => ("SheGoesOut$State", "law", "LSheGoesOut$Law;", true)
  | 2 => ("SheGoesOut$State", "night", "LSheGoesOut$Night;", true)
  | 3 => ("SheGoesOut$State", "teams", "LSheGoesOut$Teams;", true)
  | 4 => ("SheGoesOut$State", "jobs", "LSheGoesOut$Jobs;", true)
  | 5 => ("SheGoesOut$State", "book", "LSheGoesOut$Book;", true)
  | _ => ("SheGoesOut$State", "door", "LSheGoesOut$Door;", true)
def tyX8 : Nat → FieldType := fun k => match k with
  | 0 => .object "SheGoesOut$Land"
  | 1 => .object "SheGoesOut$Law"
  | 2 => .object "SheGoesOut$Night"
  | 3 => .object "SheGoesOut$Teams"
  | 4 => .object "SheGoesOut$Jobs"
  | 5 => .object "SheGoesOut$Book"
  | _ => .object "SheGoesOut$Door"
abbrev wsX80 : List Cond := u_ws RX8 TX8 7
theorem nmX8 : ∀ a, a < 7 → ∀ b, b < 7 → a ≠ b → (TX8 a).2.1 ≠ (TX8 b).2.1 := by decide +kernel
theorem tyX8_ok : ∀ k, k < 7 → parseFieldDescriptor (TX8 k).2.2.1 = some (tyX8 k) := by decide +kernel
abbrev cX8_init : ByteArray := prog_10_method_1_code
def yX8_init : MethodName := ⟨RX8, "<init>", "()V"⟩
abbrev cX8_become : ByteArray := prog_10_method_2_code
def yX8_become : MethodName := ⟨RX8, "become", "(LSheGoesOut$State;)V"⟩
abbrev cX8_seen : ByteArray := prog_10_method_3_code
def yX8_seen : MethodName := ⟨RX8, "seen", "(III)J"⟩
abbrev cX8_worth : ByteArray := prog_10_method_4_code
def yX8_worth : MethodName := ⟨RX8, "worth", "(IIII)J"⟩
abbrev cX8_lookFor : ByteArray := prog_10_method_5_code
def yX8_lookFor : MethodName := ⟨RX8, "lookFor", "(II)J"⟩
abbrev cX8_bestOf : ByteArray := prog_10_method_6_code
def yX8_bestOf : MethodName := ⟨RX8, "bestOf", "(IZ)I"⟩
abbrev cX8_isWorthMore : ByteArray := prog_10_method_7_code
def yX8_isWorthMore : MethodName := ⟨RX8, "isWorthMore", "(II)Z"⟩
def RX9 : String := "SheGoesOut$Tape"
def TX9 : u_T := fun k => match k with
  | 0 => ("SheGoesOut$Tape", "bytes", "[C", true)
  | _ => ("SheGoesOut$Tape", "size", "I", false)
def tyX9 : Nat → FieldType := fun k => match k with
  | 0 => .array .char
  | _ => .int
abbrev wsX90 : List Cond := u_ws RX9 TX9 2
theorem nmX9 : ∀ a, a < 2 → ∀ b, b < 2 → a ≠ b → (TX9 a).2.1 ≠ (TX9 b).2.1 := by decide +kernel
theorem tyX9_ok : ∀ k, k < 2 → parseFieldDescriptor (TX9 k).2.2.1 = some (tyX9 k) := by decide +kernel
abbrev cX9_init : ByteArray := prog_11_method_1_code
def yX9_init : MethodName := ⟨RX9, "<init>", "()V"⟩
abbrev cX9_byteOf : ByteArray := prog_11_method_2_code
def yX9_byteOf : MethodName := ⟨RX9, "byteOf", "(JI)I"⟩
abbrev cX9_canHold : ByteArray := prog_11_method_3_code
def yX9_canHold : MethodName := ⟨RX9, "canHold", "(JI)Z"⟩
abbrev cX9_room : ByteArray := prog_11_method_4_code
def yX9_room : MethodName := ⟨RX9, "room", "()I"⟩
abbrev cX9_append : ByteArray := prog_11_method_5_code
def yX9_append : MethodName := ⟨RX9, "append", "(JI)I"⟩
abbrev cX9_readLand : ByteArray := prog_11_method_6_code
def yX9_readLand : MethodName := ⟨RX9, "readLand", "(LSheGoesOut$Land;)I"⟩
abbrev cX9_readLaw : ByteArray := prog_11_method_7_code
def yX9_readLaw : MethodName := ⟨RX9, "readLaw", "(LSheGoesOut$Law;)I"⟩
abbrev cX9_digitAt : ByteArray := prog_11_method_8_code
def yX9_digitAt : MethodName := ⟨RX9, "digitAt", "(I)I"⟩
abbrev cX9_landFault : ByteArray := prog_11_method_9_code
def yX9_landFault : MethodName := ⟨RX9, "landFault", "()I"⟩
abbrev cX9_layOut : ByteArray := prog_11_method_10_code
def yX9_layOut : MethodName := ⟨RX9, "layOut", "(LSheGoesOut$Land;)I"⟩
abbrev cX9_lawFault : ByteArray := prog_11_method_11_code
def yX9_lawFault : MethodName := ⟨RX9, "lawFault", "()I"⟩
abbrev cX9_layDown : ByteArray := prog_11_method_12_code
def yX9_layDown : MethodName := ⟨RX9, "layDown", "(LSheGoesOut$Law;)I"⟩
def RX10 : String := "SheGoesOut$Teams"
def TX10 : u_T := fun k => match k with
  | 0 => ("SheGoesOut$Teams", "sorts", "[I", true)
  | 1 => ("SheGoesOut$Teams", "cells", "[I", true)
  | 2 => ("SheGoesOut$Teams", "paces", "[I", true)
  | 3 => ("SheGoesOut$Teams", "places", "[I", true)
  | 4 => ("SheGoesOut$Teams", "values", "[J", true)
  | 5 => ("SheGoesOut$Teams", "tried", "[I", true)
  | 6 => ("SheGoesOut$Teams", "chosen", "[I", true)
  | 7 => ("SheGoesOut$Teams", "count", "I", false)
  | 8 => ("SheGoesOut$Teams", "placeCount", "I", false)
  | _ => ("SheGoesOut$Teams", "most", "J", false)
def tyX10 : Nat → FieldType := fun k => match k with
  | 0 => .array .int
  | 1 => .array .int
  | 2 => .array .int
  | 3 => .array .int
  | 4 => .array .long
  | 5 => .array .int
  | 6 => .array .int
  | 7 => .int
  | 8 => .int
  | _ => .long
abbrev wsX100 : List Cond := u_ws RX10 TX10 10
theorem nmX10 : ∀ a, a < 10 → ∀ b, b < 10 → a ≠ b → (TX10 a).2.1 ≠ (TX10 b).2.1 := by decide +kernel
theorem tyX10_ok : ∀ k, k < 10 → parseFieldDescriptor (TX10 k).2.2.1 = some (tyX10 k) := by decide +kernel
abbrev cX10_init : ByteArray := prog_12_method_1_code
def yX10_init : MethodName := ⟨RX10, "<init>", "()V"⟩
abbrev cX10_become : ByteArray := prog_12_method_2_code
def yX10_become : MethodName := ⟨RX10, "become", "(LSheGoesOut$Teams;)V"⟩
abbrev cX10_empty : ByteArray := prog_12_method_3_code
def yX10_empty : MethodName := ⟨RX10, "empty", "()I"⟩
abbrev cX10_addTeam : ByteArray := prog_12_method_4_code
def yX10_addTeam : MethodName := ⟨RX10, "addTeam", "(III)I"⟩
abbrev cX10_hasPlace : ByteArray := prog_12_method_5_code
def yX10_hasPlace : MethodName := ⟨RX10, "hasPlace", "(I)Z"⟩
abbrev cX10_addPlace : ByteArray := prog_12_method_6_code
def yX10_addPlace : MethodName := ⟨RX10, "addPlace", "(I)I"⟩
abbrev cX10_weigh : ByteArray := prog_12_method_7_code
def yX10_weigh : MethodName := ⟨RX10, "weigh", "(LSheGoesOut$State;)V"⟩
abbrev cX10_choose : ByteArray := prog_12_method_8_code
def yX10_choose : MethodName := ⟨RX10, "choose", "(LSheGoesOut$State;)V"⟩
abbrev cX10_send : ByteArray := prog_12_method_9_code
def yX10_send : MethodName := ⟨RX10, "send", "(IIJ)V"⟩
abbrev cX10_greatestTogether : ByteArray := prog_12_method_10_code
def yX10_greatestTogether : MethodName := ⟨RX10, "greatestTogether", "(LSheGoesOut$State;)J"⟩
def RX11 : String := "SheGoesOut"
def TX11 : u_T := fun k => match k with
  | 0 => ("SheGoesOut", "now", "LSheGoesOut$State;", true)
  | 1 => ("SheGoesOut", "kept", "LSheGoesOut$State;", true)
  | 2 => ("SheGoesOut", "net", "LSheGoesOut$Net;", true)
  | 3 => ("SheGoesOut", "tape", "LSheGoesOut$Tape;", true)
  | 4 => ("SheGoesOut", "sheets", "LSheGoesOut$Sheets;", true)
  | 5 => ("SheGoesOut", "refused", "[I", true)
  | _ => ("SheGoesOut", "imaged", "Z", false)
def tyX11 : Nat → FieldType := fun k => match k with
  | 0 => .object "SheGoesOut$State"
  | 1 => .object "SheGoesOut$State"
  | 2 => .object "SheGoesOut$Net"
  | 3 => .object "SheGoesOut$Tape"
  | 4 => .object "SheGoesOut$Sheets"
  | 5 => .array .int
  | _ => .boolean
abbrev wsX110 : List Cond := u_ws RX11 TX11 7
theorem nmX11 : ∀ a, a < 7 → ∀ b, b < 7 → a ≠ b → (TX11 a).2.1 ≠ (TX11 b).2.1 := by decide +kernel
theorem tyX11_ok : ∀ k, k < 7 → parseFieldDescriptor (TX11 k).2.2.1 = some (tyX11 k) := by decide +kernel
abbrev cX11_init : ByteArray := prog_1_method_1_code
def yX11_init : MethodName := ⟨RX11, "<init>", "()V"⟩
abbrev cX11_kind : ByteArray := prog_1_method_2_code
def yX11_kind : MethodName := ⟨RX11, "kind", "(II)I"⟩
abbrev cX11_draw : ByteArray := prog_1_method_3_code
def yX11_draw : MethodName := ⟨RX11, "draw", "(II)I"⟩
abbrev cX11_told : ByteArray := prog_1_method_4_code
def yX11_told : MethodName := ⟨RX11, "told", "(II)I"⟩
abbrev cX11_set : ByteArray := prog_1_method_5_code
def yX11_set : MethodName := ⟨RX11, "set", "(II)I"⟩
abbrev cX11_sits : ByteArray := prog_1_method_6_code
def yX11_sits : MethodName := ⟨RX11, "sits", "(II)I"⟩
abbrev cX11_type : ByteArray := prog_1_method_7_code
def yX11_type : MethodName := ⟨RX11, "type", "(JI)I"⟩
abbrev cX11_land : ByteArray := prog_1_method_8_code
def yX11_land : MethodName := ⟨RX11, "land", "()I"⟩
abbrev cX11_rules : ByteArray := prog_1_method_9_code
def yX11_rules : MethodName := ⟨RX11, "rules", "()I"⟩
abbrev cX11_start : ByteArray := prog_1_method_10_code
def yX11_start : MethodName := ⟨RX11, "start", "(II)I"⟩
abbrev cX11_night : ByteArray := prog_1_method_11_code
def yX11_night : MethodName := ⟨RX11, "night", "(I)I"⟩
abbrev cX11_parts : ByteArray := prog_1_method_12_code
def yX11_parts : MethodName := ⟨RX11, "parts", "(II)J"⟩
abbrev cX11_odds : ByteArray := prog_1_method_13_code
def yX11_odds : MethodName := ⟨RX11, "odds", "(II)J"⟩
abbrev cX11_where : ByteArray := prog_1_method_14_code
def yX11_where : MethodName := ⟨RX11, "where", "(I)I"⟩
abbrev cX11_count : ByteArray := prog_1_method_15_code
def yX11_count : MethodName := ⟨RX11, "count", "(I)I"⟩
abbrev cX11_sees : ByteArray := prog_1_method_16_code
def yX11_sees : MethodName := ⟨RX11, "sees", "(III)I"⟩
abbrev cX11_search : ByteArray := prog_1_method_17_code
def yX11_search : MethodName := ⟨RX11, "search", "(II)I"⟩
abbrev cX11_alive : ByteArray := prog_1_method_18_code
def yX11_alive : MethodName := ⟨RX11, "alive", "(I)I"⟩
abbrev cX11_team : ByteArray := prog_1_method_19_code
def yX11_team : MethodName := ⟨RX11, "team", "(III)I"⟩
abbrev cX11_place : ByteArray := prog_1_method_20_code
def yX11_place : MethodName := ⟨RX11, "place", "(I)I"⟩
abbrev cX11_whom : ByteArray := prog_1_method_21_code
def yX11_whom : MethodName := ⟨RX11, "whom", "(I)J"⟩
abbrev cX11_bound : ByteArray := prog_1_method_22_code
def yX11_bound : MethodName := ⟨RX11, "bound", "()J"⟩
abbrev cX11_again : ByteArray := prog_1_method_23_code
def yX11_again : MethodName := ⟨RX11, "again", "(II)I"⟩
abbrev cX11_call : ByteArray := prog_1_method_24_code
def yX11_call : MethodName := ⟨RX11, "call", "(III)I"⟩
abbrev cX11_truly : ByteArray := prog_1_method_25_code
def yX11_truly : MethodName := ⟨RX11, "truly", "(IIII)J"⟩
abbrev cX11_job : ByteArray := prog_1_method_26_code
def yX11_job : MethodName := ⟨RX11, "job", "(III)I"⟩
abbrev cX11_order : ByteArray := prog_1_method_27_code
def yX11_order : MethodName := ⟨RX11, "order", "(I)J"⟩
abbrev cX11_found : ByteArray := prog_1_method_28_code
def yX11_found : MethodName := ⟨RX11, "found", "(III)I"⟩
abbrev cX11_share : ByteArray := prog_1_method_29_code
def yX11_share : MethodName := ⟨RX11, "share", "(II)I"⟩
abbrev cX11_span : ByteArray := prog_1_method_30_code
def yX11_span : MethodName := ⟨RX11, "span", "(II)I"⟩
abbrev cX11_held : ByteArray := prog_1_method_31_code
def yX11_held : MethodName := ⟨RX11, "held", "()I"⟩
abbrev cX11_measure : ByteArray := prog_1_method_32_code
def yX11_measure : MethodName := ⟨RX11, "measure", "(II)I"⟩
abbrev cX11_leaves : ByteArray := prog_1_method_33_code
def yX11_leaves : MethodName := ⟨RX11, "leaves", "(II)J"⟩
abbrev cX11_least : ByteArray := prog_1_method_34_code
def yX11_least : MethodName := ⟨RX11, "least", "(II)I"⟩
abbrev cX11_net : ByteArray := prog_1_method_35_code
def yX11_net : MethodName := ⟨RX11, "net", "(II)J"⟩
abbrev cX11_clear : ByteArray := prog_1_method_36_code
def yX11_clear : MethodName := ⟨RX11, "clear", "()I"⟩
abbrev cX11_image : ByteArray := prog_1_method_37_code
def yX11_image : MethodName := ⟨RX11, "image", "()I"⟩
abbrev cX11_restore : ByteArray := prog_1_method_38_code
def yX11_restore : MethodName := ⟨RX11, "restore", "()I"⟩
abbrev cX11_status : ByteArray := prog_1_method_39_code
def yX11_status : MethodName := ⟨RX11, "status", "(I)I"⟩
abbrev cX11_finds : ByteArray := prog_1_method_40_code
def yX11_finds : MethodName := ⟨RX11, "finds", "(IIII)I"⟩
abbrev cX11_film : ByteArray := prog_1_method_41_code
def yX11_film : MethodName := ⟨RX11, "film", "(IIII)I"⟩
abbrev cX11_sheet : ByteArray := prog_1_method_42_code
def yX11_sheet : MethodName := ⟨RX11, "sheet", "(III)I"⟩
abbrev cX11_drop : ByteArray := prog_1_method_43_code
def yX11_drop : MethodName := ⟨RX11, "drop", "(I)I"⟩
abbrev cX11_item : ByteArray := prog_1_method_44_code
def yX11_item : MethodName := ⟨RX11, "item", "(IIIJ)I"⟩
abbrev cX11_copy : ByteArray := prog_1_method_45_code
def yX11_copy : MethodName := ⟨RX11, "copy", "(IIIII)I"⟩
abbrev cX11_isIn : ByteArray := prog_1_method_46_code
def yX11_isIn : MethodName := ⟨RX11, "isIn", "(III)Z"⟩
abbrev cX11_isCell : ByteArray := prog_1_method_47_code
def yX11_isCell : MethodName := ⟨RX11, "isCell", "(I)Z"⟩
abbrev cX11_isKind : ByteArray := prog_1_method_48_code
def yX11_isKind : MethodName := ⟨RX11, "isKind", "(I)Z"⟩
abbrev cX11_isSort : ByteArray := prog_1_method_49_code
def yX11_isSort : MethodName := ⟨RX11, "isSort", "(I)Z"⟩
abbrev cX11_isPart : ByteArray := prog_1_method_50_code
def yX11_isPart : MethodName := ⟨RX11, "isPart", "(I)Z"⟩
abbrev cX11_areFindsAsTold : ByteArray := prog_1_method_51_code
def yX11_areFindsAsTold : MethodName := ⟨RX11, "areFindsAsTold", "(III)Z"⟩
abbrev cX11_thousandths : ByteArray := prog_1_method_52_code
def yX11_thousandths : MethodName := ⟨RX11, "thousandths", "(JJ)I"⟩
abbrev cX11_lowest : ByteArray := prog_1_method_53_code
def yX11_lowest : MethodName := ⟨RX11, "lowest", "(JJI)J"⟩
abbrev cX11_commonDivisor : ByteArray := prog_1_method_54_code
def yX11_commonDivisor : MethodName := ⟨RX11, "commonDivisor", "(JJ)J"⟩
abbrev cX11_answered : ByteArray := prog_1_method_55_code
def yX11_answered : MethodName := ⟨RX11, "answered", "(I)I"⟩
abbrev cX11_refuse : ByteArray := prog_1_method_56_code
def yX11_refuse : MethodName := ⟨RX11, "refuse", "(I)I"⟩
abbrev cX11_reasonOf : ByteArray := prog_1_method_57_code
def yX11_reasonOf : MethodName := ⟨RX11, "reasonOf", "(I)I"⟩
def RX12 : String := "SheGoesOutModel"
def TX12 : u_T := fun k => match k with
  | 0 => ("SheGoesOutModel", "counts", "[I", true)
  | 1 => ("SheGoesOutModel", "kinds", "[I", true)
  | 2 => ("SheGoesOutModel", "draws", "[I", true)
  | 3 => ("SheGoesOutModel", "searched", "[I", true)
  | 4 => ("SheGoesOutModel", "settings", "[I", true)
  | 5 => ("SheGoesOutModel", "sitting", "[I", true)
  | 6 => ("SheGoesOutModel", "tape", "[I", true)
  | 7 => ("SheGoesOutModel", "taped", "I", false)
  | 8 => ("SheGoesOutModel", "at", "I", false)
  | 9 => ("SheGoesOutModel", "wrong", "Z", false)
  | 10 => ("SheGoesOutModel", "read", "[I", true)
  | 11 => ("SheGoesOutModel", "now", "[J", true)
  | 12 => ("SheGoesOutModel", "then", "[J", true)
  | 13 => ("SheGoesOutModel", "minute", "I", false)
  | 14 => ("SheGoesOutModel", "teams", "I", false)
  | 15 => ("SheGoesOutModel", "teamSort", "[I", true)
  | 16 => ("SheGoesOutModel", "teamCell", "[I", true)
  | 17 => ("SheGoesOutModel", "teamPace", "[I", true)
  | 18 => ("SheGoesOutModel", "places", "I", false)
  | 19 => ("SheGoesOutModel", "placeCell", "[I", true)
  | 20 => ("SheGoesOutModel", "values", "[J", true)
  | 21 => ("SheGoesOutModel", "jobs", "I", false)
  | 22 => ("SheGoesOutModel", "jobCell", "[I", true)
  | 23 => ("SheGoesOutModel", "jobSort", "[I", true)
  | 24 => ("SheGoesOutModel", "jobTakes", "[I", true)
  | 25 => ("SheGoesOutModel", "order", "[I", true)
  | 26 => ("SheGoesOutModel", "bestOrder", "[I", true)
  | 27 => ("SheGoesOutModel", "book", "I", false)
  | 28 => ("SheGoesOutModel", "ages", "[I", true)
  | 29 => ("SheGoesOutModel", "fars", "[I", true)
  | 30 => ("SheGoesOutModel", "foundKinds", "[I", true)
  | 31 => ("SheGoesOutModel", "measures", "I", false)
  | 32 => ("SheGoesOutModel", "keeps", "[I", true)
  | 33 => ("SheGoesOutModel", "shuts", "[I", true)
  | 34 => ("SheGoesOutModel", "houses", "[I", true)
  | 35 => ("SheGoesOutModel", "image", "[I", true)
  | 36 => ("SheGoesOutModel", "imageParts", "[J", true)
  | 37 => ("SheGoesOutModel", "isImage", "Z", false)
  | 38 => ("SheGoesOutModel", "lanes", "[I", true)
  | 39 => ("SheGoesOutModel", "sizes", "[I", true)
  | 40 => ("SheGoesOutModel", "items", "[J", true)
  | _ => ("SheGoesOutModel", "moved", "[J", true)
def tyX12 : Nat → FieldType := fun k => match k with
  | 0 => .array .int
  | 1 => .array .int
  | 2 => .array .int
  | 3 => .array .int
  | 4 => .array .int
  | 5 => .array .int
  | 6 => .array .int
  | 7 => .int
  | 8 => .int
  | 9 => .boolean
  | 10 => .array .int
  | 11 => .array .long
  | 12 => .array .long
  | 13 => .int
  | 14 => .int
  | 15 => .array .int
  | 16 => .array .int
  | 17 => .array .int
  | 18 => .int
  | 19 => .array .int
  | 20 => .array .long
  | 21 => .int
  | 22 => .array .int
  | 23 => .array .int
  | 24 => .array .int
  | 25 => .array .int
  | 26 => .array .int
  | 27 => .int
  | 28 => .array .int
  | 29 => .array .int
  | 30 => .array .int
  | 31 => .int
  | 32 => .array .int
  | 33 => .array .int
  | 34 => .array .int
  | 35 => .array .int
  | 36 => .array .long
  | 37 => .boolean
  | 38 => .array .int
  | 39 => .array .int
  | 40 => .array .long
  | _ => .array .long
abbrev wsX120 : List Cond := u_ws RX12 TX12 42
theorem nmX12 : ∀ a, a < 42 → ∀ b, b < 42 → a ≠ b → (TX12 a).2.1 ≠ (TX12 b).2.1 := by decide +kernel
theorem tyX12_ok : ∀ k, k < 42 → parseFieldDescriptor (TX12 k).2.2.1 = some (tyX12 k) := by decide +kernel
abbrev cX12_in : ByteArray := prog_14_method_2_code
def yX12_in : MethodName := ⟨RX12, "in", "(JJJ)Z"⟩
abbrev cX12_init : ByteArray := prog_14_method_3_code
def yX12_init : MethodName := ⟨RX12, "<init>", "()V"⟩
abbrev cX12_says : ByteArray := prog_14_method_4_code
def yX12_says : MethodName := ⟨RX12, "says", "(J)J"⟩
abbrev cX12_tells : ByteArray := prog_14_method_5_code
def yX12_tells : MethodName := ⟨RX12, "tells", "(I)I"⟩
abbrev cX12_status : ByteArray := prog_14_method_6_code
def yX12_status : MethodName := ⟨RX12, "status", "(I)I"⟩
abbrev cX12_isCell : ByteArray := prog_14_method_7_code
def yX12_isCell : MethodName := ⟨RX12, "isCell", "(I)Z"⟩
abbrev cX12_isKind : ByteArray := prog_14_method_8_code
def yX12_isKind : MethodName := ⟨RX12, "isKind", "(I)Z"⟩
abbrev cX12_kind : ByteArray := prog_14_method_9_code
def yX12_kind : MethodName := ⟨RX12, "kind", "(II)I"⟩
abbrev cX12_draw : ByteArray := prog_14_method_10_code
def yX12_draw : MethodName := ⟨RX12, "draw", "(II)I"⟩
abbrev cX12_told : ByteArray := prog_14_method_11_code
def yX12_told : MethodName := ⟨RX12, "told", "(II)I"⟩
abbrev cX12_set : ByteArray := prog_14_method_12_code
def yX12_set : MethodName := ⟨RX12, "set", "(II)I"⟩
abbrev cX12_sits : ByteArray := prog_14_method_13_code
def yX12_sits : MethodName := ⟨RX12, "sits", "(II)I"⟩
abbrev cX12_type : ByteArray := prog_14_method_14_code
def yX12_type : MethodName := ⟨RX12, "type", "(JI)I"⟩
abbrev cX12_here : ByteArray := prog_14_method_15_code
def yX12_here : MethodName := ⟨RX12, "here", "()I"⟩
abbrev cX12_has : ByteArray := prog_14_method_16_code
def yX12_has : MethodName := ⟨RX12, "has", "(I)Z"⟩
abbrev cX12_kindOf : ByteArray := prog_14_method_17_code
def yX12_kindOf : MethodName := ⟨RX12, "kindOf", "(I)I"⟩
abbrev cX12_row : ByteArray := prog_14_method_18_code
def yX12_row : MethodName := ⟨RX12, "row", "(I)I"⟩
abbrev cX12_land : ByteArray := prog_14_method_19_code
def yX12_land : MethodName := ⟨RX12, "land", "()I"⟩
abbrev cX12_settingOf : ByteArray := prog_14_method_20_code
def yX12_settingOf : MethodName := ⟨RX12, "settingOf", "(I)I"⟩
abbrev cX12_rules : ByteArray := prog_14_method_21_code
def yX12_rules : MethodName := ⟨RX12, "rules", "()I"⟩
abbrev cX12_start : ByteArray := prog_14_method_22_code
def yX12_start : MethodName := ⟨RX12, "start", "(II)I"⟩
abbrev cX12_next : ByteArray := prog_14_method_23_code
def yX12_next : MethodName := ⟨RX12, "next", "(II)I"⟩
abbrev cX12_weight : ByteArray := prog_14_method_24_code
def yX12_weight : MethodName := ⟨RX12, "weight", "(III)I"⟩
abbrev cX12_stopBehind : ByteArray := prog_14_method_25_code
def yX12_stopBehind : MethodName := ⟨RX12, "stopBehind", "(I)I"⟩
abbrev cX12_goes : ByteArray := prog_14_method_26_code
def yX12_goes : MethodName := ⟨RX12, "goes", "(II)V"⟩
abbrev cX12_night : ByteArray := prog_14_method_27_code
def yX12_night : MethodName := ⟨RX12, "night", "(I)I"⟩
abbrev cX12_partsOf : ByteArray := prog_14_method_28_code
def yX12_partsOf : MethodName := ⟨RX12, "partsOf", "(I)J"⟩
abbrev cX12_all : ByteArray := prog_14_method_29_code
def yX12_all : MethodName := ⟨RX12, "all", "()J"⟩
abbrev cX12_parts : ByteArray := prog_14_method_30_code
def yX12_parts : MethodName := ⟨RX12, "parts", "(II)J"⟩
abbrev cX12_lowest : ByteArray := prog_14_method_31_code
def yX12_lowest : MethodName := ⟨RX12, "lowest", "(JJI)J"⟩
abbrev cX12_odds : ByteArray := prog_14_method_32_code
def yX12_odds : MethodName := ⟨RX12, "odds", "(II)J"⟩
abbrev cX12_where : ByteArray := prog_14_method_33_code
def yX12_where : MethodName := ⟨RX12, "where", "(I)I"⟩
abbrev cX12_cellsOf : ByteArray := prog_14_method_34_code
def yX12_cellsOf : MethodName := ⟨RX12, "cellsOf", "(I)I"⟩
abbrev cX12_count : ByteArray := prog_14_method_35_code
def yX12_count : MethodName := ⟨RX12, "count", "(I)I"⟩
abbrev cX12_plain : ByteArray := prog_14_method_36_code
def yX12_plain : MethodName := ⟨RX12, "plain", "(II)I"⟩
abbrev cX12_sixteenths : ByteArray := prog_14_method_37_code
def yX12_sixteenths : MethodName := ⟨RX12, "sixteenths", "(IIZI)I"⟩
abbrev cX12_seen : ByteArray := prog_14_method_38_code
def yX12_seen : MethodName := ⟨RX12, "seen", "(III)J"⟩
abbrev cX12_isSort : ByteArray := prog_14_method_39_code
def yX12_isSort : MethodName := ⟨RX12, "isSort", "(I)Z"⟩
abbrev cX12_sees : ByteArray := prog_14_method_40_code
def yX12_sees : MethodName := ⟨RX12, "sees", "(III)I"⟩
abbrev cX12_search : ByteArray := prog_14_method_41_code
def yX12_search : MethodName := ⟨RX12, "search", "(II)I"⟩
abbrev cX12_aliveAt : ByteArray := prog_14_method_42_code
def yX12_aliveAt : MethodName := ⟨RX12, "aliveAt", "(I)I"⟩
abbrev cX12_alive : ByteArray := prog_14_method_43_code
def yX12_alive : MethodName := ⟨RX12, "alive", "(I)I"⟩
abbrev cX12_team : ByteArray := prog_14_method_44_code
def yX12_team : MethodName := ⟨RX12, "team", "(III)I"⟩
abbrev cX12_place : ByteArray := prog_14_method_45_code
def yX12_place : MethodName := ⟨RX12, "place", "(I)I"⟩
abbrev cX12_size : ByteArray := prog_14_method_46_code
def yX12_size : MethodName := ⟨RX12, "size", "(I)I"⟩
abbrev cX12_value : ByteArray := prog_14_method_47_code
def yX12_value : MethodName := ⟨RX12, "value", "(II)J"⟩
abbrev cX12_valuesAll : ByteArray := prog_14_method_48_code
def yX12_valuesAll : MethodName := ⟨RX12, "valuesAll", "()V"⟩
abbrev cX12_whom : ByteArray := prog_14_method_49_code
def yX12_whom : MethodName := ⟨RX12, "whom", "(I)J"⟩
abbrev cX12_bound : ByteArray := prog_14_method_50_code
def yX12_bound : MethodName := ⟨RX12, "bound", "()J"⟩
abbrev cX12_again : ByteArray := prog_14_method_51_code
def yX12_again : MethodName := ⟨RX12, "again", "(II)I"⟩
abbrev cX12_apart : ByteArray := prog_14_method_52_code
def yX12_apart : MethodName := ⟨RX12, "apart", "(II)I"⟩
abbrev cX12_isCall : ByteArray := prog_14_method_53_code
def yX12_isCall : MethodName := ⟨RX12, "isCall", "(III)Z"⟩
abbrev cX12_call : ByteArray := prog_14_method_54_code
def yX12_call : MethodName := ⟨RX12, "call", "(III)I"⟩
abbrev cX12_truly : ByteArray := prog_14_method_55_code
def yX12_truly : MethodName := ⟨RX12, "truly", "(IIII)J"⟩
abbrev cX12_job : ByteArray := prog_14_method_56_code
def yX12_job : MethodName := ⟨RX12, "job", "(III)I"⟩
abbrev cX12_turns : ByteArray := prog_14_method_57_code
def yX12_turns : MethodName := ⟨RX12, "turns", "(I)Z"⟩
abbrev cX12_order : ByteArray := prog_14_method_58_code
def yX12_order : MethodName := ⟨RX12, "order", "(I)J"⟩
abbrev cX12_isFound : ByteArray := prog_14_method_59_code
def yX12_isFound : MethodName := ⟨RX12, "isFound", "(JJJ)Z"⟩
abbrev cX12_writes : ByteArray := prog_14_method_60_code
def yX12_writes : MethodName := ⟨RX12, "writes", "(III)V"⟩
abbrev cX12_found : ByteArray := prog_14_method_61_code
def yX12_found : MethodName := ⟨RX12, "found", "(III)I"⟩
abbrev cX12_share : ByteArray := prog_14_method_62_code
def yX12_share : MethodName := ⟨RX12, "share", "(II)I"⟩
abbrev cX12_spanOf : ByteArray := prog_14_method_63_code
def yX12_spanOf : MethodName := ⟨RX12, "spanOf", "(III)I"⟩
abbrev cX12_span : ByteArray := prog_14_method_64_code
def yX12_span : MethodName := ⟨RX12, "span", "(II)I"⟩
abbrev cX12_held : ByteArray := prog_14_method_65_code
def yX12_held : MethodName := ⟨RX12, "held", "()I"⟩
abbrev cX12_measure : ByteArray := prog_14_method_66_code
def yX12_measure : MethodName := ⟨RX12, "measure", "(II)I"⟩
abbrev cX12_leavesOf : ByteArray := prog_14_method_67_code
def yX12_leavesOf : MethodName := ⟨RX12, "leavesOf", "(I)J"⟩
abbrev cX12_leaves : ByteArray := prog_14_method_68_code
def yX12_leaves : MethodName := ⟨RX12, "leaves", "(II)J"⟩
abbrev cX12_least : ByteArray := prog_14_method_69_code
def yX12_least : MethodName := ⟨RX12, "least", "(II)I"⟩
abbrev cX12_netOf : ByteArray := prog_14_method_70_code
def yX12_netOf : MethodName := ⟨RX12, "netOf", "(II)J"⟩
abbrev cX12_isAhead : ByteArray := prog_14_method_71_code
def yX12_isAhead : MethodName := ⟨RX12, "isAhead", "(II)Z"⟩
abbrev cX12_net : ByteArray := prog_14_method_72_code
def yX12_net : MethodName := ⟨RX12, "net", "(II)J"⟩
abbrev cX12_clear : ByteArray := prog_14_method_73_code
def yX12_clear : MethodName := ⟨RX12, "clear", "()I"⟩
abbrev cX12_lay : ByteArray := prog_14_method_74_code
def yX12_lay : MethodName := ⟨RX12, "lay", "([II)I"⟩
abbrev cX12_gives : ByteArray := prog_14_method_75_code
def yX12_gives : MethodName := ⟨RX12, "gives", "(I[I)I"⟩
abbrev cX12_image : ByteArray := prog_14_method_76_code
def yX12_image : MethodName := ⟨RX12, "image", "()I"⟩
abbrev cX12_restore : ByteArray := prog_14_method_77_code
def yX12_restore : MethodName := ⟨RX12, "restore", "()I"⟩
abbrev cX12_isSheet : ByteArray := prog_14_method_78_code
def yX12_isSheet : MethodName := ⟨RX12, "isSheet", "(I)Z"⟩
abbrev cX12_isLane : ByteArray := prog_14_method_79_code
def yX12_isLane : MethodName := ⟨RX12, "isLane", "(I)Z"⟩
abbrev cX12_why : ByteArray := prog_14_method_80_code
def yX12_why : MethodName := ⟨RX12, "why", "(IIII)I"⟩
abbrev cX12_finds : ByteArray := prog_14_method_81_code
def yX12_finds : MethodName := ⟨RX12, "finds", "(IIII)I"⟩
abbrev cX12_puts : ByteArray := prog_14_method_82_code
def yX12_puts : MethodName := ⟨RX12, "puts", "(IIJ)V"⟩
abbrev cX12_film : ByteArray := prog_14_method_83_code
def yX12_film : MethodName := ⟨RX12, "film", "(IIII)I"⟩
abbrev cX12_sheet : ByteArray := prog_14_method_84_code
def yX12_sheet : MethodName := ⟨RX12, "sheet", "(III)I"⟩
abbrev cX12_drop : ByteArray := prog_14_method_85_code
def yX12_drop : MethodName := ⟨RX12, "drop", "(I)I"⟩
abbrev cX12_item : ByteArray := prog_14_method_86_code
def yX12_item : MethodName := ⟨RX12, "item", "(IIIJ)I"⟩
abbrev cX12_copy : ByteArray := prog_14_method_87_code
def yX12_copy : MethodName := ⟨RX12, "copy", "(IIIII)I"⟩
def RJ11 : String := "java/lang/Character"
abbrev cJ11_isValidCodePoint_9a6ad : ByteArray := prog_15_method_11_code
def yJ11_isValidCodePoint_9a6ad : MethodName := ⟨RJ11, "isValidCodePoint", "(I)Z"⟩
abbrev cJ11_highSurrogate_5068e : ByteArray := prog_15_method_28_code
def yJ11_highSurrogate_5068e : MethodName := ⟨RJ11, "highSurrogate", "(I)C"⟩
abbrev cJ11_lowSurrogate_5068e : ByteArray := prog_15_method_29_code
def yJ11_lowSurrogate_5068e : MethodName := ⟨RJ11, "lowSurrogate", "(I)C"⟩
def RJ6 : String := "java/lang/Integer"
abbrev cJ6_bitCount_0f7a4 : ByteArray := prog_16_method_49_code
def yJ6_bitCount_0f7a4 : MethodName := ⟨RJ6, "bitCount", "(I)I"⟩
def RJ9 : String := "java/lang/Math"
abbrev cJ9_abs_0f7a4 : ByteArray := prog_17_method_59_code
def yJ9_abs_0f7a4 : MethodName := ⟨RJ9, "abs", "(I)I"⟩
abbrev cJ9_max_7cf53 : ByteArray := prog_17_method_65_code
def yJ9_max_7cf53 : MethodName := ⟨RJ9, "max", "(II)I"⟩
abbrev cJ9_max_f86c9 : ByteArray := prog_17_method_66_code
def yJ9_max_f86c9 : MethodName := ⟨RJ9, "max", "(JJ)J"⟩
abbrev cJ9_min_7cf53 : ByteArray := prog_17_method_69_code
def yJ9_min_7cf53 : MethodName := ⟨RJ9, "min", "(II)I"⟩
def RJ0 : String := "java/lang/String"
abbrev cJ0_length_8abf5 : ByteArray := prog_18_method_54_code
def yJ0_length_8abf5 : MethodName := ⟨RJ0, "length", "()I"⟩
abbrev cJ0_indexOf_0f7a4 : ByteArray := prog_18_method_79_code
def yJ0_indexOf_0f7a4 : MethodName := ⟨RJ0, "indexOf", "(I)I"⟩
abbrev cJ0_indexOf_7cf53 : ByteArray := prog_18_method_80_code
def yJ0_indexOf_7cf53 : MethodName := ⟨RJ0, "indexOf", "(II)I"⟩
abbrev cJ0_coder_7d493 : ByteArray := prog_18_method_152_code
def yJ0_coder_7d493 : MethodName := ⟨RJ0, "coder", "()B"⟩
abbrev cJ0_isLatin1_aae02 : ByteArray := prog_18_method_154_code
def yJ0_isLatin1_aae02 : MethodName := ⟨RJ0, "isLatin1", "()Z"⟩
abbrev cJ0_checkBoundsBeginEnd_23922 : ByteArray := prog_18_method_158_code
def yJ0_checkBoundsBeginEnd_23922 : MethodName := ⟨RJ0, "checkBoundsBeginEnd", "(III)V"⟩
def RJ1 : String := "java/lang/StringLatin1"
abbrev cJ1_canEncode_9a6ad : ByteArray := prog_19_method_4_code
def yJ1_canEncode_9a6ad : MethodName := ⟨RJ1, "canEncode", "(I)Z"⟩
abbrev cJ1_indexOf_4cfef : ByteArray := prog_19_method_22_code
def yJ1_indexOf_4cfef : MethodName := ⟨RJ1, "indexOf", "([BIII)I"⟩
abbrev cJ1_indexOfChar_4cfef : ByteArray := prog_19_method_23_code
def yJ1_indexOfChar_4cfef : MethodName := ⟨RJ1, "indexOfChar", "([BIII)I"⟩
def RJ2 : String := "java/lang/StringUTF16"
abbrev cJ2_getChar_3b067 : ByteArray := prog_20_method_5_code
def yJ2_getChar_3b067 : MethodName := ⟨RJ2, "getChar", "([BI)C"⟩
abbrev cJ2_length_9d52b : ByteArray := prog_20_method_6_code
def yJ2_length_9d52b : MethodName := ⟨RJ2, "length", "([B)I"⟩
abbrev cJ2_indexOf_4cfef : ByteArray := prog_20_method_40_code
def yJ2_indexOf_4cfef : MethodName := ⟨RJ2, "indexOf", "([BIII)I"⟩
abbrev cJ2_indexOfChar_4cfef : ByteArray := prog_20_method_47_code
def yJ2_indexOfChar_4cfef : MethodName := ⟨RJ2, "indexOfChar", "([BIII)I"⟩
abbrev cJ2_indexOfCharUnsafe_4cfef : ByteArray := prog_20_method_48_code
def yJ2_indexOfCharUnsafe_4cfef : MethodName := ⟨RJ2, "indexOfCharUnsafe", "([BIII)I"⟩
abbrev cJ2_indexOfSupplementary_4cfef : ByteArray := prog_20_method_49_code
def yJ2_indexOfSupplementary_4cfef : MethodName := ⟨RJ2, "indexOfSupplementary", "([BIII)I"⟩
abbrev cJ2_checkBoundsBeginEnd_d044e : ByteArray := prog_20_method_93_code
def yJ2_checkBoundsBeginEnd_d044e : MethodName := ⟨RJ2, "checkBoundsBeginEnd", "(II[B)V"⟩
def RJ10 : String := "java/lang/System"
def RJ7 : String := "java/util/Arrays"
abbrev cJ7_rangeCheck_23922 : ByteArray := prog_22_method_30_code
def yJ7_rangeCheck_23922 : MethodName := ⟨RJ7, "rangeCheck", "(III)V"⟩
abbrev cJ7_fill_d0a16 : ByteArray := prog_22_method_101_code
def yJ7_fill_d0a16 : MethodName := ⟨RJ7, "fill", "([JJ)V"⟩
abbrev cJ7_fill_bad5a : ByteArray := prog_22_method_102_code
def yJ7_fill_bad5a : MethodName := ⟨RJ7, "fill", "([JIIJ)V"⟩
abbrev cJ7_fill_53178 : ByteArray := prog_22_method_103_code
def yJ7_fill_53178 : MethodName := ⟨RJ7, "fill", "([II)V"⟩
def RJ3 : String := "jdk/internal/util/Preconditions"
abbrev cJ3_checkFromToIndex_8c36e : ByteArray := prog_23_method_12_code
def yJ3_checkFromToIndex_8c36e : MethodName := ⟨RJ3, "checkFromToIndex", "(IIILjava/util/function/BiFunction;)I"⟩
def RL : String := "SheGoesOutLaw"
abbrev cL_law : ByteArray := code
def yL_law : MethodName := ⟨RL, "law", "([I)Z"⟩
abbrev vwCl : List vw_C := [(RX0, TX0, 4), (RX1, TX1, 3), (RX2, TX2, 7), (RX3, TX3, 3), (RX4, TX4, 2), (RX5, TX5, 7), (RX6, TX6, 5), (RX7, TX7, 3), (RX8, TX8, 7), (RX9, TX9, 2), (RX10, TX10, 10), (RX11, TX11, 7), (RX12, TX12, 42)]
