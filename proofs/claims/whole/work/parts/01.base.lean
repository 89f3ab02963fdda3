-- ===== PART A: goes FIRST, ahead of the names: the tables' words, and 'selects' of the private methods out of them =====
/-- a private method of a class that the tables say can be made, by its rows of tables_1 -/
def lw_okq (q : MethodName × Nat) : Prop := (q.1.cls ≠ "java/lang/invoke/MethodHandle" ∧ q.1.cls ≠ "java/lang/invoke/VarHandle") ∧ Cond.instantiable q.1.cls q.2 ∈ tables_1 ∧ Cond.privateMethod q.1 ∈ tables_1 ∧ Cond.instanceMethod q.1 ∈ tables_1
theorem lw_p0 : lw_okq (⟨"SmokeRings", "reread", "(I)V"⟩, 13) := ⟨⟨by decide +kernel, by decide +kernel⟩, List.mem_of_getElem? (i := 20) (by decide +kernel), List.mem_of_getElem? (i := 447) (by decide +kernel), List.mem_of_getElem? (i := 448) (by decide +kernel)⟩
theorem lw_p1 : lw_okq (⟨"SmokeRings$Valley", "fill", "(LSmokeRings$Text;)I"⟩, 3) := ⟨⟨by decide +kernel, by decide +kernel⟩, List.mem_of_getElem? (i := 30) (by decide +kernel), List.mem_of_getElem? (i := 462) (by decide +kernel), List.mem_of_getElem? (i := 463) (by decide +kernel)⟩
theorem lw_p2 : lw_okq (⟨"SmokeRings$Valley", "link", "(II)V"⟩, 3) := ⟨⟨by decide +kernel, by decide +kernel⟩, List.mem_of_getElem? (i := 30) (by decide +kernel), List.mem_of_getElem? (i := 466) (by decide +kernel), List.mem_of_getElem? (i := 467) (by decide +kernel)⟩
theorem lw_p3 : lw_okq (⟨"SmokeRings$Valley", "link", "(IIIZ)V"⟩, 3) := ⟨⟨by decide +kernel, by decide +kernel⟩, List.mem_of_getElem? (i := 30) (by decide +kernel), List.mem_of_getElem? (i := 470) (by decide +kernel), List.mem_of_getElem? (i := 471) (by decide +kernel)⟩
theorem lw_p4 : lw_okq (⟨"SmokeRings", "isThing", "(I)Z"⟩, 13) := ⟨⟨by decide +kernel, by decide +kernel⟩, List.mem_of_getElem? (i := 20) (by decide +kernel), List.mem_of_getElem? (i := 520) (by decide +kernel), List.mem_of_getElem? (i := 521) (by decide +kernel)⟩
theorem lw_p5 : lw_okq (⟨"SmokeRings", "isRing", "(I)Z"⟩, 13) := ⟨⟨by decide +kernel, by decide +kernel⟩, List.mem_of_getElem? (i := 20) (by decide +kernel), List.mem_of_getElem? (i := 547) (by decide +kernel), List.mem_of_getElem? (i := 548) (by decide +kernel)⟩
theorem lw_p6 : lw_okq (⟨"SmokeRings", "found", "(I)I"⟩, 13) := ⟨⟨by decide +kernel, by decide +kernel⟩, List.mem_of_getElem? (i := 20) (by decide +kernel), List.mem_of_getElem? (i := 563) (by decide +kernel), List.mem_of_getElem? (i := 564) (by decide +kernel)⟩
theorem lw_p7 : lw_okq (⟨"SmokeRings$Sheet", "hasItem", "(I)Z"⟩, 3) := ⟨⟨by decide +kernel, by decide +kernel⟩, List.mem_of_getElem? (i := 250) (by decide +kernel), List.mem_of_getElem? (i := 571) (by decide +kernel), List.mem_of_getElem? (i := 572) (by decide +kernel)⟩
theorem lw_p8 : lw_okq (⟨"SmokeRings", "playTold", "()V"⟩, 13) := ⟨⟨by decide +kernel, by decide +kernel⟩, List.mem_of_getElem? (i := 20) (by decide +kernel), List.mem_of_getElem? (i := 579) (by decide +kernel), List.mem_of_getElem? (i := 580) (by decide +kernel)⟩
theorem lw_p9 : lw_okq (⟨"SmokeRings$Play", "move", "(LSmokeRings$Night;II)V"⟩, 13) := ⟨⟨by decide +kernel, by decide +kernel⟩, List.mem_of_getElem? (i := 139) (by decide +kernel), List.mem_of_getElem? (i := 591) (by decide +kernel), List.mem_of_getElem? (i := 592) (by decide +kernel)⟩
theorem lw_p10 : lw_okq (⟨"SmokeRings$Play", "shift", "(II)Z"⟩, 13) := ⟨⟨by decide +kernel, by decide +kernel⟩, List.mem_of_getElem? (i := 139) (by decide +kernel), List.mem_of_getElem? (i := 595) (by decide +kernel), List.mem_of_getElem? (i := 596) (by decide +kernel)⟩
theorem lw_p11 : lw_okq (⟨"SmokeRings$Play", "settle", "(II)V"⟩, 13) := ⟨⟨by decide +kernel, by decide +kernel⟩, List.mem_of_getElem? (i := 139) (by decide +kernel), List.mem_of_getElem? (i := 599) (by decide +kernel), List.mem_of_getElem? (i := 600) (by decide +kernel)⟩
theorem lw_p12 : lw_okq (⟨"SmokeRings$Play", "start", "(LSmokeRings$Night;I)V"⟩, 13) := ⟨⟨by decide +kernel, by decide +kernel⟩, List.mem_of_getElem? (i := 139) (by decide +kernel), List.mem_of_getElem? (i := 603) (by decide +kernel), List.mem_of_getElem? (i := 604) (by decide +kernel)⟩
theorem lw_p13 : lw_okq (⟨"SmokeRings$Play", "meet", "(LSmokeRings$Night;I)V"⟩, 13) := ⟨⟨by decide +kernel, by decide +kernel⟩, List.mem_of_getElem? (i := 139) (by decide +kernel), List.mem_of_getElem? (i := 608) (by decide +kernel), List.mem_of_getElem? (i := 609) (by decide +kernel)⟩
theorem lw_p14 : lw_okq (⟨"SmokeRings$Play", "fall", "(LSmokeRings$Night;I)V"⟩, 13) := ⟨⟨by decide +kernel, by decide +kernel⟩, List.mem_of_getElem? (i := 139) (by decide +kernel), List.mem_of_getElem? (i := 612) (by decide +kernel), List.mem_of_getElem? (i := 613) (by decide +kernel)⟩
theorem lw_p15 : lw_okq (⟨"SmokeRings$Plans", "binds", "(I)Z"⟩, 10) := ⟨⟨by decide +kernel, by decide +kernel⟩, List.mem_of_getElem? (i := 269) (by decide +kernel), List.mem_of_getElem? (i := 708) (by decide +kernel), List.mem_of_getElem? (i := 709) (by decide +kernel)⟩
def lw_privs_1 : List (MethodName × Nat) := [(⟨"SmokeRings", "reread", "(I)V"⟩, 13), (⟨"SmokeRings$Valley", "fill", "(LSmokeRings$Text;)I"⟩, 3), (⟨"SmokeRings$Valley", "link", "(II)V"⟩, 3), (⟨"SmokeRings$Valley", "link", "(IIIZ)V"⟩, 3), (⟨"SmokeRings", "isThing", "(I)Z"⟩, 13), (⟨"SmokeRings", "isRing", "(I)Z"⟩, 13), (⟨"SmokeRings", "found", "(I)I"⟩, 13), (⟨"SmokeRings$Sheet", "hasItem", "(I)Z"⟩, 3), (⟨"SmokeRings", "playTold", "()V"⟩, 13), (⟨"SmokeRings$Play", "move", "(LSmokeRings$Night;II)V"⟩, 13), (⟨"SmokeRings$Play", "shift", "(II)Z"⟩, 13), (⟨"SmokeRings$Play", "settle", "(II)V"⟩, 13), (⟨"SmokeRings$Play", "start", "(LSmokeRings$Night;I)V"⟩, 13), (⟨"SmokeRings$Play", "meet", "(LSmokeRings$Night;I)V"⟩, 13), (⟨"SmokeRings$Play", "fall", "(LSmokeRings$Night;I)V"⟩, 13), (⟨"SmokeRings$Plans", "binds", "(I)Z"⟩, 10)]
theorem lw_r1 : ∀ q ∈ lw_privs_1, lw_okq q := List.forall_mem_cons.mpr ⟨lw_p0, List.forall_mem_cons.mpr ⟨lw_p1, List.forall_mem_cons.mpr ⟨lw_p2, List.forall_mem_cons.mpr ⟨lw_p3, List.forall_mem_cons.mpr ⟨lw_p4, List.forall_mem_cons.mpr ⟨lw_p5, List.forall_mem_cons.mpr ⟨lw_p6, List.forall_mem_cons.mpr ⟨lw_p7, List.forall_mem_cons.mpr ⟨lw_p8, List.forall_mem_cons.mpr ⟨lw_p9, List.forall_mem_cons.mpr ⟨lw_p10, List.forall_mem_cons.mpr ⟨lw_p11, List.forall_mem_cons.mpr ⟨lw_p12, List.forall_mem_cons.mpr ⟨lw_p13, List.forall_mem_cons.mpr ⟨lw_p14, List.forall_mem_cons.mpr ⟨lw_p15, fun _ h => absurd h List.not_mem_nil⟩⟩⟩⟩⟩⟩⟩⟩⟩⟩⟩⟩⟩⟩⟩⟩
theorem lw_p16 : lw_okq (⟨"SmokeRings$Guesses", "comesOut", "()Z"⟩, 7) := ⟨⟨by decide +kernel, by decide +kernel⟩, List.mem_of_getElem? (i := 328) (by decide +kernel), List.mem_of_getElem? (i := 768) (by decide +kernel), List.mem_of_getElem? (i := 769) (by decide +kernel)⟩
theorem lw_p17 : lw_okq (⟨"SmokeRings$Guesses", "tallyOutcomes", "()V"⟩, 7) := ⟨⟨by decide +kernel, by decide +kernel⟩, List.mem_of_getElem? (i := 328) (by decide +kernel), List.mem_of_getElem? (i := 816) (by decide +kernel), List.mem_of_getElem? (i := 817) (by decide +kernel)⟩
theorem lw_p18 : lw_okq (⟨"SmokeRings$Guesses", "greatestTally", "(I)I"⟩, 7) := ⟨⟨by decide +kernel, by decide +kernel⟩, List.mem_of_getElem? (i := 328) (by decide +kernel), List.mem_of_getElem? (i := 821) (by decide +kernel), List.mem_of_getElem? (i := 822) (by decide +kernel)⟩
theorem lw_p19 : lw_okq (⟨"SmokeRings$Chances", "findWindy", "(I)V"⟩, 10) := ⟨⟨by decide +kernel, by decide +kernel⟩, List.mem_of_getElem? (i := 356) (by decide +kernel), List.mem_of_getElem? (i := 835) (by decide +kernel), List.mem_of_getElem? (i := 836) (by decide +kernel)⟩
theorem lw_p20 : lw_okq (⟨"SmokeRings$Chances", "weighCalms", "(IJ)V"⟩, 10) := ⟨⟨by decide +kernel, by decide +kernel⟩, List.mem_of_getElem? (i := 356) (by decide +kernel), List.mem_of_getElem? (i := 848) (by decide +kernel), List.mem_of_getElem? (i := 849) (by decide +kernel)⟩
theorem lw_p21 : lw_okq (⟨"SmokeRings$Chances", "weightOf", "(II)J"⟩, 10) := ⟨⟨by decide +kernel, by decide +kernel⟩, List.mem_of_getElem? (i := 356) (by decide +kernel), List.mem_of_getElem? (i := 857) (by decide +kernel), List.mem_of_getElem? (i := 858) (by decide +kernel)⟩
theorem lw_p22 : lw_okq (⟨"SmokeRings$Chances", "halvings", "(J)I"⟩, 10) := ⟨⟨by decide +kernel, by decide +kernel⟩, List.mem_of_getElem? (i := 356) (by decide +kernel), List.mem_of_getElem? (i := 861) (by decide +kernel), List.mem_of_getElem? (i := 862) (by decide +kernel)⟩
theorem lw_p23 : lw_okq (⟨"SmokeRings$Chances", "lot", "(I)I"⟩, 10) := ⟨⟨by decide +kernel, by decide +kernel⟩, List.mem_of_getElem? (i := 356) (by decide +kernel), List.mem_of_getElem? (i := 877) (by decide +kernel), List.mem_of_getElem? (i := 878) (by decide +kernel)⟩
theorem lw_p24 : lw_okq (⟨"SmokeRings", "digestRing", "(JI)J"⟩, 13) := ⟨⟨by decide +kernel, by decide +kernel⟩, List.mem_of_getElem? (i := 20) (by decide +kernel), List.mem_of_getElem? (i := 949) (by decide +kernel), List.mem_of_getElem? (i := 950) (by decide +kernel)⟩
theorem lw_p25 : lw_okq (⟨"SmokeRings", "digestThing", "(JI)J"⟩, 13) := ⟨⟨by decide +kernel, by decide +kernel⟩, List.mem_of_getElem? (i := 20) (by decide +kernel), List.mem_of_getElem? (i := 957) (by decide +kernel), List.mem_of_getElem? (i := 958) (by decide +kernel)⟩
theorem lw_p26 : lw_okq (⟨"SmokeRings", "digestWhom", "(JI)J"⟩, 13) := ⟨⟨by decide +kernel, by decide +kernel⟩, List.mem_of_getElem? (i := 20) (by decide +kernel), List.mem_of_getElem? (i := 962) (by decide +kernel), List.mem_of_getElem? (i := 963) (by decide +kernel)⟩
theorem lw_p27 : lw_okq (⟨"SmokeRings", "digestRest", "(J)J"⟩, 13) := ⟨⟨by decide +kernel, by decide +kernel⟩, List.mem_of_getElem? (i := 20) (by decide +kernel), List.mem_of_getElem? (i := 966) (by decide +kernel), List.mem_of_getElem? (i := 967) (by decide +kernel)⟩
theorem lw_p28 : lw_okq (⟨"SmokeRingsModel", "finds", "(I)I"⟩, 32) := ⟨⟨by decide +kernel, by decide +kernel⟩, List.mem_of_getElem? (i := 973) (by decide +kernel), List.mem_of_getElem? (i := 1088) (by decide +kernel), List.mem_of_getElem? (i := 1089) (by decide +kernel)⟩
theorem lw_p29 : lw_okq (⟨"SmokeRingsModel", "lacks", "(III)I"⟩, 32) := ⟨⟨by decide +kernel, by decide +kernel⟩, List.mem_of_getElem? (i := 973) (by decide +kernel), List.mem_of_getElem? (i := 1100) (by decide +kernel), List.mem_of_getElem? (i := 1101) (by decide +kernel)⟩
theorem lw_p30 : lw_okq (⟨"SmokeRingsModel", "readsText", "(I)I"⟩, 32) := ⟨⟨by decide +kernel, by decide +kernel⟩, List.mem_of_getElem? (i := 973) (by decide +kernel), List.mem_of_getElem? (i := 1136) (by decide +kernel), List.mem_of_getElem? (i := 1137) (by decide +kernel)⟩
theorem lw_p31 : lw_okq (⟨"SmokeRingsModel", "readsValley", "()I"⟩, 32) := ⟨⟨by decide +kernel, by decide +kernel⟩, List.mem_of_getElem? (i := 973) (by decide +kernel), List.mem_of_getElem? (i := 1140) (by decide +kernel), List.mem_of_getElem? (i := 1141) (by decide +kernel)⟩
def lw_privs_2 : List (MethodName × Nat) := [(⟨"SmokeRings$Guesses", "comesOut", "()Z"⟩, 7), (⟨"SmokeRings$Guesses", "tallyOutcomes", "()V"⟩, 7), (⟨"SmokeRings$Guesses", "greatestTally", "(I)I"⟩, 7), (⟨"SmokeRings$Chances", "findWindy", "(I)V"⟩, 10), (⟨"SmokeRings$Chances", "weighCalms", "(IJ)V"⟩, 10), (⟨"SmokeRings$Chances", "weightOf", "(II)J"⟩, 10), (⟨"SmokeRings$Chances", "halvings", "(J)I"⟩, 10), (⟨"SmokeRings$Chances", "lot", "(I)I"⟩, 10), (⟨"SmokeRings", "digestRing", "(JI)J"⟩, 13), (⟨"SmokeRings", "digestThing", "(JI)J"⟩, 13), (⟨"SmokeRings", "digestWhom", "(JI)J"⟩, 13), (⟨"SmokeRings", "digestRest", "(J)J"⟩, 13), (⟨"SmokeRingsModel", "finds", "(I)I"⟩, 32), (⟨"SmokeRingsModel", "lacks", "(III)I"⟩, 32), (⟨"SmokeRingsModel", "readsText", "(I)I"⟩, 32), (⟨"SmokeRingsModel", "readsValley", "()I"⟩, 32)]
theorem lw_r2 : ∀ q ∈ lw_privs_2, lw_okq q := List.forall_mem_cons.mpr ⟨lw_p16, List.forall_mem_cons.mpr ⟨lw_p17, List.forall_mem_cons.mpr ⟨lw_p18, List.forall_mem_cons.mpr ⟨lw_p19, List.forall_mem_cons.mpr ⟨lw_p20, List.forall_mem_cons.mpr ⟨lw_p21, List.forall_mem_cons.mpr ⟨lw_p22, List.forall_mem_cons.mpr ⟨lw_p23, List.forall_mem_cons.mpr ⟨lw_p24, List.forall_mem_cons.mpr ⟨lw_p25, List.forall_mem_cons.mpr ⟨lw_p26, List.forall_mem_cons.mpr ⟨lw_p27, List.forall_mem_cons.mpr ⟨lw_p28, List.forall_mem_cons.mpr ⟨lw_p29, List.forall_mem_cons.mpr ⟨lw_p30, List.forall_mem_cons.mpr ⟨lw_p31, fun _ h => absurd h List.not_mem_nil⟩⟩⟩⟩⟩⟩⟩⟩⟩⟩⟩⟩⟩⟩⟩⟩
theorem lw_p32 : lw_okq (⟨"SmokeRingsModel", "torn", "(I)I"⟩, 32) := ⟨⟨by decide +kernel, by decide +kernel⟩, List.mem_of_getElem? (i := 973) (by decide +kernel), List.mem_of_getElem? (i := 1144) (by decide +kernel), List.mem_of_getElem? (i := 1145) (by decide +kernel)⟩
theorem lw_p33 : lw_okq (⟨"SmokeRingsModel", "readsThings", "()I"⟩, 32) := ⟨⟨by decide +kernel, by decide +kernel⟩, List.mem_of_getElem? (i := 973) (by decide +kernel), List.mem_of_getElem? (i := 1148) (by decide +kernel), List.mem_of_getElem? (i := 1149) (by decide +kernel)⟩
theorem lw_p34 : lw_okq (⟨"SmokeRingsModel", "readsWind", "()I"⟩, 32) := ⟨⟨by decide +kernel, by decide +kernel⟩, List.mem_of_getElem? (i := 973) (by decide +kernel), List.mem_of_getElem? (i := 1159) (by decide +kernel), List.mem_of_getElem? (i := 1160) (by decide +kernel)⟩
theorem lw_p35 : lw_okq (⟨"SmokeRingsModel", "stills", "()V"⟩, 32) := ⟨⟨by decide +kernel, by decide +kernel⟩, List.mem_of_getElem? (i := 973) (by decide +kernel), List.mem_of_getElem? (i := 1163) (by decide +kernel), List.mem_of_getElem? (i := 1164) (by decide +kernel)⟩
theorem lw_p36 : lw_okq (⟨"SmokeRingsModel", "isThing", "(I)Z"⟩, 32) := ⟨⟨by decide +kernel, by decide +kernel⟩, List.mem_of_getElem? (i := 973) (by decide +kernel), List.mem_of_getElem? (i := 1176) (by decide +kernel), List.mem_of_getElem? (i := 1177) (by decide +kernel)⟩
theorem lw_p37 : lw_okq (⟨"SmokeRingsModel", "puts", "(IIIII)V"⟩, 32) := ⟨⟨by decide +kernel, by decide +kernel⟩, List.mem_of_getElem? (i := 973) (by decide +kernel), List.mem_of_getElem? (i := 1198) (by decide +kernel), List.mem_of_getElem? (i := 1199) (by decide +kernel)⟩
theorem lw_p38 : lw_okq (⟨"SmokeRingsModel", "isRing", "(I)Z"⟩, 32) := ⟨⟨by decide +kernel, by decide +kernel⟩, List.mem_of_getElem? (i := 973) (by decide +kernel), List.mem_of_getElem? (i := 1206) (by decide +kernel), List.mem_of_getElem? (i := 1207) (by decide +kernel)⟩
theorem lw_p39 : lw_okq (⟨"SmokeRingsModel", "find", "()V"⟩, 32) := ⟨⟨by decide +kernel, by decide +kernel⟩, List.mem_of_getElem? (i := 973) (by decide +kernel), List.mem_of_getElem? (i := 1223) (by decide +kernel), List.mem_of_getElem? (i := 1224) (by decide +kernel)⟩
theorem lw_p40 : lw_okq (⟨"SmokeRingsModel", "lives", "()V"⟩, 32) := ⟨⟨by decide +kernel, by decide +kernel⟩, List.mem_of_getElem? (i := 973) (by decide +kernel), List.mem_of_getElem? (i := 1227) (by decide +kernel), List.mem_of_getElem? (i := 1228) (by decide +kernel)⟩
theorem lw_p41 : lw_okq (⟨"SmokeRingsModel", "steps", "(I)V"⟩, 32) := ⟨⟨by decide +kernel, by decide +kernel⟩, List.mem_of_getElem? (i := 973) (by decide +kernel), List.mem_of_getElem? (i := 1231) (by decide +kernel), List.mem_of_getElem? (i := 1232) (by decide +kernel)⟩
theorem lw_p42 : lw_okq (⟨"SmokeRingsModel", "moves", "(II)V"⟩, 32) := ⟨⟨by decide +kernel, by decide +kernel⟩, List.mem_of_getElem? (i := 973) (by decide +kernel), List.mem_of_getElem? (i := 1235) (by decide +kernel), List.mem_of_getElem? (i := 1236) (by decide +kernel)⟩
theorem lw_p43 : lw_okq (⟨"SmokeRingsModel", "goes", "(II)V"⟩, 32) := ⟨⟨by decide +kernel, by decide +kernel⟩, List.mem_of_getElem? (i := 973) (by decide +kernel), List.mem_of_getElem? (i := 1239) (by decide +kernel), List.mem_of_getElem? (i := 1240) (by decide +kernel)⟩
theorem lw_p44 : lw_okq (⟨"SmokeRingsModel", "beside", "(II)I"⟩, 32) := ⟨⟨by decide +kernel, by decide +kernel⟩, List.mem_of_getElem? (i := 973) (by decide +kernel), List.mem_of_getElem? (i := 1243) (by decide +kernel), List.mem_of_getElem? (i := 1244) (by decide +kernel)⟩
theorem lw_p45 : lw_okq (⟨"SmokeRingsModel", "isBlown", "(I)V"⟩, 32) := ⟨⟨by decide +kernel, by decide +kernel⟩, List.mem_of_getElem? (i := 973) (by decide +kernel), List.mem_of_getElem? (i := 1250) (by decide +kernel), List.mem_of_getElem? (i := 1251) (by decide +kernel)⟩
theorem lw_p46 : lw_okq (⟨"SmokeRingsModel", "isCell", "(I)Z"⟩, 32) := ⟨⟨by decide +kernel, by decide +kernel⟩, List.mem_of_getElem? (i := 973) (by decide +kernel), List.mem_of_getElem? (i := 1254) (by decide +kernel), List.mem_of_getElem? (i := 1255) (by decide +kernel)⟩
theorem lw_p47 : lw_okq (⟨"SmokeRingsModel", "grows", "(II)V"⟩, 32) := ⟨⟨by decide +kernel, by decide +kernel⟩, List.mem_of_getElem? (i := 973) (by decide +kernel), List.mem_of_getElem? (i := 1258) (by decide +kernel), List.mem_of_getElem? (i := 1259) (by decide +kernel)⟩
def lw_privs_3 : List (MethodName × Nat) := [(⟨"SmokeRingsModel", "torn", "(I)I"⟩, 32), (⟨"SmokeRingsModel", "readsThings", "()I"⟩, 32), (⟨"SmokeRingsModel", "readsWind", "()I"⟩, 32), (⟨"SmokeRingsModel", "stills", "()V"⟩, 32), (⟨"SmokeRingsModel", "isThing", "(I)Z"⟩, 32), (⟨"SmokeRingsModel", "puts", "(IIIII)V"⟩, 32), (⟨"SmokeRingsModel", "isRing", "(I)Z"⟩, 32), (⟨"SmokeRingsModel", "find", "()V"⟩, 32), (⟨"SmokeRingsModel", "lives", "()V"⟩, 32), (⟨"SmokeRingsModel", "steps", "(I)V"⟩, 32), (⟨"SmokeRingsModel", "moves", "(II)V"⟩, 32), (⟨"SmokeRingsModel", "goes", "(II)V"⟩, 32), (⟨"SmokeRingsModel", "beside", "(II)I"⟩, 32), (⟨"SmokeRingsModel", "isBlown", "(I)V"⟩, 32), (⟨"SmokeRingsModel", "isCell", "(I)Z"⟩, 32), (⟨"SmokeRingsModel", "grows", "(II)V"⟩, 32)]
theorem lw_r3 : ∀ q ∈ lw_privs_3, lw_okq q := List.forall_mem_cons.mpr ⟨lw_p32, List.forall_mem_cons.mpr ⟨lw_p33, List.forall_mem_cons.mpr ⟨lw_p34, List.forall_mem_cons.mpr ⟨lw_p35, List.forall_mem_cons.mpr ⟨lw_p36, List.forall_mem_cons.mpr ⟨lw_p37, List.forall_mem_cons.mpr ⟨lw_p38, List.forall_mem_cons.mpr ⟨lw_p39, List.forall_mem_cons.mpr ⟨lw_p40, List.forall_mem_cons.mpr ⟨lw_p41, List.forall_mem_cons.mpr ⟨lw_p42, List.forall_mem_cons.mpr ⟨lw_p43, List.forall_mem_cons.mpr ⟨lw_p44, List.forall_mem_cons.mpr ⟨lw_p45, List.forall_mem_cons.mpr ⟨lw_p46, List.forall_mem_cons.mpr ⟨lw_p47, fun _ h => absurd h List.not_mem_nil⟩⟩⟩⟩⟩⟩⟩⟩⟩⟩⟩⟩⟩⟩⟩⟩
theorem lw_p48 : lw_okq (⟨"SmokeRingsModel", "meet", "(I)V"⟩, 32) := ⟨⟨by decide +kernel, by decide +kernel⟩, List.mem_of_getElem? (i := 973) (by decide +kernel), List.mem_of_getElem? (i := 1262) (by decide +kernel), List.mem_of_getElem? (i := 1263) (by decide +kernel)⟩
theorem lw_p49 : lw_okq (⟨"SmokeRingsModel", "falls", "(II)V"⟩, 32) := ⟨⟨by decide +kernel, by decide +kernel⟩, List.mem_of_getElem? (i := 973) (by decide +kernel), List.mem_of_getElem? (i := 1266) (by decide +kernel), List.mem_of_getElem? (i := 1267) (by decide +kernel)⟩
theorem lw_p50 : lw_okq (⟨"SmokeRingsModel", "fits", "(II)Z"⟩, 32) := ⟨⟨by decide +kernel, by decide +kernel⟩, List.mem_of_getElem? (i := 973) (by decide +kernel), List.mem_of_getElem? (i := 1270) (by decide +kernel), List.mem_of_getElem? (i := 1271) (by decide +kernel)⟩
theorem lw_p51 : lw_okq (⟨"SmokeRingsModel", "keeps", "(I)V"⟩, 32) := ⟨⟨by decide +kernel, by decide +kernel⟩, List.mem_of_getElem? (i := 973) (by decide +kernel), List.mem_of_getElem? (i := 1274) (by decide +kernel), List.mem_of_getElem? (i := 1275) (by decide +kernel)⟩
theorem lw_p52 : lw_okq (⟨"SmokeRingsModel", "boundOf", "(II)I"⟩, 32) := ⟨⟨by decide +kernel, by decide +kernel⟩, List.mem_of_getElem? (i := 973) (by decide +kernel), List.mem_of_getElem? (i := 1282) (by decide +kernel), List.mem_of_getElem? (i := 1283) (by decide +kernel)⟩
theorem lw_p53 : lw_okq (⟨"SmokeRingsModel", "whomOf", "(I)I"⟩, 32) := ⟨⟨by decide +kernel, by decide +kernel⟩, List.mem_of_getElem? (i := 973) (by decide +kernel), List.mem_of_getElem? (i := 1286) (by decide +kernel), List.mem_of_getElem? (i := 1287) (by decide +kernel)⟩
theorem lw_p54 : lw_okq (⟨"SmokeRingsModel", "wedOf", "(II)I"⟩, 32) := ⟨⟨by decide +kernel, by decide +kernel⟩, List.mem_of_getElem? (i := 973) (by decide +kernel), List.mem_of_getElem? (i := 1297) (by decide +kernel), List.mem_of_getElem? (i := 1298) (by decide +kernel)⟩
theorem lw_p55 : lw_okq (⟨"SmokeRingsModel", "upkeep", "(I)I"⟩, 32) := ⟨⟨by decide +kernel, by decide +kernel⟩, List.mem_of_getElem? (i := 973) (by decide +kernel), List.mem_of_getElem? (i := 1301) (by decide +kernel), List.mem_of_getElem? (i := 1302) (by decide +kernel)⟩
theorem lw_p56 : lw_okq (⟨"SmokeRingsModel", "missedNow", "()I"⟩, 32) := ⟨⟨by decide +kernel, by decide +kernel⟩, List.mem_of_getElem? (i := 973) (by decide +kernel), List.mem_of_getElem? (i := 1313) (by decide +kernel), List.mem_of_getElem? (i := 1314) (by decide +kernel)⟩
theorem lw_p57 : lw_okq (⟨"SmokeRingsModel", "richestNow", "()I"⟩, 32) := ⟨⟨by decide +kernel, by decide +kernel⟩, List.mem_of_getElem? (i := 973) (by decide +kernel), List.mem_of_getElem? (i := 1321) (by decide +kernel), List.mem_of_getElem? (i := 1322) (by decide +kernel)⟩
theorem lw_p58 : lw_okq (⟨"SmokeRingsModel", "lonelyNow", "()I"⟩, 32) := ⟨⟨by decide +kernel, by decide +kernel⟩, List.mem_of_getElem? (i := 973) (by decide +kernel), List.mem_of_getElem? (i := 1335) (by decide +kernel), List.mem_of_getElem? (i := 1336) (by decide +kernel)⟩
theorem lw_p59 : lw_okq (⟨"SmokeRingsModel", "breathOf", "(II)I"⟩, 32) := ⟨⟨by decide +kernel, by decide +kernel⟩, List.mem_of_getElem? (i := 973) (by decide +kernel), List.mem_of_getElem? (i := 1343) (by decide +kernel), List.mem_of_getElem? (i := 1344) (by decide +kernel)⟩
theorem lw_p60 : lw_okq (⟨"SmokeRingsModel", "aimOf", "(II)I"⟩, 32) := ⟨⟨by decide +kernel, by decide +kernel⟩, List.mem_of_getElem? (i := 973) (by decide +kernel), List.mem_of_getElem? (i := 1351) (by decide +kernel), List.mem_of_getElem? (i := 1352) (by decide +kernel)⟩
theorem lw_p61 : lw_okq (⟨"SmokeRingsModel", "allBound", "()I"⟩, 32) := ⟨⟨by decide +kernel, by decide +kernel⟩, List.mem_of_getElem? (i := 973) (by decide +kernel), List.mem_of_getElem? (i := 1355) (by decide +kernel), List.mem_of_getElem? (i := 1356) (by decide +kernel)⟩
theorem lw_p62 : lw_okq (⟨"SmokeRingsModel", "standOf", "(I)I"⟩, 32) := ⟨⟨by decide +kernel, by decide +kernel⟩, List.mem_of_getElem? (i := 973) (by decide +kernel), List.mem_of_getElem? (i := 1363) (by decide +kernel), List.mem_of_getElem? (i := 1364) (by decide +kernel)⟩
theorem lw_p63 : lw_okq (⟨"SmokeRingsModel", "hushOf", "(II)I"⟩, 32) := ⟨⟨by decide +kernel, by decide +kernel⟩, List.mem_of_getElem? (i := 973) (by decide +kernel), List.mem_of_getElem? (i := 1372) (by decide +kernel), List.mem_of_getElem? (i := 1373) (by decide +kernel)⟩
def lw_privs_4 : List (MethodName × Nat) := [(⟨"SmokeRingsModel", "meet", "(I)V"⟩, 32), (⟨"SmokeRingsModel", "falls", "(II)V"⟩, 32), (⟨"SmokeRingsModel", "fits", "(II)Z"⟩, 32), (⟨"SmokeRingsModel", "keeps", "(I)V"⟩, 32), (⟨"SmokeRingsModel", "boundOf", "(II)I"⟩, 32), (⟨"SmokeRingsModel", "whomOf", "(I)I"⟩, 32), (⟨"SmokeRingsModel", "wedOf", "(II)I"⟩, 32), (⟨"SmokeRingsModel", "upkeep", "(I)I"⟩, 32), (⟨"SmokeRingsModel", "missedNow", "()I"⟩, 32), (⟨"SmokeRingsModel", "richestNow", "()I"⟩, 32), (⟨"SmokeRingsModel", "lonelyNow", "()I"⟩, 32), (⟨"SmokeRingsModel", "breathOf", "(II)I"⟩, 32), (⟨"SmokeRingsModel", "aimOf", "(II)I"⟩, 32), (⟨"SmokeRingsModel", "allBound", "()I"⟩, 32), (⟨"SmokeRingsModel", "standOf", "(I)I"⟩, 32), (⟨"SmokeRingsModel", "hushOf", "(II)I"⟩, 32)]
theorem lw_r4 : ∀ q ∈ lw_privs_4, lw_okq q := List.forall_mem_cons.mpr ⟨lw_p48, List.forall_mem_cons.mpr ⟨lw_p49, List.forall_mem_cons.mpr ⟨lw_p50, List.forall_mem_cons.mpr ⟨lw_p51, List.forall_mem_cons.mpr ⟨lw_p52, List.forall_mem_cons.mpr ⟨lw_p53, List.forall_mem_cons.mpr ⟨lw_p54, List.forall_mem_cons.mpr ⟨lw_p55, List.forall_mem_cons.mpr ⟨lw_p56, List.forall_mem_cons.mpr ⟨lw_p57, List.forall_mem_cons.mpr ⟨lw_p58, List.forall_mem_cons.mpr ⟨lw_p59, List.forall_mem_cons.mpr ⟨lw_p60, List.forall_mem_cons.mpr ⟨lw_p61, List.forall_mem_cons.mpr ⟨lw_p62, List.forall_mem_cons.mpr ⟨lw_p63, fun _ h => absurd h List.not_mem_nil⟩⟩⟩⟩⟩⟩⟩⟩⟩⟩⟩⟩⟩⟩⟩⟩
theorem lw_p64 : lw_okq (⟨"SmokeRingsModel", "isSpared", "(II)Z"⟩, 32) := ⟨⟨by decide +kernel, by decide +kernel⟩, List.mem_of_getElem? (i := 973) (by decide +kernel), List.mem_of_getElem? (i := 1376) (by decide +kernel), List.mem_of_getElem? (i := 1377) (by decide +kernel)⟩
theorem lw_p65 : lw_okq (⟨"SmokeRingsModel", "calmBy", "(I)I"⟩, 32) := ⟨⟨by decide +kernel, by decide +kernel⟩, List.mem_of_getElem? (i := 973) (by decide +kernel), List.mem_of_getElem? (i := 1384) (by decide +kernel), List.mem_of_getElem? (i := 1385) (by decide +kernel)⟩
theorem lw_p66 : lw_okq (⟨"SmokeRingsModel", "freeOf", "(III)I"⟩, 32) := ⟨⟨by decide +kernel, by decide +kernel⟩, List.mem_of_getElem? (i := 973) (by decide +kernel), List.mem_of_getElem? (i := 1393) (by decide +kernel), List.mem_of_getElem? (i := 1394) (by decide +kernel)⟩
theorem lw_p67 : lw_okq (⟨"SmokeRingsModel", "costOf", "(II)I"⟩, 32) := ⟨⟨by decide +kernel, by decide +kernel⟩, List.mem_of_getElem? (i := 973) (by decide +kernel), List.mem_of_getElem? (i := 1397) (by decide +kernel), List.mem_of_getElem? (i := 1398) (by decide +kernel)⟩
theorem lw_p68 : lw_okq (⟨"SmokeRingsModel", "neverNow", "()I"⟩, 32) := ⟨⟨by decide +kernel, by decide +kernel⟩, List.mem_of_getElem? (i := 973) (by decide +kernel), List.mem_of_getElem? (i := 1414) (by decide +kernel), List.mem_of_getElem? (i := 1415) (by decide +kernel)⟩
theorem lw_p69 : lw_okq (⟨"SmokeRingsModel", "isSeen", "()Z"⟩, 32) := ⟨⟨by decide +kernel, by decide +kernel⟩, List.mem_of_getElem? (i := 973) (by decide +kernel), List.mem_of_getElem? (i := 1418) (by decide +kernel), List.mem_of_getElem? (i := 1419) (by decide +kernel)⟩
theorem lw_p70 : lw_okq (⟨"SmokeRingsModel", "whenceOf", "(II)I"⟩, 32) := ⟨⟨by decide +kernel, by decide +kernel⟩, List.mem_of_getElem? (i := 973) (by decide +kernel), List.mem_of_getElem? (i := 1426) (by decide +kernel), List.mem_of_getElem? (i := 1427) (by decide +kernel)⟩
theorem lw_p71 : lw_okq (⟨"SmokeRingsModel", "pacesNow", "()I"⟩, 32) := ⟨⟨by decide +kernel, by decide +kernel⟩, List.mem_of_getElem? (i := 973) (by decide +kernel), List.mem_of_getElem? (i := 1434) (by decide +kernel), List.mem_of_getElem? (i := 1435) (by decide +kernel)⟩
theorem lw_p72 : lw_okq (⟨"SmokeRingsModel", "askNow", "()I"⟩, 32) := ⟨⟨by decide +kernel, by decide +kernel⟩, List.mem_of_getElem? (i := 973) (by decide +kernel), List.mem_of_getElem? (i := 1442) (by decide +kernel), List.mem_of_getElem? (i := 1443) (by decide +kernel)⟩
theorem lw_p73 : lw_okq (⟨"SmokeRingsModel", "stillOf", "(IIIII)J"⟩, 32) := ⟨⟨by decide +kernel, by decide +kernel⟩, List.mem_of_getElem? (i := 973) (by decide +kernel), List.mem_of_getElem? (i := 1451) (by decide +kernel), List.mem_of_getElem? (i := 1452) (by decide +kernel)⟩
theorem lw_p74 : lw_okq (⟨"SmokeRingsModel", "eveningOf", "(III)I"⟩, 32) := ⟨⟨by decide +kernel, by decide +kernel⟩, List.mem_of_getElem? (i := 973) (by decide +kernel), List.mem_of_getElem? (i := 1467) (by decide +kernel), List.mem_of_getElem? (i := 1468) (by decide +kernel)⟩
theorem lw_p75 : lw_okq (⟨"SmokeRingsModel", "lot", "(I)I"⟩, 32) := ⟨⟨by decide +kernel, by decide +kernel⟩, List.mem_of_getElem? (i := 973) (by decide +kernel), List.mem_of_getElem? (i := 1471) (by decide +kernel), List.mem_of_getElem? (i := 1472) (by decide +kernel)⟩
theorem lw_p76 : lw_okq (⟨"SmokeRingsModel", "tellsRing", "(JI)J"⟩, 32) := ⟨⟨by decide +kernel, by decide +kernel⟩, List.mem_of_getElem? (i := 973) (by decide +kernel), List.mem_of_getElem? (i := 1494) (by decide +kernel), List.mem_of_getElem? (i := 1495) (by decide +kernel)⟩
theorem lw_p77 : lw_okq (⟨"SmokeRingsModel", "tellsStep", "(JII)J"⟩, 32) := ⟨⟨by decide +kernel, by decide +kernel⟩, List.mem_of_getElem? (i := 973) (by decide +kernel), List.mem_of_getElem? (i := 1498) (by decide +kernel), List.mem_of_getElem? (i := 1499) (by decide +kernel)⟩
theorem lw_p78 : lw_okq (⟨"SmokeRingsModel", "tellsThing", "(JI)J"⟩, 32) := ⟨⟨by decide +kernel, by decide +kernel⟩, List.mem_of_getElem? (i := 973) (by decide +kernel), List.mem_of_getElem? (i := 1502) (by decide +kernel), List.mem_of_getElem? (i := 1503) (by decide +kernel)⟩
def lw_privs_5 : List (MethodName × Nat) := [(⟨"SmokeRingsModel", "isSpared", "(II)Z"⟩, 32), (⟨"SmokeRingsModel", "calmBy", "(I)I"⟩, 32), (⟨"SmokeRingsModel", "freeOf", "(III)I"⟩, 32), (⟨"SmokeRingsModel", "costOf", "(II)I"⟩, 32), (⟨"SmokeRingsModel", "neverNow", "()I"⟩, 32), (⟨"SmokeRingsModel", "isSeen", "()Z"⟩, 32), (⟨"SmokeRingsModel", "whenceOf", "(II)I"⟩, 32), (⟨"SmokeRingsModel", "pacesNow", "()I"⟩, 32), (⟨"SmokeRingsModel", "askNow", "()I"⟩, 32), (⟨"SmokeRingsModel", "stillOf", "(IIIII)J"⟩, 32), (⟨"SmokeRingsModel", "eveningOf", "(III)I"⟩, 32), (⟨"SmokeRingsModel", "lot", "(I)I"⟩, 32), (⟨"SmokeRingsModel", "tellsRing", "(JI)J"⟩, 32), (⟨"SmokeRingsModel", "tellsStep", "(JII)J"⟩, 32), (⟨"SmokeRingsModel", "tellsThing", "(JI)J"⟩, 32)]
theorem lw_r5 : ∀ q ∈ lw_privs_5, lw_okq q := List.forall_mem_cons.mpr ⟨lw_p64, List.forall_mem_cons.mpr ⟨lw_p65, List.forall_mem_cons.mpr ⟨lw_p66, List.forall_mem_cons.mpr ⟨lw_p67, List.forall_mem_cons.mpr ⟨lw_p68, List.forall_mem_cons.mpr ⟨lw_p69, List.forall_mem_cons.mpr ⟨lw_p70, List.forall_mem_cons.mpr ⟨lw_p71, List.forall_mem_cons.mpr ⟨lw_p72, List.forall_mem_cons.mpr ⟨lw_p73, List.forall_mem_cons.mpr ⟨lw_p74, List.forall_mem_cons.mpr ⟨lw_p75, List.forall_mem_cons.mpr ⟨lw_p76, List.forall_mem_cons.mpr ⟨lw_p77, List.forall_mem_cons.mpr ⟨lw_p78, fun _ h => absurd h List.not_mem_nil⟩⟩⟩⟩⟩⟩⟩⟩⟩⟩⟩⟩⟩⟩⟩
def lw_privs : List (MethodName × Nat) := lw_privs_1 ++ (lw_privs_2 ++ (lw_privs_3 ++ (lw_privs_4 ++ (lw_privs_5))))
def lw_tbl : List Cond := k2_sels lw_privs ++ tables_1
theorem lw_privs_ok : ∀ q ∈ lw_privs, lw_okq q := by
  show ∀ q ∈ lw_privs_1 ++ (lw_privs_2 ++ (lw_privs_3 ++ (lw_privs_4 ++ (lw_privs_5)))), lw_okq q
  exact List.forall_mem_append.mpr ⟨lw_r1, List.forall_mem_append.mpr ⟨lw_r2, List.forall_mem_append.mpr ⟨lw_r3, List.forall_mem_append.mpr ⟨lw_r4, lw_r5⟩⟩⟩⟩

def RX0 : String := "SmokeRings$Chances"
def TX0 : u_T := fun k => match k with
  | 0 => ("SmokeRings$Chances", "valley", "LSmokeRings$Valley;", true)
  | 1 => ("SmokeRings$Chances", "told", "LSmokeRings$Night;", true)
  | 2 => ("SmokeRings$Chances", "trial", "LSmokeRings$Night;", true)
  | 3 => ("SmokeRings$Chances", "play", "LSmokeRings$Play;", true)
  | 4 => ("SmokeRings$Chances", "windy", "[I", true)
  | 5 => ("SmokeRings$Chances", "windySteps", "I", false)
  | 6 => ("SmokeRings$Chances", "weights", "[J", true)
  | 7 => ("SmokeRings$Chances", "seed", "I", false)
  | 8 => ("SmokeRings$Chances", "lotsBound", "I", false)
  | _ => ("SmokeRings$Chances", "lotsBroken", "I", false)
def tyX0 : Nat → FieldType := fun k => match k with
  | 0 => .object "SmokeRings$Valley"
  | 1 => .object "SmokeRings$Night"
  | 2 => .object "SmokeRings$Night"
  | 3 => .object "SmokeRings$Play"
  | 4 => .array .int
  | 5 => .int
  | 6 => .array .long
  | 7 => .int
  | 8 => .int
  | _ => .int
theorem nmX0 : ∀ a, a < 10 → ∀ b, b < 10 → a ≠ b → (TX0 a).2.1 ≠ (TX0 b).2.1 := by decide +kernel
theorem tyX0_ok : ∀ k, k < 10 → parseFieldDescriptor (TX0 k).2.2.1 = some (tyX0 k) := by decide +kernel
abbrev cX0_init : ByteArray := prog_2_method_1_code
def yX0_init : MethodName := ⟨RX0, "<init>", "(LSmokeRings$Valley;LSmokeRings$Night;LSmokeRings$Night;LSmokeRings$Play;)V"⟩
abbrev cX0_weigh : ByteArray := prog_2_method_2_code
def yX0_weigh : MethodName := ⟨RX0, "weigh", "(II)V"⟩
abbrev cX0_findWindy : ByteArray := prog_2_method_3_code
def yX0_findWindy : MethodName := ⟨RX0, "findWindy", "(I)V"⟩
abbrev cX0_power : ByteArray := prog_2_method_4_code
def yX0_power : MethodName := ⟨RX0, "power", "(JI)J"⟩
abbrev cX0_weighCalms : ByteArray := prog_2_method_5_code
def yX0_weighCalms : MethodName := ⟨RX0, "weighCalms", "(IJ)V"⟩
abbrev cX0_weightOf : ByteArray := prog_2_method_6_code
def yX0_weightOf : MethodName := ⟨RX0, "weightOf", "(II)J"⟩
abbrev cX0_halvings : ByteArray := prog_2_method_7_code
def yX0_halvings : MethodName := ⟨RX0, "halvings", "(J)I"⟩
abbrev cX0_above : ByteArray := prog_2_method_8_code
def yX0_above : MethodName := ⟨RX0, "above", "(II)J"⟩
abbrev cX0_below : ByteArray := prog_2_method_9_code
def yX0_below : MethodName := ⟨RX0, "below", "(II)J"⟩
abbrev cX0_playLots : ByteArray := prog_2_method_10_code
def yX0_playLots : MethodName := ⟨RX0, "playLots", "(II)V"⟩
abbrev cX0_lot : ByteArray := prog_2_method_11_code
def yX0_lot : MethodName := ⟨RX0, "lot", "(I)I"⟩
def RX1 : String := "SmokeRings$Diary"
def TX1 : u_T := fun k => match k with
  | _ => ("SmokeRings$Diary", "pages", "[I", true)
def tyX1 : Nat → FieldType := fun k => match k with
  | _ => .array .int
theorem nmX1 : ∀ a, a < 1 → ∀ b, b < 1 → a ≠ b → (TX1 a).2.1 ≠ (TX1 b).2.1 := by decide +kernel
theorem tyX1_ok : ∀ k, k < 1 → parseFieldDescriptor (TX1 k).2.2.1 = some (tyX1 k) := by decide +kernel
abbrev cX1_init : ByteArray := prog_3_method_1_code
def yX1_init : MethodName := ⟨RX1, "<init>", "()V"⟩
abbrev cX1_keep : ByteArray := prog_3_method_2_code
def yX1_keep : MethodName := ⟨RX1, "keep", "(ILSmokeRings$Play;)V"⟩
abbrev cX1_look : ByteArray := prog_3_method_3_code
def yX1_look : MethodName := ⟨RX1, "look", "(III)I"⟩
def RX2 : String := "SmokeRings$Few"
def TX2 : u_T := fun k => match k with
  | 0 => ("SmokeRings$Few", "size", "I", false)
  | 1 => ("SmokeRings$Few", "first", "I", false)
  | _ => ("SmokeRings$Few", "second", "I", false)
def tyX2 : Nat → FieldType := fun k => match k with
  | 0 => .int
  | 1 => .int
  | _ => .int
theorem nmX2 : ∀ a, a < 3 → ∀ b, b < 3 → a ≠ b → (TX2 a).2.1 ≠ (TX2 b).2.1 := by decide +kernel
theorem tyX2_ok : ∀ k, k < 3 → parseFieldDescriptor (TX2 k).2.2.1 = some (tyX2 k) := by decide +kernel
abbrev cX2_init : ByteArray := prog_4_method_1_code
def yX2_init : MethodName := ⟨RX2, "<init>", "()V"⟩
abbrev cX2_become : ByteArray := prog_4_method_2_code
def yX2_become : MethodName := ⟨RX2, "become", "(III)V"⟩
abbrev cX2_pick : ByteArray := prog_4_method_3_code
def yX2_pick : MethodName := ⟨RX2, "pick", "(I)I"⟩
def RX3 : String := "SmokeRings$Guesses"
def TX3 : u_T := fun k => match k with
  | 0 => ("SmokeRings$Guesses", "valley", "LSmokeRings$Valley;", true)
  | 1 => ("SmokeRings$Guesses", "told", "LSmokeRings$Night;", true)
  | 2 => ("SmokeRings$Guesses", "trial", "LSmokeRings$Night;", true)
  | 3 => ("SmokeRings$Guesses", "play", "LSmokeRings$Play;", true)
  | 4 => ("SmokeRings$Guesses", "sights", "LSmokeRings$Sights;", true)
  | 5 => ("SmokeRings$Guesses", "whence", "J", false)
  | _ => ("SmokeRings$Guesses", "tally", "[I", true)
def tyX3 : Nat → FieldType := fun k => match k with
  | 0 => .object "SmokeRings$Valley"
  | 1 => .object "SmokeRings$Night"
  | 2 => .object "SmokeRings$Night"
  | 3 => .object "SmokeRings$Play"
  | 4 => .object "SmokeRings$Sights"
  | 5 => .long
  | _ => .array .int
theorem nmX3 : ∀ a, a < 7 → ∀ b, b < 7 → a ≠ b → (TX3 a).2.1 ≠ (TX3 b).2.1 := by decide +kernel
theorem tyX3_ok : ∀ k, k < 7 → parseFieldDescriptor (TX3 k).2.2.1 = some (tyX3 k) := by decide +kernel
abbrev cX3_init : ByteArray := prog_5_method_1_code
def yX3_init : MethodName := ⟨RX3, "<init>", "(LSmokeRings$Valley;LSmokeRings$Night;LSmokeRings$Night;LSmokeRings$Play;LSmokeRings$Sights;)V"⟩
abbrev cX3_comesOut : ByteArray := prog_5_method_2_code
def yX3_comesOut : MethodName := ⟨RX3, "comesOut", "()Z"⟩
abbrev cX3_neverBits : ByteArray := prog_5_method_3_code
def yX3_neverBits : MethodName := ⟨RX3, "neverBits", "()I"⟩
abbrev cX3_seekWhence : ByteArray := prog_5_method_4_code
def yX3_seekWhence : MethodName := ⟨RX3, "seekWhence", "(I)V"⟩
abbrev cX3_pickWhence : ByteArray := prog_5_method_5_code
def yX3_pickWhence : MethodName := ⟨RX3, "pickWhence", "(I)I"⟩
abbrev cX3_paceBits : ByteArray := prog_5_method_6_code
def yX3_paceBits : MethodName := ⟨RX3, "paceBits", "()I"⟩
abbrev cX3_bestAsk : ByteArray := prog_5_method_7_code
def yX3_bestAsk : MethodName := ⟨RX3, "bestAsk", "()I"⟩
abbrev cX3_tallyOutcomes : ByteArray := prog_5_method_8_code
def yX3_tallyOutcomes : MethodName := ⟨RX3, "tallyOutcomes", "()V"⟩
abbrev cX3_greatestTally : ByteArray := prog_5_method_9_code
def yX3_greatestTally : MethodName := ⟨RX3, "greatestTally", "(I)I"⟩
def RX4 : String := "SmokeRings$Night"
def TX4 : u_T := fun k => match k with
  | 0 => ("SmokeRings$Night", "rings", "I", false)
  | 1 => ("SmokeRings$Night", "blown", "[I", true)
  | 2 => ("SmokeRings$Night", "from", "[I", true)
  | 3 => ("SmokeRings$Night", "way", "[I", true)
  | 4 => ("SmokeRings$Night", "breath", "[I", true)
  | 5 => ("SmokeRings$Night", "whom", "[I", true)
  | 6 => ("SmokeRings$Night", "things", "I", false)
  | 7 => ("SmokeRings$Night", "stands", "[I", true)
  | 8 => ("SmokeRings$Night", "thick", "[I", true)
  | 9 => ("SmokeRings$Night", "kind", "[I", true)
  | 10 => ("SmokeRings$Night", "wind", "[I", true)
  | _ => ("SmokeRings$Night", "widens", "I", false)
def tyX4 : Nat → FieldType := fun k => match k with
  | 0 => .int
  | 1 => .array .int
  | 2 => .array .int
  | 3 => .array .int
  | 4 => .array .int
  | 5 => .array .int
  | 6 => .int
  | 7 => .array .int
  | 8 => .array .int
  | 9 => .array .int
  | 10 => .array .int
  | _ => .int
theorem nmX4 : ∀ a, a < 12 → ∀ b, b < 12 → a ≠ b → (TX4 a).2.1 ≠ (TX4 b).2.1 := by decide +kernel
theorem tyX4_ok : ∀ k, k < 12 → parseFieldDescriptor (TX4 k).2.2.1 = some (tyX4 k) := by decide +kernel
abbrev cX4_init : ByteArray := prog_6_method_1_code
def yX4_init : MethodName := ⟨RX4, "<init>", "()V"⟩
abbrev cX4_becomes : ByteArray := prog_6_method_2_code
def yX4_becomes : MethodName := ⟨RX4, "becomes", "(LSmokeRings$Night;)V"⟩
abbrev cX4_addRing : ByteArray := prog_6_method_3_code
def yX4_addRing : MethodName := ⟨RX4, "addRing", "(IIIII)V"⟩
abbrev cX4_upkeep : ByteArray := prog_6_method_4_code
def yX4_upkeep : MethodName := ⟨RX4, "upkeep", "(I)I"⟩
abbrev cX4_fits : ByteArray := prog_6_method_5_code
def yX4_fits : MethodName := ⟨RX4, "fits", "(II)Z"⟩
abbrev cX4_rereadThings : ByteArray := prog_6_method_6_code
def yX4_rereadThings : MethodName := ⟨RX4, "rereadThings", "(LSmokeRings$Text;)I"⟩
abbrev cX4_thingsFault : ByteArray := prog_6_method_7_code
def yX4_thingsFault : MethodName := ⟨RX4, "thingsFault", "(LSmokeRings$Text;)I"⟩
abbrev cX4_fitsThing : ByteArray := prog_6_method_8_code
def yX4_fitsThing : MethodName := ⟨RX4, "fitsThing", "(II)Z"⟩
abbrev cX4_rereadWind : ByteArray := prog_6_method_9_code
def yX4_rereadWind : MethodName := ⟨RX4, "rereadWind", "(LSmokeRings$Text;)I"⟩
abbrev cX4_windOf : ByteArray := prog_6_method_10_code
def yX4_windOf : MethodName := ⟨RX4, "windOf", "(I)I"⟩
def RX5 : String := "SmokeRings$Plans"
def TX5 : u_T := fun k => match k with
  | 0 => ("SmokeRings$Plans", "valley", "LSmokeRings$Valley;", true)
  | 1 => ("SmokeRings$Plans", "told", "LSmokeRings$Night;", true)
  | 2 => ("SmokeRings$Plans", "trial", "LSmokeRings$Night;", true)
  | 3 => ("SmokeRings$Plans", "play", "LSmokeRings$Play;", true)
  | 4 => ("SmokeRings$Plans", "aimWay", "I", false)
  | 5 => ("SmokeRings$Plans", "aimBreath", "I", false)
  | 6 => ("SmokeRings$Plans", "aimMost", "I", false)
  | 7 => ("SmokeRings$Plans", "calmStep", "I", false)
  | 8 => ("SmokeRings$Plans", "calmMost", "I", false)
  | _ => ("SmokeRings$Plans", "few", "LSmokeRings$Few;", true)
def tyX5 : Nat → FieldType := fun k => match k with
  | 0 => .object "SmokeRings$Valley"
  | 1 => .object "SmokeRings$Night"
  | 2 => .object "SmokeRings$Night"
  | 3 => .object "SmokeRings$Play"
  | 4 => .int
  | 5 => .int
  | 6 => .int
  | 7 => .int
  | 8 => .int
  | _ => .object "SmokeRings$Few"
theorem nmX5 : ∀ a, a < 10 → ∀ b, b < 10 → a ≠ b → (TX5 a).2.1 ≠ (TX5 b).2.1 := by decide +kernel
theorem tyX5_ok : ∀ k, k < 10 → parseFieldDescriptor (TX5 k).2.2.1 = some (tyX5 k) := by decide +kernel
abbrev cX5_init : ByteArray := prog_7_method_1_code
def yX5_init : MethodName := ⟨RX5, "<init>", "(LSmokeRings$Valley;LSmokeRings$Night;LSmokeRings$Night;LSmokeRings$Play;)V"⟩
abbrev cX5_leastBreath : ByteArray := prog_7_method_2_code
def yX5_leastBreath : MethodName := ⟨RX5, "leastBreath", "(II)I"⟩
abbrev cX5_seekAim : ByteArray := prog_7_method_3_code
def yX5_seekAim : MethodName := ⟨RX5, "seekAim", "(I)V"⟩
abbrev cX5_safeCell : ByteArray := prog_7_method_4_code
def yX5_safeCell : MethodName := ⟨RX5, "safeCell", "(I)I"⟩
abbrev cX5_binds : ByteArray := prog_7_method_5_code
def yX5_binds : MethodName := ⟨RX5, "binds", "(I)Z"⟩
abbrev cX5_seekHush : ByteArray := prog_7_method_6_code
def yX5_seekHush : MethodName := ⟨RX5, "seekHush", "(I)V"⟩
abbrev cX5_seekCalm : ByteArray := prog_7_method_7_code
def yX5_seekCalm : MethodName := ⟨RX5, "seekCalm", "()V"⟩
abbrev cX5_seekFree : ByteArray := prog_7_method_8_code
def yX5_seekFree : MethodName := ⟨RX5, "seekFree", "(LSmokeRings$Play;II)V"⟩
def RX6 : String := "SmokeRings$Play"
def TX6 : u_T := fun k => match k with
  | 0 => ("SmokeRings$Play", "valley", "LSmokeRings$Valley;", true)
  | 1 => ("SmokeRings$Play", "state", "[I", true)
  | 2 => ("SmokeRings$Play", "cell", "[I", true)
  | 3 => ("SmokeRings$Play", "width", "[I", true)
  | 4 => ("SmokeRings$Play", "left", "[I", true)
  | 5 => ("SmokeRings$Play", "boundBy", "[I", true)
  | 6 => ("SmokeRings$Play", "boundIn", "[I", true)
  | 7 => ("SmokeRings$Play", "boundTo", "[I", true)
  | 8 => ("SmokeRings$Play", "boundThings", "I", false)
  | 9 => ("SmokeRings$Play", "pairs", "I", false)
  | 10 => ("SmokeRings$Play", "firstPair", "I", false)
  | 11 => ("SmokeRings$Play", "lively", "I", false)
  | _ => ("SmokeRings$Play", "laden", "J", false)
def tyX6 : Nat → FieldType := fun k => match k with
  | 0 => .object "SmokeRings$Valley"
  | 1 => .array .int
  | 2 => .array .int
  | 3 => .array .int
  | 4 => .array .int
  | 5 => .array .int
  | 6 => .array .int
  | 7 => .array .int
  | 8 => .int
  | 9 => .int
  | 10 => .int
  | 11 => .int
  | _ => .long
theorem nmX6 : ∀ a, a < 13 → ∀ b, b < 13 → a ≠ b → (TX6 a).2.1 ≠ (TX6 b).2.1 := by decide +kernel
theorem tyX6_ok : ∀ k, k < 13 → parseFieldDescriptor (TX6 k).2.2.1 = some (tyX6 k) := by decide +kernel
abbrev cX6_init : ByteArray := prog_8_method_1_code
def yX6_init : MethodName := ⟨RX6, "<init>", "(LSmokeRings$Valley;)V"⟩
abbrev cX6_playAll : ByteArray := prog_8_method_2_code
def yX6_playAll : MethodName := ⟨RX6, "playAll", "(LSmokeRings$Night;)V"⟩
abbrev cX6_begin : ByteArray := prog_8_method_3_code
def yX6_begin : MethodName := ⟨RX6, "begin", "(LSmokeRings$Night;)V"⟩
abbrev cX6_takeStep : ByteArray := prog_8_method_4_code
def yX6_takeStep : MethodName := ⟨RX6, "takeStep", "(LSmokeRings$Night;I)V"⟩
abbrev cX6_move : ByteArray := prog_8_method_5_code
def yX6_move : MethodName := ⟨RX6, "move", "(LSmokeRings$Night;II)V"⟩
abbrev cX6_shift : ByteArray := prog_8_method_6_code
def yX6_shift : MethodName := ⟨RX6, "shift", "(II)Z"⟩
abbrev cX6_start : ByteArray := prog_8_method_7_code
def yX6_start : MethodName := ⟨RX6, "start", "(LSmokeRings$Night;I)V"⟩
abbrev cX6_settle : ByteArray := prog_8_method_8_code
def yX6_settle : MethodName := ⟨RX6, "settle", "(II)V"⟩
abbrev cX6_meet : ByteArray := prog_8_method_9_code
def yX6_meet : MethodName := ⟨RX6, "meet", "(LSmokeRings$Night;I)V"⟩
abbrev cX6_fall : ByteArray := prog_8_method_10_code
def yX6_fall : MethodName := ⟨RX6, "fall", "(LSmokeRings$Night;I)V"⟩
abbrev cX6_wedBits : ByteArray := prog_8_method_11_code
def yX6_wedBits : MethodName := ⟨RX6, "wedBits", "(LSmokeRings$Night;I)I"⟩
abbrev cX6_upkeepOf : ByteArray := prog_8_method_12_code
def yX6_upkeepOf : MethodName := ⟨RX6, "upkeepOf", "(LSmokeRings$Night;I)I"⟩
abbrev cX6_brokenRings : ByteArray := prog_8_method_13_code
def yX6_brokenRings : MethodName := ⟨RX6, "brokenRings", "(LSmokeRings$Night;)I"⟩
abbrev cX6_outcome : ByteArray := prog_8_method_14_code
def yX6_outcome : MethodName := ⟨RX6, "outcome", "(I)I"⟩
def RX7 : String := "SmokeRings$Sheet"
def TX7 : u_T := fun k => match k with
  | 0 => ("SmokeRings$Sheet", "form", "I", false)
  | 1 => ("SmokeRings$Sheet", "length", "I", false)
  | _ => ("SmokeRings$Sheet", "items", "[I", true)
def tyX7 : Nat → FieldType := fun k => match k with
  | 0 => .int
  | 1 => .int
  | _ => .array .int
theorem nmX7 : ∀ a, a < 3 → ∀ b, b < 3 → a ≠ b → (TX7 a).2.1 ≠ (TX7 b).2.1 := by decide +kernel
theorem tyX7_ok : ∀ k, k < 3 → parseFieldDescriptor (TX7 k).2.2.1 = some (tyX7 k) := by decide +kernel
abbrev cX7_init : ByteArray := prog_9_method_1_code
def yX7_init : MethodName := ⟨RX7, "<init>", "()V"⟩
abbrev cX7_isLost : ByteArray := prog_9_method_2_code
def yX7_isLost : MethodName := ⟨RX7, "isLost", "()Z"⟩
abbrev cX7_renew : ByteArray := prog_9_method_3_code
def yX7_renew : MethodName := ⟨RX7, "renew", "(II)V"⟩
abbrev cX7_trouble : ByteArray := prog_9_method_4_code
def yX7_trouble : MethodName := ⟨RX7, "trouble", "(II)I"⟩
abbrev cX7_hasItem : ByteArray := prog_9_method_5_code
def yX7_hasItem : MethodName := ⟨RX7, "hasItem", "(I)Z"⟩
abbrev cX7_hasRun : ByteArray := prog_9_method_6_code
def yX7_hasRun : MethodName := ⟨RX7, "hasRun", "(II)Z"⟩
abbrev cX7_item : ByteArray := prog_9_method_7_code
def yX7_item : MethodName := ⟨RX7, "item", "(I)I"⟩
abbrev cX7_put : ByteArray := prog_9_method_8_code
def yX7_put : MethodName := ⟨RX7, "put", "(II)V"⟩
def RX8 : String := "SmokeRings$Sights"
def TX8 : u_T := fun k => match k with
  | 0 => ("SmokeRings$Sights", "things", "[I", true)
  | 1 => ("SmokeRings$Sights", "outcomes", "[I", true)
  | _ => ("SmokeRings$Sights", "length", "I", false)
def tyX8 : Nat → FieldType := fun k => match k with
  | 0 => .array .int
  | 1 => .array .int
  | _ => .int
theorem nmX8 : ∀ a, a < 3 → ∀ b, b < 3 → a ≠ b → (TX8 a).2.1 ≠ (TX8 b).2.1 := by decide +kernel
theorem tyX8_ok : ∀ k, k < 3 → parseFieldDescriptor (TX8 k).2.2.1 = some (tyX8 k) := by decide +kernel
abbrev cX8_init : ByteArray := prog_10_method_1_code
def yX8_init : MethodName := ⟨RX8, "<init>", "()V"⟩
abbrev cX8_note : ByteArray := prog_10_method_2_code
def yX8_note : MethodName := ⟨RX8, "note", "(II)Z"⟩
abbrev cX8_allSo : ByteArray := prog_10_method_3_code
def yX8_allSo : MethodName := ⟨RX8, "allSo", "(LSmokeRings$Night;LSmokeRings$Play;)Z"⟩
def RX9 : String := "SmokeRings$Text"
def TX9 : u_T := fun k => match k with
  | 0 => ("SmokeRings$Text", "bytes", "[I", true)
  | _ => ("SmokeRings$Text", "length", "I", false)
def tyX9 : Nat → FieldType := fun k => match k with
  | 0 => .array .int
  | _ => .int
theorem nmX9 : ∀ a, a < 2 → ∀ b, b < 2 → a ≠ b → (TX9 a).2.1 ≠ (TX9 b).2.1 := by decide +kernel
theorem tyX9_ok : ∀ k, k < 2 → parseFieldDescriptor (TX9 k).2.2.1 = some (tyX9 k) := by decide +kernel
abbrev cX9_init : ByteArray := prog_11_method_1_code
def yX9_init : MethodName := ⟨RX9, "<init>", "(I)V"⟩
abbrev cX9_append : ByteArray := prog_11_method_2_code
def yX9_append : MethodName := ⟨RX9, "append", "(I)Z"⟩
abbrev cX9_sign : ByteArray := prog_11_method_3_code
def yX9_sign : MethodName := ⟨RX9, "sign", "(I)I"⟩
def RX10 : String := "SmokeRings$Valley"
def TX10 : u_T := fun k => match k with
  | 0 => ("SmokeRings$Valley", "cells", "I", false)
  | 1 => ("SmokeRings$Valley", "open", "[Z", true)
  | _ => ("SmokeRings$Valley", "next", "[I", true)
def tyX10 : Nat → FieldType := fun k => match k with
  | 0 => .int
  | 1 => .array .boolean
  | _ => .array .int
theorem nmX10 : ∀ a, a < 3 → ∀ b, b < 3 → a ≠ b → (TX10 a).2.1 ≠ (TX10 b).2.1 := by decide +kernel
theorem tyX10_ok : ∀ k, k < 3 → parseFieldDescriptor (TX10 k).2.2.1 = some (tyX10 k) := by decide +kernel
abbrev cX10_init : ByteArray := prog_12_method_1_code
def yX10_init : MethodName := ⟨RX10, "<init>", "()V"⟩
abbrev cX10_isOpen : ByteArray := prog_12_method_2_code
def yX10_isOpen : MethodName := ⟨RX10, "isOpen", "(I)Z"⟩
abbrev cX10_reread : ByteArray := prog_12_method_3_code
def yX10_reread : MethodName := ⟨RX10, "reread", "(LSmokeRings$Text;)I"⟩
abbrev cX10_firstFault : ByteArray := prog_12_method_4_code
def yX10_firstFault : MethodName := ⟨RX10, "firstFault", "(LSmokeRings$Text;)I"⟩
abbrev cX10_fill : ByteArray := prog_12_method_5_code
def yX10_fill : MethodName := ⟨RX10, "fill", "(LSmokeRings$Text;)I"⟩
abbrev cX10_link : ByteArray := prog_12_method_6_code
def yX10_link : MethodName := ⟨RX10, "link", "(II)V"⟩
abbrev cX10_link_ : ByteArray := prog_12_method_7_code
def yX10_link_ : MethodName := ⟨RX10, "link", "(IIIZ)V"⟩
def RX11 : String := "SmokeRings"
def TX11 : u_T := fun k => match k with
  | 0 => ("SmokeRings", "texts", "[LSmokeRings$Text;", true)
  | 1 => ("SmokeRings", "faults", "[I", true)
  | 2 => ("SmokeRings", "valley", "LSmokeRings$Valley;", true)
  | 3 => ("SmokeRings", "told", "LSmokeRings$Night;", true)
  | 4 => ("SmokeRings", "base", "LSmokeRings$Play;", true)
  | 5 => ("SmokeRings", "diary", "LSmokeRings$Diary;", true)
  | 6 => ("SmokeRings", "sights", "LSmokeRings$Sights;", true)
  | 7 => ("SmokeRings", "plans", "LSmokeRings$Plans;", true)
  | 8 => ("SmokeRings", "guesses", "LSmokeRings$Guesses;", true)
  | 9 => ("SmokeRings", "chances", "LSmokeRings$Chances;", true)
  | 10 => ("SmokeRings", "sheets", "[LSmokeRings$Sheet;", true)
  | 11 => ("SmokeRings", "finding", "I", false)
  | _ => ("SmokeRings", "played", "Z", false)
def tyX11 : Nat → FieldType := fun k => match k with
  | 0 => .array (.object "SmokeRings$Text")
  | 1 => .array .int
  | 2 => .object "SmokeRings$Valley"
  | 3 => .object "SmokeRings$Night"
  | 4 => .object "SmokeRings$Play"
  | 5 => .object "SmokeRings$Diary"
  | 6 => .object "SmokeRings$Sights"
  | 7 => .object "SmokeRings$Plans"
  | 8 => .object "SmokeRings$Guesses"
  | 9 => .object "SmokeRings$Chances"
  | 10 => .array (.object "SmokeRings$Sheet")
  | 11 => .int
  | _ => .boolean
theorem nmX11 : ∀ a, a < 13 → ∀ b, b < 13 → a ≠ b → (TX11 a).2.1 ≠ (TX11 b).2.1 := by decide +kernel
theorem tyX11_ok : ∀ k, k < 13 → parseFieldDescriptor (TX11 k).2.2.1 = some (tyX11 k) := by decide +kernel
abbrev cX11_init : ByteArray := prog_1_method_1_code
def yX11_init : MethodName := ⟨RX11, "<init>", "()V"⟩
abbrev cX11_type : ByteArray := prog_1_method_2_code
def yX11_type : MethodName := ⟨RX11, "type", "(II)I"⟩
abbrev cX11_wipe : ByteArray := prog_1_method_3_code
def yX11_wipe : MethodName := ⟨RX11, "wipe", "(I)I"⟩
abbrev cX11_undo : ByteArray := prog_1_method_4_code
def yX11_undo : MethodName := ⟨RX11, "undo", "(I)I"⟩
abbrev cX11_fault : ByteArray := prog_1_method_5_code
def yX11_fault : MethodName := ⟨RX11, "fault", "(I)I"⟩
abbrev cX11_cell : ByteArray := prog_1_method_6_code
def yX11_cell : MethodName := ⟨RX11, "cell", "(I)I"⟩
abbrev cX11_thing : ByteArray := prog_1_method_7_code
def yX11_thing : MethodName := ⟨RX11, "thing", "(II)I"⟩
abbrev cX11_wind : ByteArray := prog_1_method_8_code
def yX11_wind : MethodName := ⟨RX11, "wind", "(I)I"⟩
abbrev cX11_widens : ByteArray := prog_1_method_9_code
def yX11_widens : MethodName := ⟨RX11, "widens", "(I)I"⟩
abbrev cX11_blow : ByteArray := prog_1_method_10_code
def yX11_blow : MethodName := ⟨RX11, "blow", "(IIIII)I"⟩
abbrev cX11_ring : ByteArray := prog_1_method_11_code
def yX11_ring : MethodName := ⟨RX11, "ring", "(II)I"⟩
abbrev cX11_back : ByteArray := prog_1_method_12_code
def yX11_back : MethodName := ⟨RX11, "back", "()I"⟩
abbrev cX11_read : ByteArray := prog_1_method_13_code
def yX11_read : MethodName := ⟨RX11, "read", "(I)I"⟩
abbrev cX11_at : ByteArray := prog_1_method_14_code
def yX11_at : MethodName := ⟨RX11, "at", "(III)I"⟩
abbrev cX11_bound : ByteArray := prog_1_method_15_code
def yX11_bound : MethodName := ⟨RX11, "bound", "(II)I"⟩
abbrev cX11_wed : ByteArray := prog_1_method_16_code
def yX11_wed : MethodName := ⟨RX11, "wed", "(II)I"⟩
abbrev cX11_throughs : ByteArray := prog_1_method_17_code
def yX11_throughs : MethodName := ⟨RX11, "throughs", "(I)I"⟩
abbrev cX11_missed : ByteArray := prog_1_method_18_code
def yX11_missed : MethodName := ⟨RX11, "missed", "()I"⟩
abbrev cX11_richest : ByteArray := prog_1_method_19_code
def yX11_richest : MethodName := ⟨RX11, "richest", "()I"⟩
abbrev cX11_lonely : ByteArray := prog_1_method_20_code
def yX11_lonely : MethodName := ⟨RX11, "lonely", "()I"⟩
abbrev cX11_breath : ByteArray := prog_1_method_21_code
def yX11_breath : MethodName := ⟨RX11, "breath", "(II)I"⟩
abbrev cX11_aim : ByteArray := prog_1_method_22_code
def yX11_aim : MethodName := ⟨RX11, "aim", "(II)I"⟩
abbrev cX11_stand : ByteArray := prog_1_method_23_code
def yX11_stand : MethodName := ⟨RX11, "stand", "(I)I"⟩
abbrev cX11_hush : ByteArray := prog_1_method_24_code
def yX11_hush : MethodName := ⟨RX11, "hush", "(II)I"⟩
abbrev cX11_calm : ByteArray := prog_1_method_25_code
def yX11_calm : MethodName := ⟨RX11, "calm", "(I)I"⟩
abbrev cX11_free : ByteArray := prog_1_method_26_code
def yX11_free : MethodName := ⟨RX11, "free", "(III)I"⟩
abbrev cX11_seen : ByteArray := prog_1_method_27_code
def yX11_seen : MethodName := ⟨RX11, "seen", "(II)I"⟩
abbrev cX11_forget : ByteArray := prog_1_method_28_code
def yX11_forget : MethodName := ⟨RX11, "forget", "()I"⟩
abbrev cX11_never : ByteArray := prog_1_method_29_code
def yX11_never : MethodName := ⟨RX11, "never", "()I"⟩
abbrev cX11_whence : ByteArray := prog_1_method_30_code
def yX11_whence : MethodName := ⟨RX11, "whence", "(II)I"⟩
abbrev cX11_paces : ByteArray := prog_1_method_31_code
def yX11_paces : MethodName := ⟨RX11, "paces", "()I"⟩
abbrev cX11_ask : ByteArray := prog_1_method_32_code
def yX11_ask : MethodName := ⟨RX11, "ask", "()I"⟩
abbrev cX11_still : ByteArray := prog_1_method_33_code
def yX11_still : MethodName := ⟨RX11, "still", "(IIIII)J"⟩
abbrev cX11_evening : ByteArray := prog_1_method_34_code
def yX11_evening : MethodName := ⟨RX11, "evening", "(III)I"⟩
abbrev cX11_sheet : ByteArray := prog_1_method_35_code
def yX11_sheet : MethodName := ⟨RX11, "sheet", "(III)I"⟩
abbrev cX11_lose : ByteArray := prog_1_method_36_code
def yX11_lose : MethodName := ⟨RX11, "lose", "(I)I"⟩
abbrev cX11_lay : ByteArray := prog_1_method_37_code
def yX11_lay : MethodName := ⟨RX11, "lay", "(IIII)I"⟩
abbrev cX11_get : ByteArray := prog_1_method_38_code
def yX11_get : MethodName := ⟨RX11, "get", "(III)I"⟩
abbrev cX11_copy : ByteArray := prog_1_method_39_code
def yX11_copy : MethodName := ⟨RX11, "copy", "(IIIII)I"⟩
abbrev cX11_write : ByteArray := prog_1_method_40_code
def yX11_write : MethodName := ⟨RX11, "write", "(II)I"⟩
abbrev cX11_count : ByteArray := prog_1_method_41_code
def yX11_count : MethodName := ⟨RX11, "count", "(I)I"⟩
abbrev cX11_digest : ByteArray := prog_1_method_42_code
def yX11_digest : MethodName := ⟨RX11, "digest", "()J"⟩
abbrev cX11_digestRing : ByteArray := prog_1_method_43_code
def yX11_digestRing : MethodName := ⟨RX11, "digestRing", "(JI)J"⟩
abbrev cX11_digestThing : ByteArray := prog_1_method_44_code
def yX11_digestThing : MethodName := ⟨RX11, "digestThing", "(JI)J"⟩
abbrev cX11_digestWhom : ByteArray := prog_1_method_45_code
def yX11_digestWhom : MethodName := ⟨RX11, "digestWhom", "(JI)J"⟩
abbrev cX11_digestRest : ByteArray := prog_1_method_46_code
def yX11_digestRest : MethodName := ⟨RX11, "digestRest", "(J)J"⟩
abbrev cX11_mixed : ByteArray := prog_1_method_47_code
def yX11_mixed : MethodName := ⟨RX11, "mixed", "(JJ)J"⟩
abbrev cX11_within : ByteArray := prog_1_method_48_code
def yX11_within : MethodName := ⟨RX11, "within", "(III)Z"⟩
abbrev cX11_mayBlow : ByteArray := prog_1_method_49_code
def yX11_mayBlow : MethodName := ⟨RX11, "mayBlow", "(IIIII)Z"⟩
abbrev cX11_isRing : ByteArray := prog_1_method_50_code
def yX11_isRing : MethodName := ⟨RX11, "isRing", "(I)Z"⟩
abbrev cX11_isThing : ByteArray := prog_1_method_51_code
def yX11_isThing : MethodName := ⟨RX11, "isThing", "(I)Z"⟩
abbrev cX11_found : ByteArray := prog_1_method_52_code
def yX11_found : MethodName := ⟨RX11, "found", "(I)I"⟩
abbrev cX11_reread : ByteArray := prog_1_method_53_code
def yX11_reread : MethodName := ⟨RX11, "reread", "(I)V"⟩
abbrev cX11_playTold : ByteArray := prog_1_method_54_code
def yX11_playTold : MethodName := ⟨RX11, "playTold", "()V"⟩
def RX12 : String := "SmokeRingsModel"
def TX12 : u_T := fun k => match k with
  | 0 => ("SmokeRingsModel", "forms", "[I", true)
  | 1 => ("SmokeRingsModel", "sizes", "[I", true)
  | 2 => ("SmokeRingsModel", "items", "[I", true)
  | 3 => ("SmokeRingsModel", "moved", "[I", true)
  | 4 => ("SmokeRingsModel", "latest", "I", false)
  | 5 => ("SmokeRingsModel", "bytes", "[I", true)
  | 6 => ("SmokeRingsModel", "typed", "[I", true)
  | 7 => ("SmokeRingsModel", "cells", "I", false)
  | 8 => ("SmokeRingsModel", "wide", "I", false)
  | 9 => ("SmokeRingsModel", "cell", "[I", true)
  | 10 => ("SmokeRingsModel", "things", "I", false)
  | 11 => ("SmokeRingsModel", "thing", "[I", true)
  | 12 => ("SmokeRingsModel", "wind", "[I", true)
  | 13 => ("SmokeRingsModel", "widens", "I", false)
  | 14 => ("SmokeRingsModel", "rings", "I", false)
  | 15 => ("SmokeRingsModel", "ring", "[I", true)
  | 16 => ("SmokeRingsModel", "state", "[I", true)
  | 17 => ("SmokeRingsModel", "at", "[I", true)
  | 18 => ("SmokeRingsModel", "width", "[I", true)
  | 19 => ("SmokeRingsModel", "breath", "[I", true)
  | 20 => ("SmokeRingsModel", "kept", "[I", true)
  | 21 => ("SmokeRingsModel", "boundBy", "[I", true)
  | 22 => ("SmokeRingsModel", "boundOn", "[I", true)
  | 23 => ("SmokeRingsModel", "throughs", "I", false)
  | 24 => ("SmokeRingsModel", "firstThrough", "I", false)
  | 25 => ("SmokeRingsModel", "gone", "I", false)
  | 26 => ("SmokeRingsModel", "calms", "I", false)
  | 27 => ("SmokeRingsModel", "sights", "I", false)
  | 28 => ("SmokeRingsModel", "sight", "[I", true)
  | 29 => ("SmokeRingsModel", "alike", "[I", true)
  | 30 => ("SmokeRingsModel", "drawn", "I", false)
  | _ => ("SmokeRingsModel", "told", "[I", true)
def tyX12 : Nat → FieldType := fun k => match k with
  | 0 => .array .int
  | 1 => .array .int
  | 2 => .array .int
  | 3 => .array .int
  | 4 => .int
  | 5 => .array .int
  | 6 => .array .int
  | 7 => .int
  | 8 => .int
  | 9 => .array .int
  | 10 => .int
  | 11 => .array .int
  | 12 => .array .int
  | 13 => .int
  | 14 => .int
  | 15 => .array .int
  | 16 => .array .int
  | 17 => .array .int
  | 18 => .array .int
  | 19 => .array .int
  | 20 => .array .int
  | 21 => .array .int
  | 22 => .array .int
  | 23 => .int
  | 24 => .int
  | 25 => .int
  | 26 => .int
  | 27 => .int
  | 28 => .array .int
  | 29 => .array .int
  | 30 => .int
  | _ => .array .int
theorem nmX12 : ∀ a, a < 32 → ∀ b, b < 32 → a ≠ b → (TX12 a).2.1 ≠ (TX12 b).2.1 := by decide +kernel
theorem tyX12_ok : ∀ k, k < 32 → parseFieldDescriptor (TX12 k).2.2.1 = some (tyX12 k) := by decide +kernel
abbrev cX12_init : ByteArray := prog_14_method_1_code
def yX12_init : MethodName := ⟨RX12, "<init>", "()V"⟩
abbrev cX12_in : ByteArray := prog_14_method_3_code
def yX12_in : MethodName := ⟨RX12, "in", "(JJJ)Z"⟩
abbrev cX12_no : ByteArray := prog_14_method_4_code
def yX12_no : MethodName := ⟨RX12, "no", "(I)J"⟩
abbrev cX12_isTwo : ByteArray := prog_14_method_5_code
def yX12_isTwo : MethodName := ⟨RX12, "isTwo", "(I)Z"⟩
abbrev cX12_isIn : ByteArray := prog_14_method_6_code
def yX12_isIn : MethodName := ⟨RX12, "isIn", "(II)Z"⟩
abbrev cX12_ones : ByteArray := prog_14_method_7_code
def yX12_ones : MethodName := ⟨RX12, "ones", "(I)I"⟩
abbrev cX12_lesser : ByteArray := prog_14_method_8_code
def yX12_lesser : MethodName := ⟨RX12, "lesser", "(II)I"⟩
abbrev cX12_greater : ByteArray := prog_14_method_9_code
def yX12_greater : MethodName := ⟨RX12, "greater", "(II)I"⟩
abbrev cX12_part : ByteArray := prog_14_method_10_code
def yX12_part : MethodName := ⟨RX12, "part", "(JJI)J"⟩
abbrev cX12_finds : ByteArray := prog_14_method_11_code
def yX12_finds : MethodName := ⟨RX12, "finds", "(I)I"⟩
abbrev cX12_isSheet : ByteArray := prog_14_method_12_code
def yX12_isSheet : MethodName := ⟨RX12, "isSheet", "(I)Z"⟩
abbrev cX12_sheet : ByteArray := prog_14_method_13_code
def yX12_sheet : MethodName := ⟨RX12, "sheet", "(III)I"⟩
abbrev cX12_lose : ByteArray := prog_14_method_14_code
def yX12_lose : MethodName := ⟨RX12, "lose", "(I)I"⟩
abbrev cX12_lacks : ByteArray := prog_14_method_15_code
def yX12_lacks : MethodName := ⟨RX12, "lacks", "(III)I"⟩
abbrev cX12_cut : ByteArray := prog_14_method_16_code
def yX12_cut : MethodName := ⟨RX12, "cut", "(II)I"⟩
abbrev cX12_lay : ByteArray := prog_14_method_17_code
def yX12_lay : MethodName := ⟨RX12, "lay", "(IIII)I"⟩
abbrev cX12_get : ByteArray := prog_14_method_18_code
def yX12_get : MethodName := ⟨RX12, "get", "(III)I"⟩
abbrev cX12_copy : ByteArray := prog_14_method_19_code
def yX12_copy : MethodName := ⟨RX12, "copy", "(IIIII)I"⟩
abbrev cX12_isText : ByteArray := prog_14_method_20_code
def yX12_isText : MethodName := ⟨RX12, "isText", "(I)Z"⟩
abbrev cX12_type : ByteArray := prog_14_method_21_code
def yX12_type : MethodName := ⟨RX12, "type", "(II)I"⟩
abbrev cX12_wipe : ByteArray := prog_14_method_22_code
def yX12_wipe : MethodName := ⟨RX12, "wipe", "(I)I"⟩
abbrev cX12_undo : ByteArray := prog_14_method_23_code
def yX12_undo : MethodName := ⟨RX12, "undo", "(I)I"⟩
abbrev cX12_torn : ByteArray := prog_14_method_24_code
def yX12_torn : MethodName := ⟨RX12, "torn", "(I)I"⟩
abbrev cX12_readsValley : ByteArray := prog_14_method_25_code
def yX12_readsValley : MethodName := ⟨RX12, "readsValley", "()I"⟩
abbrev cX12_thingOf : ByteArray := prog_14_method_26_code
def yX12_thingOf : MethodName := ⟨RX12, "thingOf", "(II)I"⟩
abbrev cX12_readsThings : ByteArray := prog_14_method_27_code
def yX12_readsThings : MethodName := ⟨RX12, "readsThings", "()I"⟩
abbrev cX12_stills : ByteArray := prog_14_method_28_code
def yX12_stills : MethodName := ⟨RX12, "stills", "()V"⟩
abbrev cX12_readsWind : ByteArray := prog_14_method_29_code
def yX12_readsWind : MethodName := ⟨RX12, "readsWind", "()I"⟩
abbrev cX12_readsText : ByteArray := prog_14_method_30_code
def yX12_readsText : MethodName := ⟨RX12, "readsText", "(I)I"⟩
abbrev cX12_fault : ByteArray := prog_14_method_31_code
def yX12_fault : MethodName := ⟨RX12, "fault", "(I)I"⟩
abbrev cX12_isCell : ByteArray := prog_14_method_32_code
def yX12_isCell : MethodName := ⟨RX12, "isCell", "(I)Z"⟩
abbrev cX12_isThing : ByteArray := prog_14_method_33_code
def yX12_isThing : MethodName := ⟨RX12, "isThing", "(I)Z"⟩
abbrev cX12_isStep : ByteArray := prog_14_method_34_code
def yX12_isStep : MethodName := ⟨RX12, "isStep", "(I)Z"⟩
abbrev cX12_cell : ByteArray := prog_14_method_35_code
def yX12_cell : MethodName := ⟨RX12, "cell", "(I)I"⟩
abbrev cX12_thing : ByteArray := prog_14_method_36_code
def yX12_thing : MethodName := ⟨RX12, "thing", "(II)I"⟩
abbrev cX12_wind : ByteArray := prog_14_method_37_code
def yX12_wind : MethodName := ⟨RX12, "wind", "(I)I"⟩
abbrev cX12_widens : ByteArray := prog_14_method_38_code
def yX12_widens : MethodName := ⟨RX12, "widens", "(I)I"⟩
abbrev cX12_puts : ByteArray := prog_14_method_39_code
def yX12_puts : MethodName := ⟨RX12, "puts", "(IIIII)V"⟩
abbrev cX12_blow : ByteArray := prog_14_method_40_code
def yX12_blow : MethodName := ⟨RX12, "blow", "(IIIII)I"⟩
abbrev cX12_isRing : ByteArray := prog_14_method_41_code
def yX12_isRing : MethodName := ⟨RX12, "isRing", "(I)Z"⟩
abbrev cX12_ring : ByteArray := prog_14_method_42_code
def yX12_ring : MethodName := ⟨RX12, "ring", "(II)I"⟩
abbrev cX12_back : ByteArray := prog_14_method_43_code
def yX12_back : MethodName := ⟨RX12, "back", "()I"⟩
abbrev cX12_read : ByteArray := prog_14_method_44_code
def yX12_read : MethodName := ⟨RX12, "read", "(I)I"⟩
abbrev cX12_beside : ByteArray := prog_14_method_45_code
def yX12_beside : MethodName := ⟨RX12, "beside", "(II)I"⟩
abbrev cX12_goes : ByteArray := prog_14_method_46_code
def yX12_goes : MethodName := ⟨RX12, "goes", "(II)V"⟩
abbrev cX12_moves : ByteArray := prog_14_method_47_code
def yX12_moves : MethodName := ⟨RX12, "moves", "(II)V"⟩
abbrev cX12_isBlown : ByteArray := prog_14_method_48_code
def yX12_isBlown : MethodName := ⟨RX12, "isBlown", "(I)V"⟩
abbrev cX12_grows : ByteArray := prog_14_method_49_code
def yX12_grows : MethodName := ⟨RX12, "grows", "(II)V"⟩
abbrev cX12_meet : ByteArray := prog_14_method_50_code
def yX12_meet : MethodName := ⟨RX12, "meet", "(I)V"⟩
abbrev cX12_fits : ByteArray := prog_14_method_51_code
def yX12_fits : MethodName := ⟨RX12, "fits", "(II)Z"⟩
abbrev cX12_falls : ByteArray := prog_14_method_52_code
def yX12_falls : MethodName := ⟨RX12, "falls", "(II)V"⟩
abbrev cX12_keeps : ByteArray := prog_14_method_53_code
def yX12_keeps : MethodName := ⟨RX12, "keeps", "(I)V"⟩
abbrev cX12_steps : ByteArray := prog_14_method_54_code
def yX12_steps : MethodName := ⟨RX12, "steps", "(I)V"⟩
abbrev cX12_lives : ByteArray := prog_14_method_55_code
def yX12_lives : MethodName := ⟨RX12, "lives", "()V"⟩
abbrev cX12_find : ByteArray := prog_14_method_56_code
def yX12_find : MethodName := ⟨RX12, "find", "()V"⟩
abbrev cX12_at : ByteArray := prog_14_method_57_code
def yX12_at : MethodName := ⟨RX12, "at", "(III)I"⟩
abbrev cX12_whomOf : ByteArray := prog_14_method_58_code
def yX12_whomOf : MethodName := ⟨RX12, "whomOf", "(I)I"⟩
abbrev cX12_boundOf : ByteArray := prog_14_method_59_code
def yX12_boundOf : MethodName := ⟨RX12, "boundOf", "(II)I"⟩
abbrev cX12_bound : ByteArray := prog_14_method_60_code
def yX12_bound : MethodName := ⟨RX12, "bound", "(II)I"⟩
abbrev cX12_upkeep : ByteArray := prog_14_method_61_code
def yX12_upkeep : MethodName := ⟨RX12, "upkeep", "(I)I"⟩
abbrev cX12_wedOf : ByteArray := prog_14_method_62_code
def yX12_wedOf : MethodName := ⟨RX12, "wedOf", "(II)I"⟩
abbrev cX12_wed : ByteArray := prog_14_method_63_code
def yX12_wed : MethodName := ⟨RX12, "wed", "(II)I"⟩
abbrev cX12_throughs : ByteArray := prog_14_method_64_code
def yX12_throughs : MethodName := ⟨RX12, "throughs", "(I)I"⟩
abbrev cX12_missedNow : ByteArray := prog_14_method_65_code
def yX12_missedNow : MethodName := ⟨RX12, "missedNow", "()I"⟩
abbrev cX12_missed : ByteArray := prog_14_method_66_code
def yX12_missed : MethodName := ⟨RX12, "missed", "()I"⟩
abbrev cX12_richestNow : ByteArray := prog_14_method_67_code
def yX12_richestNow : MethodName := ⟨RX12, "richestNow", "()I"⟩
abbrev cX12_richest : ByteArray := prog_14_method_68_code
def yX12_richest : MethodName := ⟨RX12, "richest", "()I"⟩
abbrev cX12_lonelyNow : ByteArray := prog_14_method_69_code
def yX12_lonelyNow : MethodName := ⟨RX12, "lonelyNow", "()I"⟩
abbrev cX12_lonely : ByteArray := prog_14_method_70_code
def yX12_lonely : MethodName := ⟨RX12, "lonely", "()I"⟩
abbrev cX12_allBound : ByteArray := prog_14_method_71_code
def yX12_allBound : MethodName := ⟨RX12, "allBound", "()I"⟩
abbrev cX12_breathOf : ByteArray := prog_14_method_72_code
def yX12_breathOf : MethodName := ⟨RX12, "breathOf", "(II)I"⟩
abbrev cX12_breath : ByteArray := prog_14_method_73_code
def yX12_breath : MethodName := ⟨RX12, "breath", "(II)I"⟩
abbrev cX12_aimOf : ByteArray := prog_14_method_74_code
def yX12_aimOf : MethodName := ⟨RX12, "aimOf", "(II)I"⟩
abbrev cX12_aim : ByteArray := prog_14_method_75_code
def yX12_aim : MethodName := ⟨RX12, "aim", "(II)I"⟩
abbrev cX12_standOf : ByteArray := prog_14_method_76_code
def yX12_standOf : MethodName := ⟨RX12, "standOf", "(I)I"⟩
abbrev cX12_stand : ByteArray := prog_14_method_77_code
def yX12_stand : MethodName := ⟨RX12, "stand", "(I)I"⟩
abbrev cX12_isSpared : ByteArray := prog_14_method_78_code
def yX12_isSpared : MethodName := ⟨RX12, "isSpared", "(II)Z"⟩
abbrev cX12_hushOf : ByteArray := prog_14_method_79_code
def yX12_hushOf : MethodName := ⟨RX12, "hushOf", "(II)I"⟩
abbrev cX12_hush : ByteArray := prog_14_method_80_code
def yX12_hush : MethodName := ⟨RX12, "hush", "(II)I"⟩
abbrev cX12_calmBy : ByteArray := prog_14_method_81_code
def yX12_calmBy : MethodName := ⟨RX12, "calmBy", "(I)I"⟩
abbrev cX12_calm : ByteArray := prog_14_method_82_code
def yX12_calm : MethodName := ⟨RX12, "calm", "(I)I"⟩
abbrev cX12_costOf : ByteArray := prog_14_method_83_code
def yX12_costOf : MethodName := ⟨RX12, "costOf", "(II)I"⟩
abbrev cX12_freeOf : ByteArray := prog_14_method_84_code
def yX12_freeOf : MethodName := ⟨RX12, "freeOf", "(III)I"⟩
abbrev cX12_free : ByteArray := prog_14_method_85_code
def yX12_free : MethodName := ⟨RX12, "free", "(III)I"⟩
abbrev cX12_seen : ByteArray := prog_14_method_86_code
def yX12_seen : MethodName := ⟨RX12, "seen", "(II)I"⟩
abbrev cX12_forget : ByteArray := prog_14_method_87_code
def yX12_forget : MethodName := ⟨RX12, "forget", "()I"⟩
abbrev cX12_isSeen : ByteArray := prog_14_method_88_code
def yX12_isSeen : MethodName := ⟨RX12, "isSeen", "()Z"⟩
abbrev cX12_neverNow : ByteArray := prog_14_method_89_code
def yX12_neverNow : MethodName := ⟨RX12, "neverNow", "()I"⟩
abbrev cX12_never : ByteArray := prog_14_method_90_code
def yX12_never : MethodName := ⟨RX12, "never", "()I"⟩
abbrev cX12_whenceOf : ByteArray := prog_14_method_91_code
def yX12_whenceOf : MethodName := ⟨RX12, "whenceOf", "(II)I"⟩
abbrev cX12_whence : ByteArray := prog_14_method_92_code
def yX12_whence : MethodName := ⟨RX12, "whence", "(II)I"⟩
abbrev cX12_pacesNow : ByteArray := prog_14_method_93_code
def yX12_pacesNow : MethodName := ⟨RX12, "pacesNow", "()I"⟩
abbrev cX12_paces : ByteArray := prog_14_method_94_code
def yX12_paces : MethodName := ⟨RX12, "paces", "()I"⟩
abbrev cX12_askNow : ByteArray := prog_14_method_95_code
def yX12_askNow : MethodName := ⟨RX12, "askNow", "()I"⟩
abbrev cX12_ask : ByteArray := prog_14_method_96_code
def yX12_ask : MethodName := ⟨RX12, "ask", "()I"⟩
abbrev cX12_stillOf : ByteArray := prog_14_method_97_code
def yX12_stillOf : MethodName := ⟨RX12, "stillOf", "(IIIII)J"⟩
abbrev cX12_still : ByteArray := prog_14_method_98_code
def yX12_still : MethodName := ⟨RX12, "still", "(IIIII)J"⟩
abbrev cX12_lot : ByteArray := prog_14_method_99_code
def yX12_lot : MethodName := ⟨RX12, "lot", "(I)I"⟩
abbrev cX12_eveningOf : ByteArray := prog_14_method_100_code
def yX12_eveningOf : MethodName := ⟨RX12, "eveningOf", "(III)I"⟩
abbrev cX12_evening : ByteArray := prog_14_method_101_code
def yX12_evening : MethodName := ⟨RX12, "evening", "(III)I"⟩
abbrev cX12_write : ByteArray := prog_14_method_102_code
def yX12_write : MethodName := ⟨RX12, "write", "(II)I"⟩
abbrev cX12_count : ByteArray := prog_14_method_103_code
def yX12_count : MethodName := ⟨RX12, "count", "(I)I"⟩
abbrev cX12_tellsStep : ByteArray := prog_14_method_104_code
def yX12_tellsStep : MethodName := ⟨RX12, "tellsStep", "(JII)J"⟩
abbrev cX12_tellsRing : ByteArray := prog_14_method_105_code
def yX12_tellsRing : MethodName := ⟨RX12, "tellsRing", "(JI)J"⟩
abbrev cX12_tellsThing : ByteArray := prog_14_method_106_code
def yX12_tellsThing : MethodName := ⟨RX12, "tellsThing", "(JI)J"⟩
abbrev cX12_digest : ByteArray := prog_14_method_107_code
def yX12_digest : MethodName := ⟨RX12, "digest", "()J"⟩
def RJ6 : String := "java/lang/Integer"
abbrev cJ6_bitCount_0f7a4 : ByteArray := prog_15_method_49_code
def yJ6_bitCount_0f7a4 : MethodName := ⟨RJ6, "bitCount", "(I)I"⟩
def RJ13 : String := "java/lang/Long"
abbrev cJ13_bitCount_95d88 : ByteArray := prog_16_method_50_code
def yJ13_bitCount_95d88 : MethodName := ⟨RJ13, "bitCount", "(J)I"⟩
def RJ9 : String := "java/lang/Math"
abbrev cJ9_max_7cf53 : ByteArray := prog_17_method_65_code
def yJ9_max_7cf53 : MethodName := ⟨RJ9, "max", "(II)I"⟩
abbrev cJ9_min_7cf53 : ByteArray := prog_17_method_69_code
def yJ9_min_7cf53 : MethodName := ⟨RJ9, "min", "(II)I"⟩
def RJ10 : String := "java/lang/System"
def RJ7 : String := "java/util/Arrays"
abbrev cJ7_fill_d0a16 : ByteArray := prog_19_method_101_code
def yJ7_fill_d0a16 : MethodName := ⟨RJ7, "fill", "([JJ)V"⟩
abbrev cJ7_fill_53178 : ByteArray := prog_19_method_103_code
def yJ7_fill_53178 : MethodName := ⟨RJ7, "fill", "([II)V"⟩
def RL : String := "SmokeRingsLaw"
abbrev cL_law : ByteArray := code
def yL_law : MethodName := ⟨RL, "law", "([I)Z"⟩
abbrev vwCl : List vw_C := [(RX0, TX0, 10), (RX1, TX1, 1), (RX2, TX2, 3), (RX3, TX3, 7), (RX4, TX4, 12), (RX5, TX5, 10), (RX6, TX6, 13), (RX7, TX7, 3), (RX8, TX8, 3), (RX9, TX9, 2), (RX10, TX10, 3), (RX11, TX11, 13), (RX12, TX12, 32)]
