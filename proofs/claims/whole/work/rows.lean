section
-- ===== PART A: goes FIRST, ahead of the names: the tables' words, and 'selects' of the private methods out of them =====
/-- a private method of a class that the tables say can be made, by its rows of tables_1 -/
def lw_okq (q : MethodName × Nat) : Prop := (q.1.cls ≠ "java/lang/invoke/MethodHandle" ∧ q.1.cls ≠ "java/lang/invoke/VarHandle") ∧ Cond.instantiable q.1.cls q.2 ∈ tables_1 ∧ Cond.privateMethod q.1 ∈ tables_1 ∧ Cond.instanceMethod q.1 ∈ tables_1
theorem lw_p0 : lw_okq (⟨"HuntTable$HuntReader", "readClause", "()Z"⟩, 3) := ⟨⟨by decide +kernel, by decide +kernel⟩, List.mem_of_getElem? (i := 48) (by decide +kernel), List.mem_of_getElem? (i := 423) (by decide +kernel), List.mem_of_getElem? (i := 424) (by decide +kernel)⟩
theorem lw_p1 : lw_okq (⟨"HuntTable$HuntReader", "addClause", "(I)Z"⟩, 3) := ⟨⟨by decide +kernel, by decide +kernel⟩, List.mem_of_getElem? (i := 48) (by decide +kernel), List.mem_of_getElem? (i := 431) (by decide +kernel), List.mem_of_getElem? (i := 432) (by decide +kernel)⟩
theorem lw_p2 : lw_okq (⟨"HuntTable$HuntReader", "readItems", "(I)Z"⟩, 3) := ⟨⟨by decide +kernel, by decide +kernel⟩, List.mem_of_getElem? (i := 48) (by decide +kernel), List.mem_of_getElem? (i := 447) (by decide +kernel), List.mem_of_getElem? (i := 448) (by decide +kernel)⟩
theorem lw_p3 : lw_okq (⟨"HuntTable$HuntReader", "readValue", "(I)Z"⟩, 3) := ⟨⟨by decide +kernel, by decide +kernel⟩, List.mem_of_getElem? (i := 48) (by decide +kernel), List.mem_of_getElem? (i := 454) (by decide +kernel), List.mem_of_getElem? (i := 455) (by decide +kernel)⟩
theorem lw_p4 : lw_okq (⟨"HuntTable$WorthReader", "readClause", "()Z"⟩, 3) := ⟨⟨by decide +kernel, by decide +kernel⟩, List.mem_of_getElem? (i := 92) (by decide +kernel), List.mem_of_getElem? (i := 500) (by decide +kernel), List.mem_of_getElem? (i := 501) (by decide +kernel)⟩
theorem lw_p5 : lw_okq (⟨"HuntTable$WorthReader", "readCondition", "(I)Z"⟩, 3) := ⟨⟨by decide +kernel, by decide +kernel⟩, List.mem_of_getElem? (i := 92) (by decide +kernel), List.mem_of_getElem? (i := 506) (by decide +kernel), List.mem_of_getElem? (i := 507) (by decide +kernel)⟩
theorem lw_p6 : lw_okq (⟨"HuntTable$WorthReader", "readTruth", "(I)Z"⟩, 3) := ⟨⟨by decide +kernel, by decide +kernel⟩, List.mem_of_getElem? (i := 92) (by decide +kernel), List.mem_of_getElem? (i := 510) (by decide +kernel), List.mem_of_getElem? (i := 511) (by decide +kernel)⟩
theorem lw_p7 : lw_okq (⟨"HuntTable$WorthReader", "readUnit", "(I)Z"⟩, 3) := ⟨⟨by decide +kernel, by decide +kernel⟩, List.mem_of_getElem? (i := 92) (by decide +kernel), List.mem_of_getElem? (i := 514) (by decide +kernel), List.mem_of_getElem? (i := 515) (by decide +kernel)⟩
theorem lw_p8 : lw_okq (⟨"HuntTable$WorthReader", "readSum", "(I)Z"⟩, 3) := ⟨⟨by decide +kernel, by decide +kernel⟩, List.mem_of_getElem? (i := 92) (by decide +kernel), List.mem_of_getElem? (i := 518) (by decide +kernel), List.mem_of_getElem? (i := 519) (by decide +kernel)⟩
theorem lw_p9 : lw_okq (⟨"HuntTable$WorthReader", "readTerm", "(I)Z"⟩, 3) := ⟨⟨by decide +kernel, by decide +kernel⟩, List.mem_of_getElem? (i := 92) (by decide +kernel), List.mem_of_getElem? (i := 522) (by decide +kernel), List.mem_of_getElem? (i := 523) (by decide +kernel)⟩
theorem lw_p10 : lw_okq (⟨"HuntTable$WorthReader", "readAtom", "(I)Z"⟩, 3) := ⟨⟨by decide +kernel, by decide +kernel⟩, List.mem_of_getElem? (i := 92) (by decide +kernel), List.mem_of_getElem? (i := 526) (by decide +kernel), List.mem_of_getElem? (i := 527) (by decide +kernel)⟩
theorem lw_p11 : lw_okq (⟨"HuntTable$WorthReader", "write", "(I)Z"⟩, 3) := ⟨⟨by decide +kernel, by decide +kernel⟩, List.mem_of_getElem? (i := 92) (by decide +kernel), List.mem_of_getElem? (i := 534) (by decide +kernel), List.mem_of_getElem? (i := 535) (by decide +kernel)⟩
theorem lw_p12 : lw_okq (⟨"HuntTable$WorthReader", "readComparison", "(I)Z"⟩, 3) := ⟨⟨by decide +kernel, by decide +kernel⟩, List.mem_of_getElem? (i := 92) (by decide +kernel), List.mem_of_getElem? (i := 539) (by decide +kernel), List.mem_of_getElem? (i := 540) (by decide +kernel)⟩
theorem lw_p13 : lw_okq (⟨"HuntTable$WorthReader", "readMoreUnits", "(I)Z"⟩, 3) := ⟨⟨by decide +kernel, by decide +kernel⟩, List.mem_of_getElem? (i := 92) (by decide +kernel), List.mem_of_getElem? (i := 546) (by decide +kernel), List.mem_of_getElem? (i := 547) (by decide +kernel)⟩
theorem lw_p14 : lw_okq (⟨"HuntTable$WorthReader", "readMoreTruths", "(I)Z"⟩, 3) := ⟨⟨by decide +kernel, by decide +kernel⟩, List.mem_of_getElem? (i := 92) (by decide +kernel), List.mem_of_getElem? (i := 550) (by decide +kernel), List.mem_of_getElem? (i := 551) (by decide +kernel)⟩
theorem lw_p15 : lw_okq (⟨"HuntTable$WorthReader", "readWhatFollowsCondition", "()Z"⟩, 3) := ⟨⟨by decide +kernel, by decide +kernel⟩, List.mem_of_getElem? (i := 92) (by decide +kernel), List.mem_of_getElem? (i := 554) (by decide +kernel), List.mem_of_getElem? (i := 555) (by decide +kernel)⟩
def lw_privs_1 : List (MethodName × Nat) := [(⟨"HuntTable$HuntReader", "readClause", "()Z"⟩, 3), (⟨"HuntTable$HuntReader", "addClause", "(I)Z"⟩, 3), (⟨"HuntTable$HuntReader", "readItems", "(I)Z"⟩, 3), (⟨"HuntTable$HuntReader", "readValue", "(I)Z"⟩, 3), (⟨"HuntTable$WorthReader", "readClause", "()Z"⟩, 3), (⟨"HuntTable$WorthReader", "readCondition", "(I)Z"⟩, 3), (⟨"HuntTable$WorthReader", "readTruth", "(I)Z"⟩, 3), (⟨"HuntTable$WorthReader", "readUnit", "(I)Z"⟩, 3), (⟨"HuntTable$WorthReader", "readSum", "(I)Z"⟩, 3), (⟨"HuntTable$WorthReader", "readTerm", "(I)Z"⟩, 3), (⟨"HuntTable$WorthReader", "readAtom", "(I)Z"⟩, 3), (⟨"HuntTable$WorthReader", "write", "(I)Z"⟩, 3), (⟨"HuntTable$WorthReader", "readComparison", "(I)Z"⟩, 3), (⟨"HuntTable$WorthReader", "readMoreUnits", "(I)Z"⟩, 3), (⟨"HuntTable$WorthReader", "readMoreTruths", "(I)Z"⟩, 3), (⟨"HuntTable$WorthReader", "readWhatFollowsCondition", "()Z"⟩, 3)]
theorem lw_r1 : ∀ q ∈ lw_privs_1, lw_okq q := List.forall_mem_cons.mpr ⟨lw_p0, List.forall_mem_cons.mpr ⟨lw_p1, List.forall_mem_cons.mpr ⟨lw_p2, List.forall_mem_cons.mpr ⟨lw_p3, List.forall_mem_cons.mpr ⟨lw_p4, List.forall_mem_cons.mpr ⟨lw_p5, List.forall_mem_cons.mpr ⟨lw_p6, List.forall_mem_cons.mpr ⟨lw_p7, List.forall_mem_cons.mpr ⟨lw_p8, List.forall_mem_cons.mpr ⟨lw_p9, List.forall_mem_cons.mpr ⟨lw_p10, List.forall_mem_cons.mpr ⟨lw_p11, List.forall_mem_cons.mpr ⟨lw_p12, List.forall_mem_cons.mpr ⟨lw_p13, List.forall_mem_cons.mpr ⟨lw_p14, List.forall_mem_cons.mpr ⟨lw_p15, fun _ h => absurd h List.not_mem_nil⟩⟩⟩⟩⟩⟩⟩⟩⟩⟩⟩⟩⟩⟩⟩⟩
theorem lw_p16 : lw_okq (⟨"HuntTable$Past", "keepOrders", "([I)V"⟩, 8) := ⟨⟨by decide +kernel, by decide +kernel⟩, List.mem_of_getElem? (i := 157) (by decide +kernel), List.mem_of_getElem? (i := 657) (by decide +kernel), List.mem_of_getElem? (i := 658) (by decide +kernel)⟩
theorem lw_p17 : lw_okq (⟨"HuntTable$Past", "bringOrders", "([I)V"⟩, 8) := ⟨⟨by decide +kernel, by decide +kernel⟩, List.mem_of_getElem? (i := 157) (by decide +kernel), List.mem_of_getElem? (i := 696) (by decide +kernel), List.mem_of_getElem? (i := 697) (by decide +kernel)⟩
theorem lw_p18 : lw_okq (⟨"HuntTable$Table", "inOneLine", "(II)Z"⟩, 4) := ⟨⟨by decide +kernel, by decide +kernel⟩, List.mem_of_getElem? (i := 137) (by decide +kernel), List.mem_of_getElem? (i := 794) (by decide +kernel), List.mem_of_getElem? (i := 795) (by decide +kernel)⟩
theorem lw_p19 : lw_okq (⟨"HuntTable$Worths", "run", "([II)I"⟩, 6) := ⟨⟨by decide +kernel, by decide +kernel⟩, List.mem_of_getElem? (i := 110) (by decide +kernel), List.mem_of_getElem? (i := 837) (by decide +kernel), List.mem_of_getElem? (i := 838) (by decide +kernel)⟩
theorem lw_p20 : lw_okq (⟨"HuntTable$Worths", "letterValue", "(I)I"⟩, 6) := ⟨⟨by decide +kernel, by decide +kernel⟩, List.mem_of_getElem? (i := 110) (by decide +kernel), List.mem_of_getElem? (i := 841) (by decide +kernel), List.mem_of_getElem? (i := 842) (by decide +kernel)⟩
theorem lw_p21 : lw_okq (⟨"HuntTable$Worths", "join", "(II)I"⟩, 6) := ⟨⟨by decide +kernel, by decide +kernel⟩, List.mem_of_getElem? (i := 110) (by decide +kernel), List.mem_of_getElem? (i := 845) (by decide +kernel), List.mem_of_getElem? (i := 846) (by decide +kernel)⟩
theorem lw_p22 : lw_okq (⟨"HuntTable$Clock", "clashOf", "(II)I"⟩, 8) := ⟨⟨by decide +kernel, by decide +kernel⟩, List.mem_of_getElem? (i := 189) (by decide +kernel), List.mem_of_getElem? (i := 899) (by decide +kernel), List.mem_of_getElem? (i := 900) (by decide +kernel)⟩
theorem lw_p23 : lw_okq (⟨"HuntTable$Clock", "clashesByStarts", "(II)I"⟩, 8) := ⟨⟨by decide +kernel, by decide +kernel⟩, List.mem_of_getElem? (i := 189) (by decide +kernel), List.mem_of_getElem? (i := 917) (by decide +kernel), List.mem_of_getElem? (i := 918) (by decide +kernel)⟩
theorem lw_p24 : lw_okq (⟨"HuntTable$Clock", "seekStartOf", "(III)V"⟩, 8) := ⟨⟨by decide +kernel, by decide +kernel⟩, List.mem_of_getElem? (i := 189) (by decide +kernel), List.mem_of_getElem? (i := 921) (by decide +kernel), List.mem_of_getElem? (i := 922) (by decide +kernel)⟩
theorem lw_p25 : lw_okq (⟨"HuntTable$Clock", "startsApart", "(II)Z"⟩, 8) := ⟨⟨by decide +kernel, by decide +kernel⟩, List.mem_of_getElem? (i := 189) (by decide +kernel), List.mem_of_getElem? (i := 925) (by decide +kernel), List.mem_of_getElem? (i := 926) (by decide +kernel)⟩
theorem lw_p26 : lw_okq (⟨"HuntTable$OrderSearch", "goSoon", "(IIIII)V"⟩, 9) := ⟨⟨by decide +kernel, by decide +kernel⟩, List.mem_of_getElem? (i := 221) (by decide +kernel), List.mem_of_getElem? (i := 947) (by decide +kernel), List.mem_of_getElem? (i := 948) (by decide +kernel)⟩
theorem lw_p27 : lw_okq (⟨"HuntTable$OrderSearch", "keep", "(II)V"⟩, 9) := ⟨⟨by decide +kernel, by decide +kernel⟩, List.mem_of_getElem? (i := 221) (by decide +kernel), List.mem_of_getElem? (i := 953) (by decide +kernel), List.mem_of_getElem? (i := 954) (by decide +kernel)⟩
theorem lw_p28 : lw_okq (⟨"HuntTable$OrderSearch", "placesOfOthers", "(I)I"⟩, 9) := ⟨⟨by decide +kernel, by decide +kernel⟩, List.mem_of_getElem? (i := 221) (by decide +kernel), List.mem_of_getElem? (i := 978) (by decide +kernel), List.mem_of_getElem? (i := 979) (by decide +kernel)⟩
theorem lw_p29 : lw_okq (⟨"HuntTable$OrderSearch", "goRich", "(IIIIII)V"⟩, 9) := ⟨⟨by decide +kernel, by decide +kernel⟩, List.mem_of_getElem? (i := 221) (by decide +kernel), List.mem_of_getElem? (i := 984) (by decide +kernel), List.mem_of_getElem? (i := 985) (by decide +kernel)⟩
theorem lw_p30 : lw_okq (⟨"HuntTable$Finds", "waysThrough", "([I)I"⟩, 14) := ⟨⟨by decide +kernel, by decide +kernel⟩, List.mem_of_getElem? (i := 255) (by decide +kernel), List.mem_of_getElem? (i := 1013) (by decide +kernel), List.mem_of_getElem? (i := 1014) (by decide +kernel)⟩
theorem lw_p31 : lw_okq (⟨"HuntTable$Finds", "seekTables", "()V"⟩, 14) := ⟨⟨by decide +kernel, by decide +kernel⟩, List.mem_of_getElem? (i := 255) (by decide +kernel), List.mem_of_getElem? (i := 1031) (by decide +kernel), List.mem_of_getElem? (i := 1032) (by decide +kernel)⟩
def lw_privs_2 : List (MethodName × Nat) := [(⟨"HuntTable$Past", "keepOrders", "([I)V"⟩, 8), (⟨"HuntTable$Past", "bringOrders", "([I)V"⟩, 8), (⟨"HuntTable$Table", "inOneLine", "(II)Z"⟩, 4), (⟨"HuntTable$Worths", "run", "([II)I"⟩, 6), (⟨"HuntTable$Worths", "letterValue", "(I)I"⟩, 6), (⟨"HuntTable$Worths", "join", "(II)I"⟩, 6), (⟨"HuntTable$Clock", "clashOf", "(II)I"⟩, 8), (⟨"HuntTable$Clock", "clashesByStarts", "(II)I"⟩, 8), (⟨"HuntTable$Clock", "seekStartOf", "(III)V"⟩, 8), (⟨"HuntTable$Clock", "startsApart", "(II)Z"⟩, 8), (⟨"HuntTable$OrderSearch", "goSoon", "(IIIII)V"⟩, 9), (⟨"HuntTable$OrderSearch", "keep", "(II)V"⟩, 9), (⟨"HuntTable$OrderSearch", "placesOfOthers", "(I)I"⟩, 9), (⟨"HuntTable$OrderSearch", "goRich", "(IIIIII)V"⟩, 9), (⟨"HuntTable$Finds", "waysThrough", "([I)I"⟩, 14), (⟨"HuntTable$Finds", "seekTables", "()V"⟩, 14)]
theorem lw_r2 : ∀ q ∈ lw_privs_2, lw_okq q := List.forall_mem_cons.mpr ⟨lw_p16, List.forall_mem_cons.mpr ⟨lw_p17, List.forall_mem_cons.mpr ⟨lw_p18, List.forall_mem_cons.mpr ⟨lw_p19, List.forall_mem_cons.mpr ⟨lw_p20, List.forall_mem_cons.mpr ⟨lw_p21, List.forall_mem_cons.mpr ⟨lw_p22, List.forall_mem_cons.mpr ⟨lw_p23, List.forall_mem_cons.mpr ⟨lw_p24, List.forall_mem_cons.mpr ⟨lw_p25, List.forall_mem_cons.mpr ⟨lw_p26, List.forall_mem_cons.mpr ⟨lw_p27, List.forall_mem_cons.mpr ⟨lw_p28, List.forall_mem_cons.mpr ⟨lw_p29, List.forall_mem_cons.mpr ⟨lw_p30, List.forall_mem_cons.mpr ⟨lw_p31, fun _ h => absurd h List.not_mem_nil⟩⟩⟩⟩⟩⟩⟩⟩⟩⟩⟩⟩⟩⟩⟩⟩
theorem lw_p32 : lw_okq (⟨"HuntTable$Finds", "clearSearch", "()V"⟩, 14) := ⟨⟨by decide +kernel, by decide +kernel⟩, List.mem_of_getElem? (i := 255) (by decide +kernel), List.mem_of_getElem? (i := 1036) (by decide +kernel), List.mem_of_getElem? (i := 1037) (by decide +kernel)⟩
theorem lw_p33 : lw_okq (⟨"HuntTable$Finds", "someAreLawful", "()Z"⟩, 14) := ⟨⟨by decide +kernel, by decide +kernel⟩, List.mem_of_getElem? (i := 255) (by decide +kernel), List.mem_of_getElem? (i := 1040) (by decide +kernel), List.mem_of_getElem? (i := 1041) (by decide +kernel)⟩
theorem lw_p34 : lw_okq (⟨"HuntTable$Finds", "fillIfItCanBe", "(I)V"⟩, 14) := ⟨⟨by decide +kernel, by decide +kernel⟩, List.mem_of_getElem? (i := 255) (by decide +kernel), List.mem_of_getElem? (i := 1044) (by decide +kernel), List.mem_of_getElem? (i := 1045) (by decide +kernel)⟩
theorem lw_p35 : lw_okq (⟨"HuntTable$Finds", "shutWhereOthersMustBe", "()V"⟩, 14) := ⟨⟨by decide +kernel, by decide +kernel⟩, List.mem_of_getElem? (i := 255) (by decide +kernel), List.mem_of_getElem? (i := 1048) (by decide +kernel), List.mem_of_getElem? (i := 1049) (by decide +kernel)⟩
theorem lw_p36 : lw_okq (⟨"HuntTable$Finds", "shutElsewhere", "(II)Z"⟩, 14) := ⟨⟨by decide +kernel, by decide +kernel⟩, List.mem_of_getElem? (i := 255) (by decide +kernel), List.mem_of_getElem? (i := 1052) (by decide +kernel), List.mem_of_getElem? (i := 1053) (by decide +kernel)⟩
theorem lw_p37 : lw_okq (⟨"HuntTable$Finds", "fill", "(II)V"⟩, 14) := ⟨⟨by decide +kernel, by decide +kernel⟩, List.mem_of_getElem? (i := 255) (by decide +kernel), List.mem_of_getElem? (i := 1056) (by decide +kernel), List.mem_of_getElem? (i := 1057) (by decide +kernel)⟩
theorem lw_p38 : lw_okq (⟨"HuntTable$Finds", "keepTable", "()V"⟩, 14) := ⟨⟨by decide +kernel, by decide +kernel⟩, List.mem_of_getElem? (i := 255) (by decide +kernel), List.mem_of_getElem? (i := 1060) (by decide +kernel), List.mem_of_getElem? (i := 1061) (by decide +kernel)⟩
theorem lw_p39 : lw_okq (⟨"HuntTable$Finds", "mayFollow", "(II)Z"⟩, 14) := ⟨⟨by decide +kernel, by decide +kernel⟩, List.mem_of_getElem? (i := 255) (by decide +kernel), List.mem_of_getElem? (i := 1064) (by decide +kernel), List.mem_of_getElem? (i := 1065) (by decide +kernel)⟩
theorem lw_p40 : lw_okq (⟨"HuntTable$Finds", "set", "(III)V"⟩, 14) := ⟨⟨by decide +kernel, by decide +kernel⟩, List.mem_of_getElem? (i := 255) (by decide +kernel), List.mem_of_getElem? (i := 1069) (by decide +kernel), List.mem_of_getElem? (i := 1070) (by decide +kernel)⟩
theorem lw_p41 : lw_okq (⟨"HuntTable$Finds", "follow", "(III)V"⟩, 14) := ⟨⟨by decide +kernel, by decide +kernel⟩, List.mem_of_getElem? (i := 255) (by decide +kernel), List.mem_of_getElem? (i := 1073) (by decide +kernel), List.mem_of_getElem? (i := 1074) (by decide +kernel)⟩
theorem lw_p42 : lw_okq (⟨"HuntTable$Finds", "unset", "(IIII)V"⟩, 14) := ⟨⟨by decide +kernel, by decide +kernel⟩, List.mem_of_getElem? (i := 255) (by decide +kernel), List.mem_of_getElem? (i := 1077) (by decide +kernel), List.mem_of_getElem? (i := 1078) (by decide +kernel)⟩
theorem lw_p43 : lw_okq (⟨"HuntTable$Finds", "openWhatIsLeft", "()V"⟩, 14) := ⟨⟨by decide +kernel, by decide +kernel⟩, List.mem_of_getElem? (i := 255) (by decide +kernel), List.mem_of_getElem? (i := 1081) (by decide +kernel), List.mem_of_getElem? (i := 1082) (by decide +kernel)⟩
theorem lw_p44 : lw_okq (⟨"HuntTable$HelperCount", "fillReach", "(I)V"⟩, 11) := ⟨⟨by decide +kernel, by decide +kernel⟩, List.mem_of_getElem? (i := 305) (by decide +kernel), List.mem_of_getElem? (i := 1105) (by decide +kernel), List.mem_of_getElem? (i := 1106) (by decide +kernel)⟩
theorem lw_p45 : lw_okq (⟨"HuntTable$HelperCount", "oneMoveMore", "(III)I"⟩, 11) := ⟨⟨by decide +kernel, by decide +kernel⟩, List.mem_of_getElem? (i := 305) (by decide +kernel), List.mem_of_getElem? (i := 1110) (by decide +kernel), List.mem_of_getElem? (i := 1111) (by decide +kernel)⟩
theorem lw_p46 : lw_okq (⟨"HuntTable$HelperCount", "gatherDuties", "()V"⟩, 11) := ⟨⟨by decide +kernel, by decide +kernel⟩, List.mem_of_getElem? (i := 305) (by decide +kernel), List.mem_of_getElem? (i := 1115) (by decide +kernel), List.mem_of_getElem? (i := 1116) (by decide +kernel)⟩
theorem lw_p47 : lw_okq (⟨"HuntTable$HelperCount", "joinOneMore", "(I)Z"⟩, 11) := ⟨⟨by decide +kernel, by decide +kernel⟩, List.mem_of_getElem? (i := 305) (by decide +kernel), List.mem_of_getElem? (i := 1120) (by decide +kernel), List.mem_of_getElem? (i := 1121) (by decide +kernel)⟩
def lw_privs_3 : List (MethodName × Nat) := [(⟨"HuntTable$Finds", "clearSearch", "()V"⟩, 14), (⟨"HuntTable$Finds", "someAreLawful", "()Z"⟩, 14), (⟨"HuntTable$Finds", "fillIfItCanBe", "(I)V"⟩, 14), (⟨"HuntTable$Finds", "shutWhereOthersMustBe", "()V"⟩, 14), (⟨"HuntTable$Finds", "shutElsewhere", "(II)Z"⟩, 14), (⟨"HuntTable$Finds", "fill", "(II)V"⟩, 14), (⟨"HuntTable$Finds", "keepTable", "()V"⟩, 14), (⟨"HuntTable$Finds", "mayFollow", "(II)Z"⟩, 14), (⟨"HuntTable$Finds", "set", "(III)V"⟩, 14), (⟨"HuntTable$Finds", "follow", "(III)V"⟩, 14), (⟨"HuntTable$Finds", "unset", "(IIII)V"⟩, 14), (⟨"HuntTable$Finds", "openWhatIsLeft", "()V"⟩, 14), (⟨"HuntTable$HelperCount", "fillReach", "(I)V"⟩, 11), (⟨"HuntTable$HelperCount", "oneMoveMore", "(III)I"⟩, 11), (⟨"HuntTable$HelperCount", "gatherDuties", "()V"⟩, 11), (⟨"HuntTable$HelperCount", "joinOneMore", "(I)Z"⟩, 11)]
theorem lw_r3 : ∀ q ∈ lw_privs_3, lw_okq q := List.forall_mem_cons.mpr ⟨lw_p32, List.forall_mem_cons.mpr ⟨lw_p33, List.forall_mem_cons.mpr ⟨lw_p34, List.forall_mem_cons.mpr ⟨lw_p35, List.forall_mem_cons.mpr ⟨lw_p36, List.forall_mem_cons.mpr ⟨lw_p37, List.forall_mem_cons.mpr ⟨lw_p38, List.forall_mem_cons.mpr ⟨lw_p39, List.forall_mem_cons.mpr ⟨lw_p40, List.forall_mem_cons.mpr ⟨lw_p41, List.forall_mem_cons.mpr ⟨lw_p42, List.forall_mem_cons.mpr ⟨lw_p43, List.forall_mem_cons.mpr ⟨lw_p44, List.forall_mem_cons.mpr ⟨lw_p45, List.forall_mem_cons.mpr ⟨lw_p46, List.forall_mem_cons.mpr ⟨lw_p47, fun _ h => absurd h List.not_mem_nil⟩⟩⟩⟩⟩⟩⟩⟩⟩⟩⟩⟩⟩⟩⟩⟩
theorem lw_p48 : lw_okq (⟨"HuntTable$HelperCount", "lookFrom", "(I)I"⟩, 11) := ⟨⟨by decide +kernel, by decide +kernel⟩, List.mem_of_getElem? (i := 305) (by decide +kernel), List.mem_of_getElem? (i := 1124) (by decide +kernel), List.mem_of_getElem? (i := 1125) (by decide +kernel)⟩
theorem lw_p49 : lw_okq (⟨"HuntTable$HelperCount", "canJoin", "(II)Z"⟩, 11) := ⟨⟨by decide +kernel, by decide +kernel⟩, List.mem_of_getElem? (i := 305) (by decide +kernel), List.mem_of_getElem? (i := 1128) (by decide +kernel), List.mem_of_getElem? (i := 1129) (by decide +kernel)⟩
theorem lw_p50 : lw_okq (⟨"HuntTable$HelperCount", "giveWay", "(I)V"⟩, 11) := ⟨⟨by decide +kernel, by decide +kernel⟩, List.mem_of_getElem? (i := 305) (by decide +kernel), List.mem_of_getElem? (i := 1132) (by decide +kernel), List.mem_of_getElem? (i := 1133) (by decide +kernel)⟩
theorem lw_p51 : lw_okq (⟨"HuntTable$Table", "drawOrder", "([I)V"⟩, 4) := ⟨⟨by decide +kernel, by decide +kernel⟩, List.mem_of_getElem? (i := 137) (by decide +kernel), List.mem_of_getElem? (i := 1155) (by decide +kernel), List.mem_of_getElem? (i := 1156) (by decide +kernel)⟩
theorem lw_p52 : lw_okq (⟨"HuntTable$Table", "nextDraw", "(I)I"⟩, 4) := ⟨⟨by decide +kernel, by decide +kernel⟩, List.mem_of_getElem? (i := 137) (by decide +kernel), List.mem_of_getElem? (i := 1160) (by decide +kernel), List.mem_of_getElem? (i := 1161) (by decide +kernel)⟩
theorem lw_p53 : lw_okq (⟨"java/lang/Throwable", "fillInStackTrace", "(I)Ljava/lang/Throwable;"⟩, 6) := ⟨⟨by decide +kernel, by decide +kernel⟩, List.mem_of_getElem? (i := 1261) (by decide +kernel), List.mem_of_getElem? (i := 1259) (by decide +kernel), List.mem_of_getElem? (i := 1260) (by decide +kernel)⟩
theorem lw_p54 : lw_okq (⟨"HuntTableModel", "readHunt", "()I"⟩, 58) := ⟨⟨by decide +kernel, by decide +kernel⟩, List.mem_of_getElem? (i := 1288) (by decide +kernel), List.mem_of_getElem? (i := 1489) (by decide +kernel), List.mem_of_getElem? (i := 1490) (by decide +kernel)⟩
theorem lw_p55 : lw_okq (⟨"HuntTableModel", "look", "()I"⟩, 58) := ⟨⟨by decide +kernel, by decide +kernel⟩, List.mem_of_getElem? (i := 1288) (by decide +kernel), List.mem_of_getElem? (i := 1493) (by decide +kernel), List.mem_of_getElem? (i := 1494) (by decide +kernel)⟩
theorem lw_p56 : lw_okq (⟨"HuntTableModel", "here", "()I"⟩, 58) := ⟨⟨by decide +kernel, by decide +kernel⟩, List.mem_of_getElem? (i := 1288) (by decide +kernel), List.mem_of_getElem? (i := 1497) (by decide +kernel), List.mem_of_getElem? (i := 1498) (by decide +kernel)⟩
theorem lw_p57 : lw_okq (⟨"HuntTableModel", "placeText", "()V"⟩, 58) := ⟨⟨by decide +kernel, by decide +kernel⟩, List.mem_of_getElem? (i := 1288) (by decide +kernel), List.mem_of_getElem? (i := 1501) (by decide +kernel), List.mem_of_getElem? (i := 1502) (by decide +kernel)⟩
theorem lw_p58 : lw_okq (⟨"HuntTableModel", "number", "(II)I"⟩, 58) := ⟨⟨by decide +kernel, by decide +kernel⟩, List.mem_of_getElem? (i := 1288) (by decide +kernel), List.mem_of_getElem? (i := 1508) (by decide +kernel), List.mem_of_getElem? (i := 1509) (by decide +kernel)⟩
theorem lw_p59 : lw_okq (⟨"HuntTableModel", "bad", "()V"⟩, 58) := ⟨⟨by decide +kernel, by decide +kernel⟩, List.mem_of_getElem? (i := 1288) (by decide +kernel), List.mem_of_getElem? (i := 1515) (by decide +kernel), List.mem_of_getElem? (i := 1516) (by decide +kernel)⟩
theorem lw_p60 : lw_okq (⟨"HuntTableModel", "bandText", "()V"⟩, 58) := ⟨⟨by decide +kernel, by decide +kernel⟩, List.mem_of_getElem? (i := 1288) (by decide +kernel), List.mem_of_getElem? (i := 1522) (by decide +kernel), List.mem_of_getElem? (i := 1523) (by decide +kernel)⟩
theorem lw_p61 : lw_okq (⟨"HuntTableModel", "lawText", "()V"⟩, 58) := ⟨⟨by decide +kernel, by decide +kernel⟩, List.mem_of_getElem? (i := 1288) (by decide +kernel), List.mem_of_getElem? (i := 1526) (by decide +kernel), List.mem_of_getElem? (i := 1527) (by decide +kernel)⟩
theorem lw_p62 : lw_okq (⟨"HuntTableModel", "readLaw", "(I)I"⟩, 58) := ⟨⟨by decide +kernel, by decide +kernel⟩, List.mem_of_getElem? (i := 1288) (by decide +kernel), List.mem_of_getElem? (i := 1530) (by decide +kernel), List.mem_of_getElem? (i := 1531) (by decide +kernel)⟩
theorem lw_p63 : lw_okq (⟨"HuntTableModel", "open", "(I)V"⟩, 58) := ⟨⟨by decide +kernel, by decide +kernel⟩, List.mem_of_getElem? (i := 1288) (by decide +kernel), List.mem_of_getElem? (i := 1534) (by decide +kernel), List.mem_of_getElem? (i := 1535) (by decide +kernel)⟩
def lw_privs_4 : List (MethodName × Nat) := [(⟨"HuntTable$HelperCount", "lookFrom", "(I)I"⟩, 11), (⟨"HuntTable$HelperCount", "canJoin", "(II)Z"⟩, 11), (⟨"HuntTable$HelperCount", "giveWay", "(I)V"⟩, 11), (⟨"HuntTable$Table", "drawOrder", "([I)V"⟩, 4), (⟨"HuntTable$Table", "nextDraw", "(I)I"⟩, 4), (⟨"java/lang/Throwable", "fillInStackTrace", "(I)Ljava/lang/Throwable;"⟩, 6), (⟨"HuntTableModel", "readHunt", "()I"⟩, 58), (⟨"HuntTableModel", "look", "()I"⟩, 58), (⟨"HuntTableModel", "here", "()I"⟩, 58), (⟨"HuntTableModel", "placeText", "()V"⟩, 58), (⟨"HuntTableModel", "number", "(II)I"⟩, 58), (⟨"HuntTableModel", "bad", "()V"⟩, 58), (⟨"HuntTableModel", "bandText", "()V"⟩, 58), (⟨"HuntTableModel", "lawText", "()V"⟩, 58), (⟨"HuntTableModel", "readLaw", "(I)I"⟩, 58), (⟨"HuntTableModel", "open", "(I)V"⟩, 58)]
theorem lw_r4 : ∀ q ∈ lw_privs_4, lw_okq q := List.forall_mem_cons.mpr ⟨lw_p48, List.forall_mem_cons.mpr ⟨lw_p49, List.forall_mem_cons.mpr ⟨lw_p50, List.forall_mem_cons.mpr ⟨lw_p51, List.forall_mem_cons.mpr ⟨lw_p52, List.forall_mem_cons.mpr ⟨lw_p53, List.forall_mem_cons.mpr ⟨lw_p54, List.forall_mem_cons.mpr ⟨lw_p55, List.forall_mem_cons.mpr ⟨lw_p56, List.forall_mem_cons.mpr ⟨lw_p57, List.forall_mem_cons.mpr ⟨lw_p58, List.forall_mem_cons.mpr ⟨lw_p59, List.forall_mem_cons.mpr ⟨lw_p60, List.forall_mem_cons.mpr ⟨lw_p61, List.forall_mem_cons.mpr ⟨lw_p62, List.forall_mem_cons.mpr ⟨lw_p63, fun _ h => absurd h List.not_mem_nil⟩⟩⟩⟩⟩⟩⟩⟩⟩⟩⟩⟩⟩⟩⟩⟩
theorem lw_p64 : lw_okq (⟨"HuntTableModel", "clause", "()V"⟩, 58) := ⟨⟨by decide +kernel, by decide +kernel⟩, List.mem_of_getElem? (i := 1288) (by decide +kernel), List.mem_of_getElem? (i := 1538) (by decide +kernel), List.mem_of_getElem? (i := 1539) (by decide +kernel)⟩
theorem lw_p65 : lw_okq (⟨"HuntTableModel", "condition", "()V"⟩, 58) := ⟨⟨by decide +kernel, by decide +kernel⟩, List.mem_of_getElem? (i := 1288) (by decide +kernel), List.mem_of_getElem? (i := 1542) (by decide +kernel), List.mem_of_getElem? (i := 1543) (by decide +kernel)⟩
theorem lw_p66 : lw_okq (⟨"HuntTableModel", "unit", "()V"⟩, 58) := ⟨⟨by decide +kernel, by decide +kernel⟩, List.mem_of_getElem? (i := 1288) (by decide +kernel), List.mem_of_getElem? (i := 1546) (by decide +kernel), List.mem_of_getElem? (i := 1547) (by decide +kernel)⟩
theorem lw_p67 : lw_okq (⟨"HuntTableModel", "opens", "()V"⟩, 58) := ⟨⟨by decide +kernel, by decide +kernel⟩, List.mem_of_getElem? (i := 1288) (by decide +kernel), List.mem_of_getElem? (i := 1550) (by decide +kernel), List.mem_of_getElem? (i := 1551) (by decide +kernel)⟩
theorem lw_p68 : lw_okq (⟨"HuntTableModel", "put", "(II)V"⟩, 58) := ⟨⟨by decide +kernel, by decide +kernel⟩, List.mem_of_getElem? (i := 1288) (by decide +kernel), List.mem_of_getElem? (i := 1554) (by decide +kernel), List.mem_of_getElem? (i := 1555) (by decide +kernel)⟩
theorem lw_p69 : lw_okq (⟨"HuntTableModel", "closes", "(I)V"⟩, 58) := ⟨⟨by decide +kernel, by decide +kernel⟩, List.mem_of_getElem? (i := 1288) (by decide +kernel), List.mem_of_getElem? (i := 1558) (by decide +kernel), List.mem_of_getElem? (i := 1559) (by decide +kernel)⟩
theorem lw_p70 : lw_okq (⟨"HuntTableModel", "sum", "()V"⟩, 58) := ⟨⟨by decide +kernel, by decide +kernel⟩, List.mem_of_getElem? (i := 1288) (by decide +kernel), List.mem_of_getElem? (i := 1562) (by decide +kernel), List.mem_of_getElem? (i := 1563) (by decide +kernel)⟩
theorem lw_p71 : lw_okq (⟨"HuntTableModel", "term", "()V"⟩, 58) := ⟨⟨by decide +kernel, by decide +kernel⟩, List.mem_of_getElem? (i := 1288) (by decide +kernel), List.mem_of_getElem? (i := 1566) (by decide +kernel), List.mem_of_getElem? (i := 1567) (by decide +kernel)⟩
theorem lw_p72 : lw_okq (⟨"HuntTableModel", "atom", "()V"⟩, 58) := ⟨⟨by decide +kernel, by decide +kernel⟩, List.mem_of_getElem? (i := 1288) (by decide +kernel), List.mem_of_getElem? (i := 1570) (by decide +kernel), List.mem_of_getElem? (i := 1571) (by decide +kernel)⟩
theorem lw_p73 : lw_okq (⟨"HuntTableModel", "plainNumber", "()I"⟩, 58) := ⟨⟨by decide +kernel, by decide +kernel⟩, List.mem_of_getElem? (i := 1288) (by decide +kernel), List.mem_of_getElem? (i := 1574) (by decide +kernel), List.mem_of_getElem? (i := 1575) (by decide +kernel)⟩
theorem lw_p74 : lw_okq (⟨"HuntTableModel", "compare", "()V"⟩, 58) := ⟨⟨by decide +kernel, by decide +kernel⟩, List.mem_of_getElem? (i := 1288) (by decide +kernel), List.mem_of_getElem? (i := 1581) (by decide +kernel), List.mem_of_getElem? (i := 1582) (by decide +kernel)⟩
theorem lw_p75 : lw_okq (⟨"HuntTableModel", "goOnAnd", "()V"⟩, 58) := ⟨⟨by decide +kernel, by decide +kernel⟩, List.mem_of_getElem? (i := 1288) (by decide +kernel), List.mem_of_getElem? (i := 1588) (by decide +kernel), List.mem_of_getElem? (i := 1589) (by decide +kernel)⟩
theorem lw_p76 : lw_okq (⟨"HuntTableModel", "goOnOr", "()V"⟩, 58) := ⟨⟨by decide +kernel, by decide +kernel⟩, List.mem_of_getElem? (i := 1288) (by decide +kernel), List.mem_of_getElem? (i := 1592) (by decide +kernel), List.mem_of_getElem? (i := 1593) (by decide +kernel)⟩
theorem lw_p77 : lw_okq (⟨"HuntTableModel", "atEnd", "()I"⟩, 58) := ⟨⟨by decide +kernel, by decide +kernel⟩, List.mem_of_getElem? (i := 1288) (by decide +kernel), List.mem_of_getElem? (i := 1596) (by decide +kernel), List.mem_of_getElem? (i := 1597) (by decide +kernel)⟩
theorem lw_p78 : lw_okq (⟨"HuntTableModel", "takeHunt", "()I"⟩, 58) := ⟨⟨by decide +kernel, by decide +kernel⟩, List.mem_of_getElem? (i := 1288) (by decide +kernel), List.mem_of_getElem? (i := 1604) (by decide +kernel), List.mem_of_getElem? (i := 1605) (by decide +kernel)⟩
theorem lw_p79 : lw_okq (⟨"HuntTableModel", "isPlace", "(I)Z"⟩, 58) := ⟨⟨by decide +kernel, by decide +kernel⟩, List.mem_of_getElem? (i := 1288) (by decide +kernel), List.mem_of_getElem? (i := 1612) (by decide +kernel), List.mem_of_getElem? (i := 1613) (by decide +kernel)⟩
def lw_privs_5 : List (MethodName × Nat) := [(⟨"HuntTableModel", "clause", "()V"⟩, 58), (⟨"HuntTableModel", "condition", "()V"⟩, 58), (⟨"HuntTableModel", "unit", "()V"⟩, 58), (⟨"HuntTableModel", "opens", "()V"⟩, 58), (⟨"HuntTableModel", "put", "(II)V"⟩, 58), (⟨"HuntTableModel", "closes", "(I)V"⟩, 58), (⟨"HuntTableModel", "sum", "()V"⟩, 58), (⟨"HuntTableModel", "term", "()V"⟩, 58), (⟨"HuntTableModel", "atom", "()V"⟩, 58), (⟨"HuntTableModel", "plainNumber", "()I"⟩, 58), (⟨"HuntTableModel", "compare", "()V"⟩, 58), (⟨"HuntTableModel", "goOnAnd", "()V"⟩, 58), (⟨"HuntTableModel", "goOnOr", "()V"⟩, 58), (⟨"HuntTableModel", "atEnd", "()I"⟩, 58), (⟨"HuntTableModel", "takeHunt", "()I"⟩, 58), (⟨"HuntTableModel", "isPlace", "(I)Z"⟩, 58)]
theorem lw_r5 : ∀ q ∈ lw_privs_5, lw_okq q := List.forall_mem_cons.mpr ⟨lw_p64, List.forall_mem_cons.mpr ⟨lw_p65, List.forall_mem_cons.mpr ⟨lw_p66, List.forall_mem_cons.mpr ⟨lw_p67, List.forall_mem_cons.mpr ⟨lw_p68, List.forall_mem_cons.mpr ⟨lw_p69, List.forall_mem_cons.mpr ⟨lw_p70, List.forall_mem_cons.mpr ⟨lw_p71, List.forall_mem_cons.mpr ⟨lw_p72, List.forall_mem_cons.mpr ⟨lw_p73, List.forall_mem_cons.mpr ⟨lw_p74, List.forall_mem_cons.mpr ⟨lw_p75, List.forall_mem_cons.mpr ⟨lw_p76, List.forall_mem_cons.mpr ⟨lw_p77, List.forall_mem_cons.mpr ⟨lw_p78, List.forall_mem_cons.mpr ⟨lw_p79, fun _ h => absurd h List.not_mem_nil⟩⟩⟩⟩⟩⟩⟩⟩⟩⟩⟩⟩⟩⟩⟩⟩
theorem lw_p80 : lw_okq (⟨"HuntTableModel", "isBand", "(I)Z"⟩, 58) := ⟨⟨by decide +kernel, by decide +kernel⟩, List.mem_of_getElem? (i := 1288) (by decide +kernel), List.mem_of_getElem? (i := 1620) (by decide +kernel), List.mem_of_getElem? (i := 1621) (by decide +kernel)⟩
theorem lw_p81 : lw_okq (⟨"HuntTableModel", "orderOf", "(I)I"⟩, 58) := ⟨⟨by decide +kernel, by decide +kernel⟩, List.mem_of_getElem? (i := 1288) (by decide +kernel), List.mem_of_getElem? (i := 1624) (by decide +kernel), List.mem_of_getElem? (i := 1625) (by decide +kernel)⟩
theorem lw_p82 : lw_okq (⟨"HuntTableModel", "of", "(II)I"⟩, 58) := ⟨⟨by decide +kernel, by decide +kernel⟩, List.mem_of_getElem? (i := 1288) (by decide +kernel), List.mem_of_getElem? (i := 1628) (by decide +kernel), List.mem_of_getElem? (i := 1629) (by decide +kernel)⟩
theorem lw_p83 : lw_okq (⟨"HuntTableModel", "isOrder", "(I)Z"⟩, 58) := ⟨⟨by decide +kernel, by decide +kernel⟩, List.mem_of_getElem? (i := 1288) (by decide +kernel), List.mem_of_getElem? (i := 1636) (by decide +kernel), List.mem_of_getElem? (i := 1637) (by decide +kernel)⟩
theorem lw_p84 : lw_okq (⟨"HuntTableModel", "nth", "(II)I"⟩, 58) := ⟨⟨by decide +kernel, by decide +kernel⟩, List.mem_of_getElem? (i := 1288) (by decide +kernel), List.mem_of_getElem? (i := 1640) (by decide +kernel), List.mem_of_getElem? (i := 1641) (by decide +kernel)⟩
theorem lw_p85 : lw_okq (⟨"HuntTableModel", "keep", "()V"⟩, 58) := ⟨⟨by decide +kernel, by decide +kernel⟩, List.mem_of_getElem? (i := 1288) (by decide +kernel), List.mem_of_getElem? (i := 1647) (by decide +kernel), List.mem_of_getElem? (i := 1648) (by decide +kernel)⟩
theorem lw_p86 : lw_okq (⟨"HuntTableModel", "write", "(II)V"⟩, 58) := ⟨⟨by decide +kernel, by decide +kernel⟩, List.mem_of_getElem? (i := 1288) (by decide +kernel), List.mem_of_getElem? (i := 1651) (by decide +kernel), List.mem_of_getElem? (i := 1652) (by decide +kernel)⟩
theorem lw_p87 : lw_okq (⟨"HuntTableModel", "followsOf", "(II)I"⟩, 58) := ⟨⟨by decide +kernel, by decide +kernel⟩, List.mem_of_getElem? (i := 1288) (by decide +kernel), List.mem_of_getElem? (i := 1675) (by decide +kernel), List.mem_of_getElem? (i := 1676) (by decide +kernel)⟩
theorem lw_p88 : lw_okq (⟨"HuntTableModel", "isLawful", "(I)Z"⟩, 58) := ⟨⟨by decide +kernel, by decide +kernel⟩, List.mem_of_getElem? (i := 1288) (by decide +kernel), List.mem_of_getElem? (i := 1683) (by decide +kernel), List.mem_of_getElem? (i := 1684) (by decide +kernel)⟩
theorem lw_p89 : lw_okq (⟨"HuntTableModel", "doMeet", "(II)Z"⟩, 58) := ⟨⟨by decide +kernel, by decide +kernel⟩, List.mem_of_getElem? (i := 1288) (by decide +kernel), List.mem_of_getElem? (i := 1687) (by decide +kernel), List.mem_of_getElem? (i := 1688) (by decide +kernel)⟩
theorem lw_p90 : lw_okq (⟨"HuntTableModel", "bandsAt", "(II)I"⟩, 58) := ⟨⟨by decide +kernel, by decide +kernel⟩, List.mem_of_getElem? (i := 1288) (by decide +kernel), List.mem_of_getElem? (i := 1695) (by decide +kernel), List.mem_of_getElem? (i := 1696) (by decide +kernel)⟩
theorem lw_p91 : lw_okq (⟨"HuntTableModel", "comesAt", "(II)I"⟩, 58) := ⟨⟨by decide +kernel, by decide +kernel⟩, List.mem_of_getElem? (i := 1288) (by decide +kernel), List.mem_of_getElem? (i := 1720) (by decide +kernel), List.mem_of_getElem? (i := 1721) (by decide +kernel)⟩
theorem lw_p92 : lw_okq (⟨"HuntTableModel", "ahead", "(II)I"⟩, 58) := ⟨⟨by decide +kernel, by decide +kernel⟩, List.mem_of_getElem? (i := 1288) (by decide +kernel), List.mem_of_getElem? (i := 1724) (by decide +kernel), List.mem_of_getElem? (i := 1725) (by decide +kernel)⟩
theorem lw_p93 : lw_okq (⟨"HuntTableModel", "steps", "(II)I"⟩, 58) := ⟨⟨by decide +kernel, by decide +kernel⟩, List.mem_of_getElem? (i := 1288) (by decide +kernel), List.mem_of_getElem? (i := 1728) (by decide +kernel), List.mem_of_getElem? (i := 1729) (by decide +kernel)⟩
theorem lw_p94 : lw_okq (⟨"HuntTableModel", "homeOf", "(I)I"⟩, 58) := ⟨⟨by decide +kernel, by decide +kernel⟩, List.mem_of_getElem? (i := 1288) (by decide +kernel), List.mem_of_getElem? (i := 1737) (by decide +kernel), List.mem_of_getElem? (i := 1738) (by decide +kernel)⟩
theorem lw_p95 : lw_okq (⟨"HuntTableModel", "pointsOf", "(I)I"⟩, 58) := ⟨⟨by decide +kernel, by decide +kernel⟩, List.mem_of_getElem? (i := 1288) (by decide +kernel), List.mem_of_getElem? (i := 1745) (by decide +kernel), List.mem_of_getElem? (i := 1746) (by decide +kernel)⟩
def lw_privs_6 : List (MethodName × Nat) := [(⟨"HuntTableModel", "isBand", "(I)Z"⟩, 58), (⟨"HuntTableModel", "orderOf", "(I)I"⟩, 58), (⟨"HuntTableModel", "of", "(II)I"⟩, 58), (⟨"HuntTableModel", "isOrder", "(I)Z"⟩, 58), (⟨"HuntTableModel", "nth", "(II)I"⟩, 58), (⟨"HuntTableModel", "keep", "()V"⟩, 58), (⟨"HuntTableModel", "write", "(II)V"⟩, 58), (⟨"HuntTableModel", "followsOf", "(II)I"⟩, 58), (⟨"HuntTableModel", "isLawful", "(I)Z"⟩, 58), (⟨"HuntTableModel", "doMeet", "(II)Z"⟩, 58), (⟨"HuntTableModel", "bandsAt", "(II)I"⟩, 58), (⟨"HuntTableModel", "comesAt", "(II)I"⟩, 58), (⟨"HuntTableModel", "ahead", "(II)I"⟩, 58), (⟨"HuntTableModel", "steps", "(II)I"⟩, 58), (⟨"HuntTableModel", "homeOf", "(I)I"⟩, 58), (⟨"HuntTableModel", "pointsOf", "(I)I"⟩, 58)]
theorem lw_r6 : ∀ q ∈ lw_privs_6, lw_okq q := List.forall_mem_cons.mpr ⟨lw_p80, List.forall_mem_cons.mpr ⟨lw_p81, List.forall_mem_cons.mpr ⟨lw_p82, List.forall_mem_cons.mpr ⟨lw_p83, List.forall_mem_cons.mpr ⟨lw_p84, List.forall_mem_cons.mpr ⟨lw_p85, List.forall_mem_cons.mpr ⟨lw_p86, List.forall_mem_cons.mpr ⟨lw_p87, List.forall_mem_cons.mpr ⟨lw_p88, List.forall_mem_cons.mpr ⟨lw_p89, List.forall_mem_cons.mpr ⟨lw_p90, List.forall_mem_cons.mpr ⟨lw_p91, List.forall_mem_cons.mpr ⟨lw_p92, List.forall_mem_cons.mpr ⟨lw_p93, List.forall_mem_cons.mpr ⟨lw_p94, List.forall_mem_cons.mpr ⟨lw_p95, fun _ h => absurd h List.not_mem_nil⟩⟩⟩⟩⟩⟩⟩⟩⟩⟩⟩⟩⟩⟩⟩⟩
theorem lw_p96 : lw_okq (⟨"HuntTableModel", "worthOf", "(I)I"⟩, 58) := ⟨⟨by decide +kernel, by decide +kernel⟩, List.mem_of_getElem? (i := 1288) (by decide +kernel), List.mem_of_getElem? (i := 1749) (by decide +kernel), List.mem_of_getElem? (i := 1750) (by decide +kernel)⟩
theorem lw_p97 : lw_okq (⟨"HuntTableModel", "workOut", "(III)I"⟩, 58) := ⟨⟨by decide +kernel, by decide +kernel⟩, List.mem_of_getElem? (i := 1288) (by decide +kernel), List.mem_of_getElem? (i := 1753) (by decide +kernel), List.mem_of_getElem? (i := 1754) (by decide +kernel)⟩
theorem lw_p98 : lw_okq (⟨"HuntTableModel", "clashOf", "(II)I"⟩, 58) := ⟨⟨by decide +kernel, by decide +kernel⟩, List.mem_of_getElem? (i := 1288) (by decide +kernel), List.mem_of_getElem? (i := 1776) (by decide +kernel), List.mem_of_getElem? (i := 1777) (by decide +kernel)⟩
theorem lw_p99 : lw_okq (⟨"HuntTableModel", "layOrders", "()V"⟩, 58) := ⟨⟨by decide +kernel, by decide +kernel⟩, List.mem_of_getElem? (i := 1288) (by decide +kernel), List.mem_of_getElem? (i := 1791) (by decide +kernel), List.mem_of_getElem? (i := 1792) (by decide +kernel)⟩
theorem lw_p100 : lw_okq (⟨"HuntTableModel", "build", "(II)V"⟩, 58) := ⟨⟨by decide +kernel, by decide +kernel⟩, List.mem_of_getElem? (i := 1288) (by decide +kernel), List.mem_of_getElem? (i := 1795) (by decide +kernel), List.mem_of_getElem? (i := 1796) (by decide +kernel)⟩
theorem lw_p101 : lw_okq (⟨"HuntTableModel", "doesClash", "(I)Z"⟩, 58) := ⟨⟨by decide +kernel, by decide +kernel⟩, List.mem_of_getElem? (i := 1288) (by decide +kernel), List.mem_of_getElem? (i := 1799) (by decide +kernel), List.mem_of_getElem? (i := 1800) (by decide +kernel)⟩
theorem lw_p102 : lw_okq (⟨"HuntTableModel", "meetsAny", "(I)Z"⟩, 58) := ⟨⟨by decide +kernel, by decide +kernel⟩, List.mem_of_getElem? (i := 1288) (by decide +kernel), List.mem_of_getElem? (i := 1807) (by decide +kernel), List.mem_of_getElem? (i := 1808) (by decide +kernel)⟩
theorem lw_p103 : lw_okq (⟨"HuntTableModel", "agrees", "(II)Z"⟩, 58) := ⟨⟨by decide +kernel, by decide +kernel⟩, List.mem_of_getElem? (i := 1288) (by decide +kernel), List.mem_of_getElem? (i := 1819) (by decide +kernel), List.mem_of_getElem? (i := 1820) (by decide +kernel)⟩
theorem lw_p104 : lw_okq (⟨"HuntTableModel", "tablesFrom", "(I)V"⟩, 58) := ⟨⟨by decide +kernel, by decide +kernel⟩, List.mem_of_getElem? (i := 1288) (by decide +kernel), List.mem_of_getElem? (i := 1827) (by decide +kernel), List.mem_of_getElem? (i := 1828) (by decide +kernel)⟩
theorem lw_p105 : lw_okq (⟨"HuntTableModel", "goesWith", "(I)Z"⟩, 58) := ⟨⟨by decide +kernel, by decide +kernel⟩, List.mem_of_getElem? (i := 1288) (by decide +kernel), List.mem_of_getElem? (i := 1831) (by decide +kernel), List.mem_of_getElem? (i := 1832) (by decide +kernel)⟩
theorem lw_p106 : lw_okq (⟨"HuntTableModel", "hop", "(III)I"⟩, 58) := ⟨⟨by decide +kernel, by decide +kernel⟩, List.mem_of_getElem? (i := 1288) (by decide +kernel), List.mem_of_getElem? (i := 1843) (by decide +kernel), List.mem_of_getElem? (i := 1844) (by decide +kernel)⟩
theorem lw_p107 : lw_okq (⟨"HuntTableModel", "match", "(I)Z"⟩, 58) := ⟨⟨by decide +kernel, by decide +kernel⟩, List.mem_of_getElem? (i := 1288) (by decide +kernel), List.mem_of_getElem? (i := 1847) (by decide +kernel), List.mem_of_getElem? (i := 1848) (by decide +kernel)⟩
def lw_privs_7 : List (MethodName × Nat) := [(⟨"HuntTableModel", "worthOf", "(I)I"⟩, 58), (⟨"HuntTableModel", "workOut", "(III)I"⟩, 58), (⟨"HuntTableModel", "clashOf", "(II)I"⟩, 58), (⟨"HuntTableModel", "layOrders", "()V"⟩, 58), (⟨"HuntTableModel", "build", "(II)V"⟩, 58), (⟨"HuntTableModel", "doesClash", "(I)Z"⟩, 58), (⟨"HuntTableModel", "meetsAny", "(I)Z"⟩, 58), (⟨"HuntTableModel", "agrees", "(II)Z"⟩, 58), (⟨"HuntTableModel", "tablesFrom", "(I)V"⟩, 58), (⟨"HuntTableModel", "goesWith", "(I)Z"⟩, 58), (⟨"HuntTableModel", "hop", "(III)I"⟩, 58), (⟨"HuntTableModel", "match", "(I)Z"⟩, 58)]
theorem lw_r7 : ∀ q ∈ lw_privs_7, lw_okq q := List.forall_mem_cons.mpr ⟨lw_p96, List.forall_mem_cons.mpr ⟨lw_p97, List.forall_mem_cons.mpr ⟨lw_p98, List.forall_mem_cons.mpr ⟨lw_p99, List.forall_mem_cons.mpr ⟨lw_p100, List.forall_mem_cons.mpr ⟨lw_p101, List.forall_mem_cons.mpr ⟨lw_p102, List.forall_mem_cons.mpr ⟨lw_p103, List.forall_mem_cons.mpr ⟨lw_p104, List.forall_mem_cons.mpr ⟨lw_p105, List.forall_mem_cons.mpr ⟨lw_p106, List.forall_mem_cons.mpr ⟨lw_p107, fun _ h => absurd h List.not_mem_nil⟩⟩⟩⟩⟩⟩⟩⟩⟩⟩⟩⟩
def lw_privs : List (MethodName × Nat) := lw_privs_1 ++ (lw_privs_2 ++ (lw_privs_3 ++ (lw_privs_4 ++ (lw_privs_5 ++ (lw_privs_6 ++ (lw_privs_7))))))
def lw_tbl : List Cond := k2_sels lw_privs ++ tables_1
theorem lw_privs_ok : ∀ q ∈ lw_privs, lw_okq q := by
  show ∀ q ∈ lw_privs_1 ++ (lw_privs_2 ++ (lw_privs_3 ++ (lw_privs_4 ++ (lw_privs_5 ++ (lw_privs_6 ++ (lw_privs_7)))))), lw_okq q
  exact List.forall_mem_append.mpr ⟨lw_r1, List.forall_mem_append.mpr ⟨lw_r2, List.forall_mem_append.mpr ⟨lw_r3, List.forall_mem_append.mpr ⟨lw_r4, List.forall_mem_append.mpr ⟨lw_r5, List.forall_mem_append.mpr ⟨lw_r6, lw_r7⟩⟩⟩⟩⟩⟩
end
section
/-! The cells that the constructors make, in the order of their making: kind and length; what their references name; the code of all methods, row by row (printed by wip/whole/gen) -/
abbrev ja_I0 : Type := Nat × Nat × Nat × Int × List (Int × Nat) × List Bool
def ja_kdL : List (Nat × Nat) := [(0, 0), (11, 11), (8, 3), (100, 160), (4, 3), (3, 7), (100, 6), (100, 6), (100, 6), (9, 3), (100, 160), (3, 7), (100, 6), (100, 6), (100, 6), (10, 6), (103, 4), (100, 160), (100, 160), (100, 160), (100, 160), (100, 4), (100, 40), (100, 5), (7, 4), (103, 6), (100, 6), (100, 6), (100, 6), (100, 6), (100, 6), (100, 6), (100, 6), (6, 8), (103, 40), (100, 6), (100, 6), (100, 6), (100, 6), (100, 6), (100, 6), (100, 6), (100, 6), (100, 6), (100, 6), (100, 6), (100, 6), (100, 6), (100, 6), (100, 6), (100, 6), (100, 6), (100, 6), (100, 6), (100, 6), (100, 6), (100, 6), (100, 6), (100, 6), (100, 6), (100, 6), (100, 6), (100, 6), (100, 6), (100, 6), (100, 6), (100, 6), (100, 6), (100, 6), (100, 6), (100, 6), (100, 6), (100, 6), (100, 6), (100, 6), (100, 6), (100, 6), (0, 8), (103, 6), (100, 6), (100, 6), (100, 6), (100, 6), (100, 6), (100, 6), (103, 4), (100, 4), (100, 4), (100, 4), (100, 4), (100, 4), (5, 9), (100, 6), (1, 14), (103, 6), (100, 6), (100, 6), (100, 6), (100, 6), (100, 6), (100, 6), (100, 64), (103, 5), (100, 5), (100, 5), (100, 5), (100, 5), (100, 5), (100, 5), (100, 5), (100, 5), (103, 5), (100, 5), (100, 5), (100, 5), (100, 5), (100, 5), (103, 5), (100, 5), (100, 5), (100, 5), (100, 5), (100, 5), (2, 11), (103, 6), (100, 6), (100, 6), (100, 6), (100, 6), (100, 6), (100, 6), (100, 36), (100, 36), (100, 36), (100, 36), (100, 36), (100, 36), (12, 58), (100, 160), (100, 1700), (100, 1700), (100, 5), (100, 5), (100, 450), (100, 450), (100, 450), (100, 5), (100, 80), (100, 6), (100, 6), (100, 6), (100, 6), (100, 6), (100, 6), (100, 36), (100, 6), (100, 1440), (100, 6), (100, 720), (100, 20), (100, 20), (100, 20), (101, 20), (100, 36), (100, 36), (100, 36), (101, 1296), (100, 36), (101, 36), (100, 36), (100, 6), (102, 1), (100, 5000), (110, 5), (110, 5), (111, 0)]
def ja_ppL : List (List Nat) := [[], [2, 4, 9, 11, 15, 24, 33, 77, 91, 93, 123], [3, 0, 0], [], [2, 5, 0], [6, 7, 8, 0, 0, 0, 0], [], [], [], [2, 10, 0], [], [12, 13, 14, 0, 0, 0, 0], [], [], [], [16, 21, 22, 23, 0, 0], [], [], [], [], [], [], [], [], [11, 25, 32, 0], [], [], [], [], [], [], [], [], [11, 24, 34, 0, 0, 75, 76, 0], [], [], [], [], [], [], [], [], [], [], [], [], [], [], [], [], [], [], [], [], [], [], [], [], [], [], [], [], [], [], [], [], [], [], [], [], [], [], [], [], [], [], [], [11, 24, 78, 85, 90, 0, 0, 0], [], [], [], [], [], [], [], [], [], [], [], [], [], [11, 24, 77, 15, 92, 0, 0, 0, 0], [], [11, 94, 101, 0, 172, 0, 0, 0, 102, 108, 109, 110, 111, 117], [], [], [], [], [], [], [], [], [], [], [], [], [], [], [], [], [], [], [], [], [], [], [], [], [], [], [], [], [], [11, 24, 124, 131, 132, 133, 134, 135, 136, 0, 0], [], [], [], [], [], [], [], [], [], [], [], [], [], [0, 138, 0, 0, 0, 0, 139, 140, 141, 142, 143, 144, 145, 0, 0, 146, 147, 148, 149, 150, 0, 0, 0, 0, 151, 152, 153, 0, 0, 0, 0, 154, 155, 0, 156, 0, 157, 158, 0, 159, 160, 161, 162, 0, 0, 0, 0, 0, 163, 164, 165, 0, 166, 167, 168, 169, 170, 0], [], [], [], [], [], [], [], [], [], [], [], [], [], [], [], [], [], [], [], [], [], [], [], [], [], [], [], [], [], [], [], [], [], [], []]
def ja_ftL : List (List Nat) := [[3, 3, 3, 3, 3, 0, 0, 0], [3, 3, 3, 0, 3, 1, 0, 0, 3, 3, 3, 3, 3, 3], [3, 3, 3, 3, 3, 3, 3, 3, 3, 0, 0], [3, 3, 3, 0, 0, 0, 0], [3, 3, 1], [3, 3, 3, 3, 3, 0, 1, 0, 0], [3, 3, 3, 0, 0, 3, 3, 1], [3, 3, 3, 2], [3, 0, 0], [3, 3, 0], [3, 3, 3, 3, 0, 0], [3, 3, 3, 3, 3, 3, 3, 3, 3, 3, 3], [0, 3, 0, 0, 0, 0, 3, 3, 3, 3, 3, 3, 3, 0, 0, 3, 3, 3, 3, 3, 0, 0, 0, 0, 3, 3, 3, 0, 0, 0, 0, 3, 3, 0, 3, 0, 3, 3, 0, 3, 3, 3, 3, 0, 0, 0, 0, 0, 3, 3, 3, 0, 3, 3, 3, 3, 3, 1]]
abbrev ja_N0 : Nat := 171
abbrev ja_RO : Nat := 173
abbrev ja_cF : Nat := 93
abbrev ja_sF : Nat := 4
abbrev ja_cO : Nat := 171
abbrev ja_cH : Nat := 11
abbrev ja_cX : Nat := 12
abbrev ja_cY : Nat := 13
def ja_ro (c j : Nat) : Int := if c = 173 then (match j with
  | 2 => 1
  | _ => 0) else (match j with
  | 0 => 20
  | 1 => 20
  | 2 => 5
  | 3 => 9
  | _ => 30)
def k_X_init : List ja_I0 := [(0, 0, 2, 0, [], []), (46, 0, 0, 1, [], []), (0, 0, 2, 0, [], []), (40, 8, 3, 7, [], []), (52, 0, 0, 0, [], []), (45, 1, 0, 0, [(9, 0)], []), (30, 11, 0, 10, [], []), (0, 0, 2, 0, [], []), (40, 4, 3, 16, [], []), (52, 0, 0, 0, [], []), (0, 0, 2, 0, [], []), (26, 11, 0, 10, [], []), (45, 2, 1, 0, [(18, 0)], []), (30, 11, 1, 21, [], []), (0, 0, 2, 0, [], []), (40, 9, 3, 25, [], []), (52, 0, 0, 0, [], []), (0, 0, 2, 0, [], []), (26, 11, 0, 10, [], []), (45, 4, 1, 0, [(27, 0)], []), (30, 11, 2, 28, [], []), (0, 0, 2, 0, [], []), (40, 3, 7, 32, [], []), (52, 0, 0, 0, [], []), (45, 3, 0, 0, [(34, 0)], []), (30, 11, 3, 35, [], []), (0, 0, 2, 0, [], []), (40, 10, 6, 39, [], []), (52, 0, 0, 0, [], []), (45, 5, 0, 0, [(41, 0)], []), (30, 11, 4, 42, [], []), (0, 0, 2, 0, [], []), (40, 7, 4, 46, [], []), (52, 0, 0, 0, [], []), (0, 0, 2, 0, [], []), (26, 11, 3, 35, [], []), (45, 6, 1, 0, [(48, 0)], []), (30, 11, 5, 51, [], []), (0, 0, 2, 0, [], []), (40, 6, 8, 55, [], []), (52, 0, 0, 0, [], []), (0, 0, 2, 0, [], []), (26, 11, 3, 35, [], []), (0, 0, 2, 0, [], []), (26, 11, 5, 51, [], []), (45, 7, 2, 0, [(57, 0)], []), (30, 11, 6, 60, [], []), (0, 0, 2, 0, [], []), (40, 0, 8, 64, [], []), (52, 0, 0, 0, [], []), (0, 0, 2, 0, [], []), (26, 11, 3, 35, [], []), (0, 0, 2, 0, [], []), (26, 11, 5, 51, [], []), (45, 8, 2, 0, [(66, 0)], []), (30, 11, 7, 67, [], []), (0, 0, 2, 0, [], []), (40, 5, 9, 71, [], []), (52, 0, 0, 0, [], []), (0, 0, 2, 0, [], []), (26, 11, 3, 35, [], []), (0, 0, 2, 0, [], []), (26, 11, 5, 51, [], []), (0, 0, 2, 0, [], []), (26, 11, 7, 67, [], []), (0, 0, 2, 0, [], []), (26, 11, 4, 42, [], []), (45, 9, 4, 0, [(73, 0)], []), (30, 11, 8, 76, [], []), (0, 0, 2, 0, [], []), (40, 1, 14, 80, [], []), (52, 0, 0, 0, [], []), (0, 0, 2, 0, [], []), (26, 11, 3, 35, [], []), (45, 10, 1, 0, [(82, 0)], []), (30, 11, 9, 83, [], []), (0, 0, 2, 0, [], []), (40, 2, 11, 87, [], []), (52, 0, 0, 0, [], []), (0, 0, 2, 0, [], []), (26, 11, 3, 35, [], []), (0, 0, 2, 0, [], []), (26, 11, 5, 51, [], []), (45, 11, 2, 0, [(89, 0)], []), (30, 11, 10, 90, [], []), (51, 0, 0, 0, [], [])]
def k_Tape_init : List ja_I0 := [(0, 0, 2, 0, [], []), (46, 0, 0, 3, [], []), (0, 0, 2, 0, [], []), (1, 0, 0, 160, [], []), (41, 100, 0, 0, [], []), (30, 8, 0, 11, [], []), (51, 0, 0, 0, [], [])]
def k_HuntReader_init : List ja_I0 := [(0, 0, 2, 0, [], []), (46, 0, 0, 3, [], []), (0, 0, 2, 0, [], []), (40, 3, 7, 9, [], []), (52, 0, 0, 0, [], []), (45, 3, 0, 0, [(11, 0)], []), (30, 4, 1, 12, [], []), (0, 0, 2, 0, [], []), (0, 1, 2, 0, [], []), (30, 4, 0, 18, [], []), (51, 0, 0, 0, [], [])]
def k_Hunt_init : List ja_I0 := [(0, 0, 2, 0, [], []), (46, 0, 0, 3, [], []), (0, 0, 2, 0, [], []), (1, 0, 0, 6, [], []), (41, 100, 0, 0, [], []), (30, 3, 0, 9, [], []), (0, 0, 2, 0, [], []), (1, 0, 0, 6, [], []), (41, 100, 0, 0, [], []), (30, 3, 1, 15, [], []), (0, 0, 2, 0, [], []), (1, 0, 0, 6, [], []), (41, 100, 0, 0, [], []), (30, 3, 2, 18, [], []), (51, 0, 0, 0, [], [])]
def k_WorthReader_init : List ja_I0 := [(0, 0, 2, 0, [], []), (46, 0, 0, 3, [], []), (0, 0, 2, 0, [], []), (1, 0, 0, 160, [], []), (41, 100, 0, 0, [], []), (30, 9, 1, 11, [], []), (0, 0, 2, 0, [], []), (0, 1, 2, 0, [], []), (30, 9, 0, 17, [], []), (51, 0, 0, 0, [], [])]
def k_Worths_init : List ja_I0 := [(0, 0, 2, 0, [], []), (46, 0, 0, 3, [], []), (0, 0, 2, 0, [], []), (1, 0, 0, 4, [], []), (1, 0, 0, 160, [], []), (42, 0, 0, 13, [], []), (30, 10, 0, 15, [], []), (0, 0, 2, 0, [], []), (1, 0, 0, 4, [], []), (41, 100, 0, 0, [], []), (30, 10, 1, 18, [], []), (0, 0, 2, 0, [], []), (1, 0, 0, 40, [], []), (41, 100, 0, 0, [], []), (30, 10, 2, 22, [], []), (0, 0, 2, 0, [], []), (1, 0, 0, 5, [], []), (41, 100, 0, 0, [], []), (30, 10, 3, 25, [], []), (0, 0, 2, 0, [], []), (1, 0, 0, -1, [], []), (27, 10, 5, 28, [], []), (51, 0, 0, 0, [], [])]
def k_Table_init : List ja_I0 := [(0, 0, 2, 0, [], []), (46, 0, 0, 3, [], []), (0, 0, 2, 0, [], []), (1, 0, 0, 6, [], []), (1, 0, 0, 6, [], []), (42, 0, 0, 9, [], []), (30, 7, 1, 11, [], []), (0, 0, 2, 0, [], []), (1, 0, 0, 6, [], []), (41, 100, 0, 0, [], []), (30, 7, 2, 16, [], []), (0, 0, 2, 0, [], []), (0, 1, 2, 0, [], []), (30, 7, 0, 20, [], []), (51, 0, 0, 0, [], [])]
def k_Past_init : List ja_I0 := [(0, 0, 2, 0, [], []), (46, 0, 0, 3, [], []), (0, 0, 2, 0, [], []), (1, 0, 0, 40, [], []), (1, 0, 0, 6, [], []), (42, 0, 0, 11, [], []), (30, 6, 2, 13, [], []), (0, 0, 2, 0, [], []), (1, 0, 0, 6, [], []), (41, 100, 0, 0, [], []), (30, 6, 5, 16, [], []), (0, 0, 2, 0, [], []), (1, 0, 0, 6, [], []), (41, 100, 0, 0, [], []), (30, 6, 6, 20, [], []), (0, 0, 2, 0, [], []), (0, 1, 2, 0, [], []), (30, 6, 0, 23, [], []), (0, 0, 2, 0, [], []), (0, 2, 2, 0, [], []), (30, 6, 1, 27, [], []), (51, 0, 0, 0, [], [])]
def k_Clock_init : List ja_I0 := [(0, 0, 2, 0, [], []), (46, 0, 0, 3, [], []), (0, 0, 2, 0, [], []), (1, 0, 0, 6, [], []), (1, 0, 0, 6, [], []), (42, 0, 0, 9, [], []), (30, 0, 2, 11, [], []), (0, 0, 2, 0, [], []), (1, 0, 0, 4, [], []), (1, 0, 0, 4, [], []), (42, 0, 0, 9, [], []), (30, 0, 3, 16, [], []), (0, 0, 2, 0, [], []), (1, 0, 0, 4, [], []), (41, 100, 0, 0, [], []), (30, 0, 4, 19, [], []), (0, 0, 2, 0, [], []), (0, 1, 2, 0, [], []), (30, 0, 0, 23, [], []), (0, 0, 2, 0, [], []), (0, 2, 2, 0, [], []), (30, 0, 1, 27, [], []), (51, 0, 0, 0, [], [])]
def k_OrderSearch_init : List ja_I0 := [(0, 0, 2, 0, [], []), (46, 0, 0, 3, [], []), (0, 0, 2, 0, [], []), (1, 0, 0, 6, [], []), (41, 100, 0, 0, [], []), (30, 5, 4, 9, [], []), (0, 0, 2, 0, [], []), (0, 1, 2, 0, [], []), (30, 5, 0, 15, [], []), (0, 0, 2, 0, [], []), (0, 2, 2, 0, [], []), (30, 5, 1, 19, [], []), (0, 0, 2, 0, [], []), (0, 3, 2, 0, [], []), (30, 5, 2, 23, [], []), (0, 0, 2, 0, [], []), (0, 4, 2, 0, [], []), (30, 5, 3, 27, [], []), (51, 0, 0, 0, [], [])]
def k_Finds_init : List ja_I0 := [(0, 0, 2, 0, [], []), (46, 0, 0, 3, [], []), (0, 0, 2, 0, [], []), (1, 0, 0, 6, [], []), (1, 0, 0, 6, [], []), (42, 0, 0, 9, [], []), (30, 1, 1, 11, [], []), (0, 0, 2, 0, [], []), (1, 0, 0, 64, [], []), (41, 100, 0, 0, [], []), (30, 1, 2, 16, [], []), (0, 0, 2, 0, [], []), (1, 0, 0, 5, [], []), (1, 0, 0, 5, [], []), (42, 0, 0, 9, [], []), (30, 1, 8, 20, [], []), (0, 0, 2, 0, [], []), (1, 0, 0, 5, [], []), (41, 100, 0, 0, [], []), (30, 1, 9, 23, [], []), (0, 0, 2, 0, [], []), (1, 0, 0, 5, [], []), (41, 100, 0, 0, [], []), (30, 1, 10, 26, [], []), (0, 0, 2, 0, [], []), (1, 0, 0, 5, [], []), (41, 100, 0, 0, [], []), (30, 1, 11, 29, [], []), (0, 0, 2, 0, [], []), (1, 0, 0, 5, [], []), (1, 0, 0, 5, [], []), (42, 0, 0, 9, [], []), (30, 1, 12, 32, [], []), (0, 0, 2, 0, [], []), (1, 0, 0, 5, [], []), (1, 0, 0, 5, [], []), (42, 0, 0, 9, [], []), (30, 1, 13, 35, [], []), (0, 0, 2, 0, [], []), (0, 1, 2, 0, [], []), (30, 1, 0, 38, [], []), (51, 0, 0, 0, [], [])]
def k_HelperCount_init : List ja_I0 := [(0, 0, 2, 0, [], []), (46, 0, 0, 3, [], []), (0, 0, 2, 0, [], []), (1, 0, 0, 6, [], []), (1, 0, 0, 6, [], []), (42, 0, 0, 9, [], []), (30, 2, 2, 11, [], []), (0, 0, 2, 0, [], []), (1, 0, 0, 36, [], []), (41, 100, 0, 0, [], []), (30, 2, 3, 16, [], []), (0, 0, 2, 0, [], []), (1, 0, 0, 36, [], []), (41, 100, 0, 0, [], []), (30, 2, 4, 20, [], []), (0, 0, 2, 0, [], []), (1, 0, 0, 36, [], []), (41, 100, 0, 0, [], []), (30, 2, 5, 23, [], []), (0, 0, 2, 0, [], []), (1, 0, 0, 36, [], []), (41, 100, 0, 0, [], []), (30, 2, 6, 26, [], []), (0, 0, 2, 0, [], []), (1, 0, 0, 36, [], []), (41, 100, 0, 0, [], []), (30, 2, 7, 29, [], []), (0, 0, 2, 0, [], []), (1, 0, 0, 36, [], []), (41, 100, 0, 0, [], []), (30, 2, 8, 32, [], []), (0, 0, 2, 0, [], []), (0, 1, 2, 0, [], []), (30, 2, 0, 35, [], []), (0, 0, 2, 0, [], []), (0, 2, 2, 0, [], []), (30, 2, 1, 39, [], []), (51, 0, 0, 0, [], [])]
def k_X_feed : List ja_I0 := [(0, 1, 0, 0, [], []), (44, 13, 1, 1, [(94, 0)], []), (0, 2, 0, 0, [], []), (44, 13, 1, 1, [(94, 0)], []), (6, 0, 0, 0, [], []), (0, 3, 0, 0, [], []), (44, 13, 1, 1, [(94, 0)], []), (6, 0, 0, 0, [], []), (0, 4, 0, 0, [], []), (44, 13, 1, 1, [(94, 0)], []), (6, 0, 0, 0, [], []), (0, 5, 0, 0, [], []), (44, 13, 1, 1, [(94, 0)], []), (6, 0, 0, 0, [], []), (3, 6, 0, 0, [], []), (0, 0, 2, 0, [], []), (26, 11, 0, 10, [], []), (0, 6, 0, 0, [], []), (43, 14, 1, 1, [(98, 0)], []), (19, 1, 22, 0, [], []), (1, 0, 0, -1, [], []), (47, 0, 0, 0, [], []), (0, 0, 2, 0, [], []), (26, 11, 0, 10, [], []), (0, 1, 0, 0, [], []), (43, 15, 1, 0, [(102, 0)], []), (0, 0, 2, 0, [], []), (26, 11, 0, 10, [], []), (0, 2, 0, 0, [], []), (43, 15, 1, 0, [(102, 0)], []), (0, 0, 2, 0, [], []), (26, 11, 0, 10, [], []), (0, 3, 0, 0, [], []), (43, 15, 1, 0, [(102, 0)], []), (0, 0, 2, 0, [], []), (26, 11, 0, 10, [], []), (0, 4, 0, 0, [], []), (43, 15, 1, 0, [(102, 0)], []), (0, 0, 2, 0, [], []), (26, 11, 0, 10, [], []), (0, 5, 0, 0, [], []), (43, 15, 1, 0, [(102, 0)], []), (0, 0, 2, 0, [], []), (26, 11, 0, 10, [], []), (43, 16, 0, 1, [(106, 0)], []), (47, 0, 0, 0, [], [])]
def k_Tape_bytesIn : List ja_I0 := [(1, 0, 0, 0, [], []), (3, 1, 0, 0, [], []), (1, 0, 0, 24, [], []), (3, 2, 0, 0, [], []), (0, 2, 0, 0, [], [true, true, true]), (19, 2, 15, 0, [], []), (0, 0, 0, 0, [], []), (0, 2, 0, 0, [], []), (6, 8, 0, 0, [], []), (1, 0, 0, 255, [], []), (6, 3, 0, 0, [], []), (19, 0, 13, 0, [], []), (5, 1, 0, 1, [], []), (5, 2, 0, -8, [], []), (22, 0, 4, 0, [], []), (0, 1, 0, 0, [], []), (47, 0, 0, 0, [], [])]
def k_Tape_hasRoom : List ja_I0 := [(0, 0, 2, 0, [], []), (24, 8, 1, 15, [], []), (0, 1, 0, 0, [], []), (6, 0, 0, 0, [], []), (1, 0, 0, 160, [], []), (18, 4, 8, 0, [], []), (1, 0, 0, 1, [], []), (22, 0, 9, 0, [], []), (1, 0, 0, 0, [], []), (48, 0, 0, 0, [], [])]
def k_Tape_add : List ja_I0 := [(1, 0, 0, 24, [], []), (3, 2, 0, 0, [], []), (0, 2, 0, 0, [], [true, true, true, false]), (19, 2, 30, 0, [], []), (0, 1, 0, 0, [], []), (0, 2, 0, 0, [], []), (6, 8, 0, 0, [], []), (1, 0, 0, 255, [], []), (6, 3, 0, 0, [], []), (3, 3, 0, 0, [], []), (0, 3, 0, 0, [], []), (19, 0, 28, 0, [], []), (0, 0, 2, 0, [], []), (24, 8, 1, 15, [], []), (1, 0, 0, 160, [], []), (18, 3, 28, 0, [], []), (0, 0, 2, 0, [], []), (26, 8, 0, 11, [], []), (0, 0, 2, 0, [], []), (24, 8, 1, 15, [], []), (0, 3, 0, 0, [], []), (36, 0, 0, 0, [], []), (0, 0, 2, 0, [], []), (52, 0, 0, 0, [], []), (24, 8, 1, 15, [], []), (1, 0, 0, 1, [], []), (6, 0, 0, 0, [], []), (27, 8, 1, 15, [], []), (5, 2, 0, -8, [], []), (22, 0, 2, 0, [], []), (51, 0, 0, 0, [], [])]
def k_Tape_length : List ja_I0 := [(0, 0, 2, 0, [], []), (24, 8, 1, 15, [], []), (47, 0, 0, 0, [], [])]
def k_X_end : List ja_I0 := [(0, 0, 2, 0, [], []), (26, 11, 0, 10, [], []), (0, 1, 0, 0, [], []), (43, 18, 1, 1, [(110, 0)], []), (48, 0, 0, 0, [], [])]
def k_Tape_cut : List ja_I0 := [(0, 1, 0, 0, [], []), (19, 2, 6, 0, [], []), (0, 1, 0, 0, [], []), (0, 0, 2, 0, [], []), (24, 8, 1, 15, [], []), (18, 5, 8, 0, [], []), (1, 0, 0, 0, [], []), (48, 0, 0, 0, [], []), (0, 0, 2, 0, [], []), (0, 1, 0, 0, [], []), (27, 8, 1, 15, [], []), (1, 0, 0, 1, [], []), (48, 0, 0, 0, [], [])]
def k_X_fault : List ja_I0 := [(0, 1, 0, 0, [], []), (19, 1, 6, 0, [], []), (0, 0, 2, 0, [], []), (26, 11, 1, 21, [], []), (43, 20, 0, 1, [(113, 0)], []), (47, 0, 0, 0, [], []), (0, 1, 0, 0, [], []), (1, 0, 0, 1, [], []), (18, 1, 13, 0, [], []), (0, 0, 2, 0, [], []), (26, 11, 2, 28, [], []), (43, 39, 0, 1, [(116, 0)], []), (47, 0, 0, 0, [], []), (1, 0, 0, -2, [], []), (47, 0, 0, 0, [], [])]
def k_HuntReader_read : List ja_I0 := [(0, 0, 2, 0, [], []), (26, 4, 0, 18, [], []), (43, 21, 0, 0, [(22, 0)], []), (0, 0, 2, 0, [], []), (26, 4, 1, 12, [], []), (43, 22, 0, 0, [(27, 0)], []), (0, 0, 2, 0, [], []), (1, 0, 0, 0, [], []), (28, 4, 2, 30, [], []), (1, 0, 0, 0, [], []), (3, 1, 0, 0, [], []), (0, 1, 0, 0, [], [true, true]), (1, 0, 0, 160, [], []), (18, 3, 46, 0, [], []), (0, 0, 2, 0, [], []), (43, 23, 0, 1, [(34, 0)], []), (19, 1, 21, 0, [], []), (0, 0, 2, 0, [], []), (26, 4, 0, 18, [], []), (43, 36, 0, 1, [(38, 0)], []), (47, 0, 0, 0, [], []), (0, 0, 2, 0, [], []), (26, 4, 0, 18, [], []), (43, 24, 0, 1, [(42, 0)], []), (19, 1, 35, 0, [], []), (0, 0, 2, 0, [], []), (26, 4, 1, 12, [], []), (43, 37, 0, 1, [(45, 0)], []), (19, 0, 31, 0, [], []), (1, 0, 0, -1, [], []), (22, 0, 34, 0, [], []), (0, 0, 2, 0, [], []), (26, 4, 0, 18, [], []), (43, 16, 0, 1, [(48, 0)], []), (47, 0, 0, 0, [], []), (0, 0, 2, 0, [], []), (26, 4, 0, 18, [], []), (1, 0, 0, 59, [], []), (43, 38, 1, 1, [(51, 0)], []), (19, 1, 44, 0, [], []), (0, 0, 2, 0, [], []), (26, 4, 0, 18, [], []), (43, 36, 0, 1, [(38, 0)], []), (47, 0, 0, 0, [], []), (5, 1, 0, 1, [], []), (22, 0, 11, 0, [], []), (0, 0, 2, 0, [], []), (26, 4, 0, 18, [], []), (43, 36, 0, 1, [(38, 0)], []), (47, 0, 0, 0, [], [])]
def k_Tape_rewind : List ja_I0 := [(0, 0, 2, 0, [], []), (1, 0, 0, 0, [], []), (27, 8, 2, 19, [], []), (51, 0, 0, 0, [], [])]
def k_Hunt_clear : List ja_I0 := [(0, 0, 2, 0, [], []), (1, 0, 0, 0, [], []), (27, 3, 3, 21, [], []), (0, 0, 2, 0, [], []), (1, 0, 0, 0, [], []), (27, 3, 4, 25, [], []), (0, 0, 2, 0, [], []), (1, 0, 0, 1, [], []), (27, 3, 5, 28, [], []), (0, 0, 2, 0, [], []), (1, 0, 0, 5, [], []), (27, 3, 6, 31, [], []), (51, 0, 0, 0, [], [])]
def k_HuntReader_readClause : List ja_I0 := [(0, 0, 2, 0, [], []), (26, 4, 0, 18, [], []), (43, 24, 0, 1, [(42, 0)], []), (3, 1, 0, 0, [], []), (0, 0, 2, 0, [], []), (0, 1, 0, 0, [], []), (43, 25, 1, 1, [(55, 0)], []), (19, 1, 10, 0, [], []), (1, 0, 0, 0, [], []), (48, 0, 0, 0, [], []), (0, 0, 2, 0, [], []), (26, 4, 0, 18, [], []), (43, 28, 0, 0, [(58, 0)], []), (0, 0, 2, 0, [], []), (0, 1, 0, 0, [], []), (43, 29, 1, 1, [(61, 0)], []), (48, 0, 0, 0, [], [])]
def k_Tape_nextSign : List ja_I0 := [(0, 0, 2, 0, [], [true]), (24, 8, 2, 19, [], []), (0, 0, 2, 0, [], []), (24, 8, 1, 15, [], []), (18, 3, 19, 0, [], []), (0, 0, 2, 0, [], []), (26, 8, 0, 11, [], []), (0, 0, 2, 0, [], []), (24, 8, 2, 19, [], []), (32, 0, 0, 0, [], []), (1, 0, 0, 32, [], []), (18, 1, 19, 0, [], []), (0, 0, 2, 0, [], []), (52, 0, 0, 0, [], []), (24, 8, 2, 19, [], []), (1, 0, 0, 1, [], []), (6, 0, 0, 0, [], []), (27, 8, 2, 19, [], []), (22, 0, 0, 0, [], []), (0, 0, 2, 0, [], []), (24, 8, 2, 19, [], []), (0, 0, 2, 0, [], []), (24, 8, 1, 15, [], []), (18, 3, 30, 0, [], []), (0, 0, 2, 0, [], []), (26, 8, 0, 11, [], []), (0, 0, 2, 0, [], []), (24, 8, 2, 19, [], []), (32, 0, 0, 0, [], []), (22, 0, 31, 0, [], []), (1, 0, 0, 0, [], []), (47, 0, 0, 0, [], [])]
def k_HuntReader_addClause : List ja_I0 := [(0, 1, 0, 0, [], []), (1, 0, 0, 112, [], []), (18, 1, 7, 0, [], []), (0, 0, 2, 0, [], []), (26, 4, 1, 12, [], []), (43, 26, 0, 1, [(64, 0)], []), (48, 0, 0, 0, [], []), (0, 1, 0, 0, [], []), (1, 0, 0, 98, [], []), (18, 1, 14, 0, [], []), (0, 0, 2, 0, [], []), (26, 4, 1, 12, [], []), (43, 27, 0, 1, [(67, 0)], []), (48, 0, 0, 0, [], []), (0, 1, 0, 0, [], []), (1, 0, 0, 108, [], []), (18, 1, 20, 0, [], []), (0, 0, 2, 0, [], []), (24, 4, 2, 30, [], []), (19, 0, 22, 0, [], []), (1, 0, 0, 0, [], []), (48, 0, 0, 0, [], []), (0, 0, 2, 0, [], []), (1, 0, 0, 1, [], []), (28, 4, 2, 30, [], []), (1, 0, 0, 1, [], []), (48, 0, 0, 0, [], [])]
def k_Hunt_addPlace : List ja_I0 := [(0, 0, 2, 0, [], []), (24, 3, 3, 21, [], []), (1, 0, 0, 6, [], []), (18, 1, 6, 0, [], []), (1, 0, 0, 0, [], []), (48, 0, 0, 0, [], []), (0, 0, 2, 0, [], []), (26, 3, 0, 9, [], []), (0, 0, 2, 0, [], []), (24, 3, 3, 21, [], []), (1, 0, 0, 0, [], []), (36, 0, 0, 0, [], []), (0, 0, 2, 0, [], []), (26, 3, 1, 15, [], []), (0, 0, 2, 0, [], []), (24, 3, 3, 21, [], []), (1, 0, 0, 0, [], []), (36, 0, 0, 0, [], []), (0, 0, 2, 0, [], []), (52, 0, 0, 0, [], []), (24, 3, 3, 21, [], []), (1, 0, 0, 1, [], []), (6, 0, 0, 0, [], []), (27, 3, 3, 21, [], []), (1, 0, 0, 1, [], []), (48, 0, 0, 0, [], [])]
def k_Hunt_addBand : List ja_I0 := [(0, 0, 2, 0, [], []), (24, 3, 4, 25, [], []), (1, 0, 0, 6, [], []), (18, 1, 6, 0, [], []), (1, 0, 0, 0, [], []), (48, 0, 0, 0, [], []), (0, 0, 2, 0, [], []), (26, 3, 2, 18, [], []), (0, 0, 2, 0, [], []), (24, 3, 4, 25, [], []), (1, 0, 0, 1, [], []), (36, 0, 0, 0, [], []), (0, 0, 2, 0, [], []), (52, 0, 0, 0, [], []), (24, 3, 4, 25, [], []), (1, 0, 0, 1, [], []), (6, 0, 0, 0, [], []), (27, 3, 4, 25, [], []), (1, 0, 0, 1, [], []), (48, 0, 0, 0, [], [])]
def k_Tape_pass : List ja_I0 := [(0, 0, 2, 0, [], []), (24, 8, 2, 19, [], []), (0, 0, 2, 0, [], []), (24, 8, 1, 15, [], []), (18, 3, 11, 0, [], []), (0, 0, 2, 0, [], []), (52, 0, 0, 0, [], []), (24, 8, 2, 19, [], []), (1, 0, 0, 1, [], []), (6, 0, 0, 0, [], []), (27, 8, 2, 19, [], []), (51, 0, 0, 0, [], [])]
def k_HuntReader_readItems : List ja_I0 := [(1, 0, 0, 0, [], []), (3, 2, 0, 0, [], []), (1, 0, 0, 0, [], []), (3, 3, 0, 0, [], []), (0, 3, 0, 0, [], [true, true, true, true, false]), (1, 0, 0, 2, [], []), (18, 3, 42, 0, [], []), (0, 1, 0, 0, [], []), (0, 0, 2, 0, [], []), (26, 4, 0, 18, [], []), (43, 24, 0, 1, [(42, 0)], []), (44, 30, 2, 1, [(70, 0)], []), (3, 4, 0, 0, [], []), (0, 4, 0, 0, [], []), (1, 0, 0, -1, [], []), (18, 0, 23, 0, [], []), (0, 2, 0, 0, [], []), (0, 4, 0, 0, [], []), (6, 7, 0, 0, [], []), (1, 0, 0, 1, [], []), (6, 3, 0, 0, [], []), (1, 0, 0, 1, [], []), (18, 1, 25, 0, [], []), (1, 0, 0, 1, [], []), (48, 0, 0, 0, [], []), (0, 2, 0, 0, [], []), (1, 0, 0, 1, [], []), (0, 4, 0, 0, [], []), (6, 6, 0, 0, [], []), (6, 4, 0, 0, [], []), (3, 2, 0, 0, [], []), (0, 0, 2, 0, [], []), (26, 4, 0, 18, [], []), (43, 28, 0, 0, [(58, 0)], []), (0, 0, 2, 0, [], []), (0, 4, 0, 0, [], []), (43, 31, 1, 1, [(74, 0)], []), (19, 1, 40, 0, [], []), (1, 0, 0, 0, [], []), (48, 0, 0, 0, [], []), (5, 3, 0, 1, [], []), (22, 0, 4, 0, [], []), (1, 0, 0, 1, [], []), (48, 0, 0, 0, [], [])]
def k_HuntReader_itemOf : List ja_I0 := [(0, 0, 0, 0, [], []), (1, 0, 0, 112, [], []), (18, 1, 8, 0, [], []), (0, 1, 0, 0, [], []), (1, 0, 0, 120, [], []), (18, 1, 8, 0, [], []), (1, 0, 0, 0, [], []), (47, 0, 0, 0, [], []), (0, 0, 0, 0, [], []), (1, 0, 0, 112, [], []), (18, 1, 16, 0, [], []), (0, 1, 0, 0, [], []), (1, 0, 0, 121, [], []), (18, 1, 16, 0, [], []), (1, 0, 0, 1, [], []), (47, 0, 0, 0, [], []), (0, 0, 0, 0, [], []), (1, 0, 0, 98, [], []), (18, 1, 24, 0, [], []), (0, 1, 0, 0, [], []), (1, 0, 0, 115, [], []), (18, 1, 24, 0, [], []), (1, 0, 0, 2, [], []), (47, 0, 0, 0, [], []), (0, 0, 0, 0, [], []), (1, 0, 0, 108, [], []), (18, 1, 32, 0, [], []), (0, 1, 0, 0, [], []), (1, 0, 0, 102, [], []), (18, 1, 32, 0, [], []), (1, 0, 0, 3, [], []), (47, 0, 0, 0, [], []), (0, 0, 0, 0, [], []), (1, 0, 0, 108, [], []), (18, 1, 40, 0, [], []), (0, 1, 0, 0, [], []), (1, 0, 0, 107, [], []), (18, 1, 40, 0, [], []), (1, 0, 0, 4, [], []), (22, 0, 41, 0, [], []), (1, 0, 0, -1, [], []), (47, 0, 0, 0, [], [])]
def k_HuntReader_readValue : List ja_I0 := [(0, 0, 2, 0, [], []), (26, 4, 0, 18, [], []), (1, 0, 0, 2, [], []), (43, 32, 1, 1, [(77, 0)], []), (3, 2, 0, 0, [], []), (0, 2, 0, 0, [], []), (1, 0, 0, -1, [], []), (18, 1, 10, 0, [], []), (1, 0, 0, 0, [], []), (48, 0, 0, 0, [], []), (0, 2, 0, 0, [], []), (31, 173, 0, 81, [], []), (0, 1, 0, 0, [], []), (32, 0, 0, 0, [], []), (18, 2, 20, 0, [], []), (0, 2, 0, 0, [], []), (31, 174, 0, 85, [], []), (0, 1, 0, 0, [], []), (32, 0, 0, 0, [], []), (18, 5, 25, 0, [], []), (0, 0, 2, 0, [], []), (26, 4, 0, 18, [], []), (43, 34, 0, 0, [(88, 0)], []), (1, 0, 0, 0, [], []), (48, 0, 0, 0, [], []), (0, 0, 2, 0, [], []), (26, 4, 1, 12, [], []), (0, 1, 0, 0, [], []), (0, 2, 0, 0, [], []), (43, 35, 2, 0, [(91, 0)], []), (1, 0, 0, 1, [], []), (48, 0, 0, 0, [], [])]
def k_Tape_takeNumber : List ja_I0 := [(0, 0, 2, 0, [], []), (43, 24, 0, 1, [(22, 0)], []), (44, 33, 1, 1, [(29, 0)], []), (19, 1, 6, 0, [], []), (1, 0, 0, -1, [], []), (47, 0, 0, 0, [], []), (1, 0, 0, 0, [], []), (3, 2, 0, 0, [], []), (0, 0, 2, 0, [], []), (24, 8, 1, 15, [], []), (0, 0, 2, 0, [], []), (24, 8, 2, 19, [], []), (0, 1, 0, 0, [], []), (6, 0, 0, 0, [], []), (58, 0, 0, 33, [], []), (3, 3, 0, 0, [], []), (0, 0, 2, 0, [], [true, false, true, true]), (24, 8, 2, 19, [], []), (0, 3, 0, 0, [], []), (18, 3, 46, 0, [], []), (0, 0, 2, 0, [], []), (26, 8, 0, 11, [], []), (0, 0, 2, 0, [], []), (24, 8, 2, 19, [], []), (32, 0, 0, 0, [], []), (44, 33, 1, 1, [(29, 0)], []), (19, 0, 46, 0, [], []), (0, 2, 0, 0, [], []), (1, 0, 0, 10, [], []), (6, 2, 0, 0, [], []), (0, 0, 2, 0, [], []), (26, 8, 0, 11, [], []), (0, 0, 2, 0, [], []), (24, 8, 2, 19, [], []), (32, 0, 0, 0, [], []), (6, 0, 0, 0, [], []), (1, 0, 0, 48, [], []), (6, 1, 0, 0, [], []), (3, 2, 0, 0, [], []), (0, 0, 2, 0, [], []), (52, 0, 0, 0, [], []), (24, 8, 2, 19, [], []), (1, 0, 0, 1, [], []), (6, 0, 0, 0, [], []), (27, 8, 2, 19, [], []), (22, 0, 16, 0, [], []), (0, 0, 2, 0, [], []), (24, 8, 2, 19, [], []), (0, 0, 2, 0, [], []), (24, 8, 1, 15, [], []), (18, 3, 60, 0, [], []), (0, 0, 2, 0, [], []), (26, 8, 0, 11, [], []), (0, 0, 2, 0, [], []), (24, 8, 2, 19, [], []), (32, 0, 0, 0, [], []), (44, 33, 1, 1, [(29, 0)], []), (19, 0, 60, 0, [], []), (1, 0, 0, -1, [], []), (22, 0, 61, 0, [], []), (0, 2, 0, 0, [], []), (47, 0, 0, 0, [], [])]
def k_Tape_isDigit : List ja_I0 := [(0, 0, 0, 0, [], []), (1, 0, 0, 48, [], []), (18, 2, 8, 0, [], []), (0, 0, 0, 0, [], []), (1, 0, 0, 57, [], []), (18, 4, 8, 0, [], []), (1, 0, 0, 1, [], []), (22, 0, 9, 0, [], []), (1, 0, 0, 0, [], []), (48, 0, 0, 0, [], [])]
def k_Tape_stepBack : List ja_I0 := [(0, 0, 2, 0, [], []), (24, 8, 2, 19, [], []), (19, 5, 9, 0, [], []), (0, 0, 2, 0, [], []), (52, 0, 0, 0, [], []), (24, 8, 2, 19, [], []), (1, 0, 0, 1, [], []), (6, 1, 0, 0, [], []), (27, 8, 2, 19, [], []), (51, 0, 0, 0, [], [])]
def k_Hunt_put : List ja_I0 := [(0, 1, 0, 0, [], []), (19, 1, 14, 0, [], []), (0, 0, 2, 0, [], []), (24, 3, 3, 21, [], []), (19, 5, 14, 0, [], []), (0, 0, 2, 0, [], []), (26, 3, 0, 9, [], []), (0, 0, 2, 0, [], []), (24, 3, 3, 21, [], []), (1, 0, 0, 1, [], []), (6, 1, 0, 0, [], []), (0, 2, 0, 0, [], []), (36, 0, 0, 0, [], []), (22, 0, 57, 0, [], []), (0, 1, 0, 0, [], []), (1, 0, 0, 1, [], []), (18, 1, 29, 0, [], []), (0, 0, 2, 0, [], []), (24, 3, 3, 21, [], []), (19, 5, 29, 0, [], []), (0, 0, 2, 0, [], []), (26, 3, 1, 15, [], []), (0, 0, 2, 0, [], []), (24, 3, 3, 21, [], []), (1, 0, 0, 1, [], []), (6, 1, 0, 0, [], []), (0, 2, 0, 0, [], []), (36, 0, 0, 0, [], []), (22, 0, 57, 0, [], []), (0, 1, 0, 0, [], []), (1, 0, 0, 2, [], []), (18, 1, 44, 0, [], []), (0, 0, 2, 0, [], []), (24, 3, 4, 25, [], []), (19, 5, 44, 0, [], []), (0, 0, 2, 0, [], []), (26, 3, 2, 18, [], []), (0, 0, 2, 0, [], []), (24, 3, 4, 25, [], []), (1, 0, 0, 1, [], []), (6, 1, 0, 0, [], []), (0, 2, 0, 0, [], []), (36, 0, 0, 0, [], []), (22, 0, 57, 0, [], []), (0, 1, 0, 0, [], []), (1, 0, 0, 3, [], []), (18, 1, 51, 0, [], []), (0, 0, 2, 0, [], []), (0, 2, 0, 0, [], []), (27, 3, 5, 28, [], []), (22, 0, 57, 0, [], []), (0, 1, 0, 0, [], []), (1, 0, 0, 4, [], []), (18, 1, 57, 0, [], []), (0, 0, 2, 0, [], []), (0, 2, 0, 0, [], []), (27, 3, 6, 31, [], []), (51, 0, 0, 0, [], [])]
def k_Tape_position : List ja_I0 := [(0, 0, 2, 0, [], []), (24, 8, 2, 19, [], []), (47, 0, 0, 0, [], [])]
def k_Hunt_isWhole : List ja_I0 := [(0, 0, 2, 0, [], []), (24, 3, 3, 21, [], []), (1, 0, 0, 2, [], []), (18, 2, 10, 0, [], []), (0, 0, 2, 0, [], []), (24, 3, 4, 25, [], []), (1, 0, 0, 1, [], []), (18, 2, 10, 0, [], []), (1, 0, 0, 1, [], []), (22, 0, 11, 0, [], []), (1, 0, 0, 0, [], []), (48, 0, 0, 0, [], [])]
def k_Tape_take : List ja_I0 := [(0, 0, 2, 0, [], []), (43, 24, 0, 1, [(22, 0)], []), (0, 1, 0, 0, [], []), (18, 0, 6, 0, [], []), (1, 0, 0, 0, [], []), (48, 0, 0, 0, [], []), (0, 0, 2, 0, [], []), (43, 28, 0, 0, [(26, 0)], []), (1, 0, 0, 1, [], []), (48, 0, 0, 0, [], [])]
def k_WorthReader_read : List ja_I0 := [(0, 0, 2, 0, [], []), (26, 9, 0, 17, [], []), (43, 21, 0, 0, [(25, 0)], []), (0, 0, 2, 0, [], []), (1, 0, 0, 0, [], []), (27, 9, 2, 21, [], []), (1, 0, 0, 0, [], []), (3, 1, 0, 0, [], []), (0, 1, 0, 0, [], [true, true]), (1, 0, 0, 160, [], []), (18, 3, 35, 0, [], []), (0, 0, 2, 0, [], []), (43, 40, 0, 1, [(28, 0)], []), (19, 1, 18, 0, [], []), (0, 0, 2, 0, [], []), (26, 9, 0, 17, [], []), (43, 36, 0, 1, [(32, 0)], []), (47, 0, 0, 0, [], []), (0, 0, 2, 0, [], []), (26, 9, 0, 17, [], []), (43, 24, 0, 1, [(36, 0)], []), (19, 1, 24, 0, [], []), (1, 0, 0, -1, [], []), (47, 0, 0, 0, [], []), (0, 0, 2, 0, [], []), (26, 9, 0, 17, [], []), (1, 0, 0, 59, [], []), (43, 38, 1, 1, [(39, 0)], []), (19, 1, 33, 0, [], []), (0, 0, 2, 0, [], []), (26, 9, 0, 17, [], []), (43, 36, 0, 1, [(32, 0)], []), (47, 0, 0, 0, [], []), (5, 1, 0, 1, [], []), (22, 0, 8, 0, [], []), (0, 0, 2, 0, [], []), (26, 9, 0, 17, [], []), (43, 36, 0, 1, [(32, 0)], []), (47, 0, 0, 0, [], [])]
def k_WorthReader_readClause : List ja_I0 := [(0, 0, 2, 0, [], []), (26, 9, 0, 17, [], []), (1, 0, 0, 121, [], []), (43, 38, 1, 1, [(39, 0)], []), (19, 0, 10, 0, [], []), (0, 0, 2, 0, [], []), (26, 9, 0, 17, [], []), (1, 0, 0, 58, [], []), (43, 38, 1, 1, [(39, 0)], []), (19, 1, 12, 0, [], []), (1, 0, 0, 0, [], []), (48, 0, 0, 0, [], []), (0, 0, 2, 0, [], []), (26, 9, 0, 17, [], []), (43, 24, 0, 1, [(36, 0)], []), (3, 1, 0, 0, [], []), (0, 1, 0, 0, [], []), (1, 0, 0, 33, [], []), (18, 0, 22, 0, [], []), (0, 1, 0, 0, [], []), (1, 0, 0, 40, [], []), (18, 1, 33, 0, [], []), (0, 0, 2, 0, [], []), (1, 0, 0, 0, [], []), (43, 41, 1, 1, [(43, 0)], []), (19, 0, 31, 0, [], []), (0, 0, 2, 0, [], []), (43, 53, 0, 1, [(46, 0)], []), (19, 0, 31, 0, [], []), (1, 0, 0, 1, [], []), (22, 0, 32, 0, [], []), (1, 0, 0, 0, [], []), (48, 0, 0, 0, [], []), (0, 0, 2, 0, [], []), (1, 0, 0, 0, [], []), (43, 44, 1, 1, [(49, 0)], []), (19, 1, 39, 0, [], []), (1, 0, 0, 0, [], []), (48, 0, 0, 0, [], []), (0, 0, 2, 0, [], []), (26, 9, 0, 17, [], []), (43, 24, 0, 1, [(36, 0)], []), (44, 50, 1, 1, [(52, 0)], []), (19, 1, 48, 0, [], []), (0, 0, 2, 0, [], []), (1, 57, 0, 40000, [], []), (43, 48, 1, 1, [(58, 0)], []), (48, 0, 0, 0, [], []), (0, 0, 2, 0, [], []), (1, 0, 0, 0, [], []), (43, 49, 1, 1, [(61, 0)], []), (19, 0, 65, 0, [], []), (0, 0, 2, 0, [], []), (1, 0, 0, 0, [], []), (43, 51, 1, 1, [(64, 0)], []), (19, 0, 65, 0, [], []), (0, 0, 2, 0, [], []), (1, 0, 0, 0, [], []), (43, 52, 1, 1, [(67, 0)], []), (19, 0, 65, 0, [], []), (0, 0, 2, 0, [], []), (43, 53, 0, 1, [(46, 0)], []), (19, 0, 65, 0, [], []), (1, 0, 0, 1, [], []), (22, 0, 66, 0, [], []), (1, 0, 0, 0, [], []), (48, 0, 0, 0, [], [])]
def k_WorthReader_readCondition : List ja_I0 := [(0, 0, 2, 0, [], []), (0, 1, 0, 0, [], []), (43, 42, 1, 1, [(70, 0)], []), (19, 0, 10, 0, [], []), (0, 0, 2, 0, [], []), (0, 1, 0, 0, [], []), (43, 52, 1, 1, [(67, 0)], []), (19, 0, 10, 0, [], []), (1, 0, 0, 1, [], []), (22, 0, 11, 0, [], []), (1, 0, 0, 0, [], []), (48, 0, 0, 0, [], [])]
def k_WorthReader_readTruth : List ja_I0 := [(0, 0, 2, 0, [], []), (0, 1, 0, 0, [], []), (43, 43, 1, 1, [(73, 0)], []), (19, 0, 10, 0, [], []), (0, 0, 2, 0, [], []), (0, 1, 0, 0, [], []), (43, 51, 1, 1, [(64, 0)], []), (19, 0, 10, 0, [], []), (1, 0, 0, 1, [], []), (22, 0, 11, 0, [], []), (1, 0, 0, 0, [], []), (48, 0, 0, 0, [], [])]
def k_WorthReader_readUnit : List ja_I0 := [(0, 0, 2, 0, [], []), (26, 9, 0, 17, [], []), (43, 24, 0, 1, [(36, 0)], []), (3, 2, 0, 0, [], []), (0, 2, 0, 0, [], []), (1, 0, 0, 33, [], []), (18, 0, 22, 0, [], []), (0, 2, 0, 0, [], []), (1, 0, 0, 40, [], []), (18, 0, 22, 0, [], []), (0, 0, 2, 0, [], []), (0, 1, 0, 0, [], []), (43, 44, 1, 1, [(49, 0)], []), (19, 0, 20, 0, [], []), (0, 0, 2, 0, [], []), (0, 1, 0, 0, [], []), (43, 49, 1, 1, [(61, 0)], []), (19, 0, 20, 0, [], []), (1, 0, 0, 1, [], []), (22, 0, 21, 0, [], []), (1, 0, 0, 0, [], []), (48, 0, 0, 0, [], []), (0, 1, 0, 0, [], []), (1, 0, 0, 6, [], []), (18, 2, 27, 0, [], []), (1, 0, 0, 0, [], []), (48, 0, 0, 0, [], []), (0, 0, 2, 0, [], []), (26, 9, 0, 17, [], []), (43, 28, 0, 0, [(76, 0)], []), (0, 2, 0, 0, [], []), (1, 0, 0, 33, [], []), (18, 1, 47, 0, [], []), (0, 0, 2, 0, [], []), (0, 1, 0, 0, [], []), (1, 0, 0, 1, [], []), (6, 0, 0, 0, [], []), (43, 43, 1, 1, [(73, 0)], []), (19, 0, 45, 0, [], []), (0, 0, 2, 0, [], []), (1, 0, 0, 20033, [], []), (43, 48, 1, 1, [(58, 0)], []), (19, 0, 45, 0, [], []), (1, 0, 0, 1, [], []), (22, 0, 46, 0, [], []), (1, 0, 0, 0, [], []), (48, 0, 0, 0, [], []), (0, 0, 2, 0, [], []), (0, 1, 0, 0, [], []), (1, 0, 0, 1, [], []), (6, 0, 0, 0, [], []), (43, 41, 1, 1, [(43, 0)], []), (19, 0, 60, 0, [], []), (0, 0, 2, 0, [], []), (26, 9, 0, 17, [], []), (1, 0, 0, 41, [], []), (43, 38, 1, 1, [(39, 0)], []), (19, 0, 60, 0, [], []), (1, 0, 0, 1, [], []), (22, 0, 61, 0, [], []), (1, 0, 0, 0, [], []), (48, 0, 0, 0, [], [])]
def k_WorthReader_readSum : List ja_I0 := [(0, 0, 2, 0, [], []), (0, 1, 0, 0, [], []), (43, 45, 1, 1, [(79, 0)], []), (19, 1, 6, 0, [], []), (1, 0, 0, 0, [], []), (48, 0, 0, 0, [], []), (1, 0, 0, 1, [], []), (3, 2, 0, 0, [], []), (0, 2, 0, 0, [], [true, true, true, false]), (1, 0, 0, 160, [], []), (18, 3, 40, 0, [], []), (0, 0, 2, 0, [], []), (26, 9, 0, 17, [], []), (43, 24, 0, 1, [(36, 0)], []), (3, 3, 0, 0, [], []), (0, 3, 0, 0, [], []), (1, 0, 0, 43, [], []), (18, 0, 23, 0, [], []), (0, 3, 0, 0, [], []), (1, 0, 0, 45, [], []), (18, 0, 23, 0, [], []), (1, 0, 0, 1, [], []), (48, 0, 0, 0, [], []), (0, 0, 2, 0, [], []), (26, 9, 0, 17, [], []), (43, 28, 0, 0, [(76, 0)], []), (0, 0, 2, 0, [], []), (0, 1, 0, 0, [], []), (43, 45, 1, 1, [(79, 0)], []), (19, 1, 32, 0, [], []), (1, 0, 0, 0, [], []), (48, 0, 0, 0, [], []), (0, 0, 2, 0, [], []), (1, 0, 0, 20000, [], []), (0, 3, 0, 0, [], []), (6, 0, 0, 0, [], []), (43, 48, 1, 1, [(58, 0)], []), (54, 0, 0, 0, [], []), (5, 2, 0, 1, [], []), (22, 0, 8, 0, [], []), (1, 0, 0, 1, [], []), (48, 0, 0, 0, [], [])]
def k_WorthReader_readTerm : List ja_I0 := [(0, 0, 2, 0, [], []), (0, 1, 0, 0, [], []), (43, 46, 1, 1, [(82, 0)], []), (19, 1, 6, 0, [], []), (1, 0, 0, 0, [], []), (48, 0, 0, 0, [], []), (1, 0, 0, 1, [], []), (3, 2, 0, 0, [], []), (0, 2, 0, 0, [], [true, true, true, false]), (1, 0, 0, 160, [], []), (18, 3, 40, 0, [], []), (0, 0, 2, 0, [], []), (26, 9, 0, 17, [], []), (43, 24, 0, 1, [(36, 0)], []), (3, 3, 0, 0, [], []), (0, 3, 0, 0, [], []), (1, 0, 0, 42, [], []), (18, 0, 23, 0, [], []), (0, 3, 0, 0, [], []), (1, 0, 0, 47, [], []), (18, 0, 23, 0, [], []), (1, 0, 0, 1, [], []), (48, 0, 0, 0, [], []), (0, 0, 2, 0, [], []), (26, 9, 0, 17, [], []), (43, 28, 0, 0, [(76, 0)], []), (0, 0, 2, 0, [], []), (0, 1, 0, 0, [], []), (43, 46, 1, 1, [(82, 0)], []), (19, 1, 32, 0, [], []), (1, 0, 0, 0, [], []), (48, 0, 0, 0, [], []), (0, 0, 2, 0, [], []), (1, 0, 0, 20000, [], []), (0, 3, 0, 0, [], []), (6, 0, 0, 0, [], []), (43, 48, 1, 1, [(58, 0)], []), (54, 0, 0, 0, [], []), (5, 2, 0, 1, [], []), (22, 0, 8, 0, [], []), (1, 0, 0, 1, [], []), (48, 0, 0, 0, [], [])]
def k_WorthReader_readAtom : List ja_I0 := [(0, 0, 2, 0, [], []), (26, 9, 0, 17, [], []), (43, 24, 0, 1, [(36, 0)], []), (3, 2, 0, 0, [], []), (0, 2, 0, 0, [], []), (44, 47, 1, 1, [(85, 0)], []), (3, 3, 0, 0, [], []), (0, 3, 0, 0, [], []), (1, 0, 0, -1, [], []), (18, 0, 19, 0, [], []), (0, 0, 2, 0, [], []), (26, 9, 0, 17, [], []), (43, 28, 0, 0, [(76, 0)], []), (0, 0, 2, 0, [], []), (1, 0, 0, 10000, [], []), (0, 3, 0, 0, [], []), (6, 0, 0, 0, [], []), (43, 48, 1, 1, [(58, 0)], []), (48, 0, 0, 0, [], []), (0, 2, 0, 0, [], []), (1, 0, 0, 91, [], []), (18, 1, 43, 0, [], []), (0, 1, 0, 0, [], []), (1, 0, 0, 6, [], []), (18, 3, 43, 0, [], []), (0, 0, 2, 0, [], []), (26, 9, 0, 17, [], []), (43, 28, 0, 0, [(76, 0)], []), (0, 0, 2, 0, [], []), (0, 1, 0, 0, [], []), (1, 0, 0, 1, [], []), (6, 0, 0, 0, [], []), (43, 44, 1, 1, [(49, 0)], []), (19, 0, 41, 0, [], []), (0, 0, 2, 0, [], []), (26, 9, 0, 17, [], []), (1, 0, 0, 93, [], []), (43, 38, 1, 1, [(39, 0)], []), (19, 0, 41, 0, [], []), (1, 0, 0, 1, [], []), (22, 0, 42, 0, [], []), (1, 0, 0, 0, [], []), (48, 0, 0, 0, [], []), (0, 0, 2, 0, [], []), (26, 9, 0, 17, [], []), (1, 0, 0, 4, [], []), (43, 32, 1, 1, [(89, 0)], []), (3, 4, 0, 0, [], []), (0, 4, 0, 0, [], []), (1, 0, 0, -1, [], []), (18, 0, 57, 0, [], []), (0, 0, 2, 0, [], []), (0, 4, 0, 0, [], []), (43, 48, 1, 1, [(58, 0)], []), (19, 0, 57, 0, [], []), (1, 0, 0, 1, [], []), (22, 0, 58, 0, [], []), (1, 0, 0, 0, [], []), (48, 0, 0, 0, [], [])]
def k_Worths_letterOf : List ja_I0 := [(0, 0, 0, 0, [], []), (23, 0, 12, 0, [(98, 6), (100, 10), (109, 8), (112, 4), (116, 2)], []), (1, 0, 0, 0, [], []), (47, 0, 0, 0, [], []), (1, 0, 0, 1, [], []), (47, 0, 0, 0, [], []), (1, 0, 0, 2, [], []), (47, 0, 0, 0, [], []), (1, 0, 0, 3, [], []), (47, 0, 0, 0, [], []), (1, 0, 0, 4, [], []), (47, 0, 0, 0, [], []), (1, 0, 0, -1, [], []), (47, 0, 0, 0, [], [])]
def k_WorthReader_write : List ja_I0 := [(0, 0, 2, 0, [], []), (24, 9, 2, 21, [], []), (0, 0, 2, 0, [], []), (26, 9, 1, 11, [], []), (39, 0, 0, 0, [], []), (18, 3, 18, 0, [], []), (0, 0, 2, 0, [], []), (26, 9, 1, 11, [], []), (0, 0, 2, 0, [], []), (24, 9, 2, 21, [], []), (0, 1, 0, 0, [], []), (36, 0, 0, 0, [], []), (0, 0, 2, 0, [], []), (52, 0, 0, 0, [], []), (24, 9, 2, 21, [], []), (1, 0, 0, 1, [], []), (6, 0, 0, 0, [], []), (27, 9, 2, 21, [], []), (1, 0, 0, 1, [], []), (48, 0, 0, 0, [], [])]
def k_WorthReader_readComparison : List ja_I0 := [(0, 0, 2, 0, [], []), (26, 9, 0, 17, [], []), (43, 24, 0, 1, [(36, 0)], []), (3, 2, 0, 0, [], []), (0, 2, 0, 0, [], []), (44, 50, 1, 1, [(52, 0)], []), (19, 1, 9, 0, [], []), (1, 0, 0, 0, [], []), (48, 0, 0, 0, [], []), (0, 0, 2, 0, [], []), (26, 9, 0, 17, [], []), (43, 28, 0, 0, [(76, 0)], []), (0, 0, 2, 0, [], []), (0, 1, 0, 0, [], []), (43, 44, 1, 1, [(49, 0)], []), (19, 0, 24, 0, [], []), (0, 0, 2, 0, [], []), (1, 0, 0, 20000, [], []), (0, 2, 0, 0, [], []), (6, 0, 0, 0, [], []), (43, 48, 1, 1, [(58, 0)], []), (19, 0, 24, 0, [], []), (1, 0, 0, 1, [], []), (22, 0, 25, 0, [], []), (1, 0, 0, 0, [], []), (48, 0, 0, 0, [], [])]
def k_WorthReader_isComparison : List ja_I0 := [(0, 0, 0, 0, [], []), (1, 0, 0, 61, [], []), (18, 0, 9, 0, [], []), (0, 0, 0, 0, [], []), (1, 0, 0, 60, [], []), (18, 0, 9, 0, [], []), (0, 0, 0, 0, [], []), (1, 0, 0, 62, [], []), (18, 1, 11, 0, [], []), (1, 0, 0, 1, [], []), (22, 0, 12, 0, [], []), (1, 0, 0, 0, [], []), (48, 0, 0, 0, [], [])]
def k_WorthReader_readMoreUnits : List ja_I0 := [(1, 0, 0, 0, [], []), (3, 2, 0, 0, [], []), (0, 2, 0, 0, [], [true, true, true]), (1, 0, 0, 160, [], []), (18, 3, 22, 0, [], []), (0, 0, 2, 0, [], []), (26, 9, 0, 17, [], []), (1, 0, 0, 38, [], []), (43, 38, 1, 1, [(39, 0)], []), (19, 0, 22, 0, [], []), (0, 0, 2, 0, [], []), (0, 1, 0, 0, [], []), (43, 43, 1, 1, [(73, 0)], []), (19, 1, 16, 0, [], []), (1, 0, 0, 0, [], []), (48, 0, 0, 0, [], []), (0, 0, 2, 0, [], []), (1, 0, 0, 20038, [], []), (43, 48, 1, 1, [(58, 0)], []), (54, 0, 0, 0, [], []), (5, 2, 0, 1, [], []), (22, 0, 2, 0, [], []), (1, 0, 0, 1, [], []), (48, 0, 0, 0, [], [])]
def k_WorthReader_readMoreTruths : List ja_I0 := [(1, 0, 0, 0, [], []), (3, 2, 0, 0, [], []), (0, 2, 0, 0, [], [true, true, true]), (1, 0, 0, 160, [], []), (18, 3, 22, 0, [], []), (0, 0, 2, 0, [], []), (26, 9, 0, 17, [], []), (1, 0, 0, 124, [], []), (43, 38, 1, 1, [(39, 0)], []), (19, 0, 22, 0, [], []), (0, 0, 2, 0, [], []), (0, 1, 0, 0, [], []), (43, 42, 1, 1, [(70, 0)], []), (19, 1, 16, 0, [], []), (1, 0, 0, 0, [], []), (48, 0, 0, 0, [], []), (0, 0, 2, 0, [], []), (1, 0, 0, 20124, [], []), (43, 48, 1, 1, [(58, 0)], []), (54, 0, 0, 0, [], []), (5, 2, 0, 1, [], []), (22, 0, 2, 0, [], []), (1, 0, 0, 1, [], []), (48, 0, 0, 0, [], [])]
def k_WorthReader_readWhatFollowsCondition : List ja_I0 := [(0, 0, 2, 0, [], []), (26, 9, 0, 17, [], []), (1, 0, 0, 63, [], []), (43, 38, 1, 1, [(39, 0)], []), (19, 1, 7, 0, [], []), (1, 0, 0, 0, [], []), (48, 0, 0, 0, [], []), (0, 0, 2, 0, [], []), (24, 9, 2, 21, [], []), (3, 1, 0, 0, [], []), (0, 0, 2, 0, [], []), (1, 0, 0, 30000, [], []), (43, 48, 1, 1, [(58, 0)], []), (54, 0, 0, 0, [], []), (0, 0, 2, 0, [], []), (1, 0, 0, 0, [], []), (43, 44, 1, 1, [(49, 0)], []), (19, 0, 22, 0, [], []), (0, 0, 2, 0, [], []), (1, 57, 0, 40000, [], []), (43, 48, 1, 1, [(58, 0)], []), (19, 1, 24, 0, [], []), (1, 0, 0, 0, [], []), (48, 0, 0, 0, [], []), (0, 1, 0, 0, [], []), (0, 0, 2, 0, [], []), (26, 9, 1, 11, [], []), (39, 0, 0, 0, [], []), (18, 3, 37, 0, [], []), (0, 0, 2, 0, [], []), (26, 9, 1, 11, [], []), (0, 1, 0, 0, [], []), (1, 0, 0, 30000, [], []), (0, 0, 2, 0, [], []), (24, 9, 2, 21, [], []), (6, 0, 0, 0, [], []), (36, 0, 0, 0, [], []), (1, 0, 0, 1, [], []), (48, 0, 0, 0, [], [])]
def k_X_text : List ja_I0 := [(0, 1, 0, 0, [], []), (19, 1, 31, 0, [], []), (0, 0, 2, 0, [], []), (26, 11, 1, 21, [], []), (43, 20, 0, 1, [(113, 0)], []), (1, 0, 0, -1, [], []), (18, 1, 31, 0, [], []), (0, 0, 2, 0, [], []), (26, 11, 0, 10, [], []), (1, 0, 0, 0, [], []), (43, 18, 1, 1, [(110, 0)], []), (54, 0, 0, 0, [], []), (0, 0, 2, 0, [], []), (26, 11, 3, 35, [], []), (0, 0, 2, 0, [], []), (26, 11, 1, 21, [], []), (43, 55, 0, 3, [(117, 0)], []), (43, 56, 1, 0, [(121, 0)], []), (0, 0, 2, 0, [], []), (26, 11, 5, 51, [], []), (43, 57, 0, 0, [(124, 0)], []), (0, 0, 2, 0, [], []), (26, 11, 6, 60, [], []), (43, 60, 0, 0, [(127, 0)], []), (0, 0, 2, 0, [], []), (26, 11, 9, 83, [], []), (43, 61, 0, 0, [(130, 0)], []), (0, 0, 2, 0, [], []), (26, 11, 3, 35, [], []), (43, 59, 0, 1, [(131, 0)], []), (47, 0, 0, 0, [], []), (0, 1, 0, 0, [], []), (1, 0, 0, 1, [], []), (18, 1, 58, 0, [], []), (0, 0, 2, 0, [], []), (26, 11, 4, 42, [], []), (43, 62, 0, 1, [(134, 0)], []), (19, 0, 58, 0, [], []), (0, 0, 2, 0, [], []), (26, 11, 2, 28, [], []), (43, 39, 0, 1, [(116, 0)], []), (1, 0, 0, -1, [], []), (18, 1, 58, 0, [], []), (0, 0, 2, 0, [], []), (26, 11, 0, 10, [], []), (1, 0, 0, 0, [], []), (43, 18, 1, 1, [(110, 0)], []), (54, 0, 0, 0, [], []), (0, 0, 2, 0, [], []), (26, 11, 4, 42, [], []), (0, 0, 2, 0, [], []), (26, 11, 2, 28, [], []), (43, 63, 0, 3, [(137, 0)], []), (0, 0, 2, 0, [], []), (26, 11, 2, 28, [], []), (43, 64, 0, 1, [(141, 0)], []), (43, 65, 2, 1, [(144, 0)], []), (47, 0, 0, 0, [], []), (1, 0, 0, -1, [], []), (47, 0, 0, 0, [], [])]
def k_HuntReader_draft : List ja_I0 := [(0, 0, 2, 0, [], []), (26, 4, 1, 12, [], []), (50, 0, 0, 0, [], [])]
def k_Hunt_copyFrom : List ja_I0 := [(0, 0, 2, 0, [], []), (0, 1, 2, 0, [], []), (24, 3, 3, 21, [], []), (27, 3, 3, 21, [], []), (0, 0, 2, 0, [], []), (0, 1, 2, 0, [], []), (24, 3, 4, 25, [], []), (27, 3, 4, 25, [], []), (0, 0, 2, 0, [], []), (0, 1, 2, 0, [], []), (24, 3, 5, 28, [], []), (27, 3, 5, 28, [], []), (0, 0, 2, 0, [], []), (0, 1, 2, 0, [], []), (24, 3, 6, 31, [], []), (27, 3, 6, 31, [], []), (0, 1, 2, 0, [], []), (26, 3, 0, 9, [], []), (1, 0, 0, 0, [], []), (0, 0, 2, 0, [], []), (26, 3, 0, 9, [], []), (1, 0, 0, 0, [], []), (1, 0, 0, 6, [], []), (55, 0, 0, 34, [], []), (0, 1, 2, 0, [], []), (26, 3, 1, 15, [], []), (1, 0, 0, 0, [], []), (0, 0, 2, 0, [], []), (26, 3, 1, 15, [], []), (1, 0, 0, 0, [], []), (1, 0, 0, 6, [], []), (55, 0, 0, 34, [], []), (0, 1, 2, 0, [], []), (26, 3, 2, 18, [], []), (1, 0, 0, 0, [], []), (0, 0, 2, 0, [], []), (26, 3, 2, 18, [], []), (1, 0, 0, 0, [], []), (1, 0, 0, 6, [], []), (55, 0, 0, 34, [], []), (51, 0, 0, 0, [], [])]
def k_Table_reset : List ja_I0 := [(0, 0, 2, 0, [], []), (26, 7, 0, 20, [], []), (43, 58, 0, 1, [(24, 0)], []), (3, 1, 0, 0, [], []), (1, 0, 0, 0, [], []), (3, 2, 0, 0, [], []), (0, 2, 0, 0, [], [true, true, true, false]), (0, 0, 2, 0, [], []), (26, 7, 0, 20, [], []), (43, 59, 0, 1, [(30, 0)], []), (18, 3, 36, 0, [], []), (0, 0, 2, 0, [], []), (26, 7, 2, 16, [], []), (0, 2, 0, 0, [], []), (1, 0, 0, 0, [], []), (36, 0, 0, 0, [], []), (1, 0, 0, 0, [], []), (3, 3, 0, 0, [], []), (0, 3, 0, 0, [], [true, true, true, true]), (0, 1, 0, 0, [], []), (18, 3, 34, 0, [], []), (0, 0, 2, 0, [], []), (26, 7, 1, 11, [], []), (0, 2, 0, 0, [], []), (35, 0, 0, 0, [], []), (0, 3, 0, 0, [], []), (0, 3, 0, 0, [], []), (0, 2, 0, 0, [], []), (6, 0, 0, 0, [], []), (0, 1, 0, 0, [], []), (8, 0, 0, 0, [], []), (36, 0, 0, 0, [], []), (5, 3, 0, 1, [], []), (22, 0, 18, 0, [], []), (5, 2, 0, 1, [], []), (22, 0, 6, 0, [], []), (51, 0, 0, 0, [], [])]
def k_Hunt_places : List ja_I0 := [(0, 0, 2, 0, [], []), (24, 3, 3, 21, [], []), (47, 0, 0, 0, [], [])]
def k_Hunt_bands : List ja_I0 := [(0, 0, 2, 0, [], []), (24, 3, 4, 25, [], []), (47, 0, 0, 0, [], [])]
def k_Past_forget : List ja_I0 := [(0, 0, 2, 0, [], []), (1, 0, 0, 0, [], []), (27, 6, 4, 31, [], []), (0, 0, 2, 0, [], []), (1, 0, 0, 0, [], []), (28, 6, 7, 35, [], []), (51, 0, 0, 0, [], [])]
def k_Finds_forget : List ja_I0 := [(0, 0, 2, 0, [], []), (1, 0, 0, 0, [], []), (27, 1, 3, 42, [], []), (0, 0, 2, 0, [], []), (1, 0, 0, 0, [], []), (28, 1, 5, 46, [], []), (1, 0, 0, 0, [], []), (3, 1, 0, 0, [], []), (0, 1, 0, 0, [], [true, true, false]), (0, 0, 2, 0, [], []), (26, 1, 0, 38, [], []), (43, 59, 0, 1, [(50, 0)], []), (18, 3, 37, 0, [], []), (1, 0, 0, 0, [], []), (3, 2, 0, 0, [], []), (0, 2, 0, 0, [], [true, true, true]), (0, 0, 2, 0, [], []), (26, 1, 0, 38, [], []), (43, 58, 0, 1, [(56, 0)], []), (18, 3, 35, 0, [], []), (0, 0, 2, 0, [], []), (26, 1, 1, 11, [], []), (0, 1, 0, 0, [], []), (35, 0, 0, 0, [], []), (0, 2, 0, 0, [], []), (1, 0, 0, 1, [], []), (0, 0, 2, 0, [], []), (26, 1, 0, 38, [], []), (43, 58, 0, 1, [(56, 0)], []), (6, 6, 0, 0, [], []), (1, 0, 0, 1, [], []), (6, 1, 0, 0, [], []), (36, 0, 0, 0, [], []), (5, 2, 0, 1, [], []), (22, 0, 15, 0, [], []), (5, 1, 0, 1, [], []), (22, 0, 8, 0, [], []), (51, 0, 0, 0, [], [])]
def k_Worths_hasRoom : List ja_I0 := [(0, 0, 2, 0, [], []), (24, 10, 4, 32, [], []), (1, 0, 0, 4, [], []), (18, 3, 6, 0, [], []), (1, 0, 0, 1, [], []), (22, 0, 7, 0, [], []), (1, 0, 0, 0, [], []), (48, 0, 0, 0, [], [])]
def k_WorthReader_code : List ja_I0 := [(0, 0, 2, 0, [], []), (26, 9, 1, 11, [], []), (50, 0, 0, 0, [], [])]
def k_WorthReader_size : List ja_I0 := [(0, 0, 2, 0, [], []), (24, 9, 2, 21, [], []), (47, 0, 0, 0, [], [])]
def k_Worths_keep : List ja_I0 := [(0, 0, 2, 0, [], []), (24, 10, 4, 32, [], []), (1, 0, 0, 4, [], []), (18, 3, 13, 0, [], []), (0, 2, 0, 0, [], []), (19, 2, 13, 0, [], []), (0, 2, 0, 0, [], []), (0, 1, 2, 0, [], []), (39, 0, 0, 0, [], []), (18, 4, 13, 0, [], []), (0, 2, 0, 0, [], []), (1, 0, 0, 160, [], []), (18, 5, 15, 0, [], []), (1, 0, 0, -1, [], []), (47, 0, 0, 0, [], []), (0, 1, 2, 0, [], []), (1, 0, 0, 0, [], []), (0, 0, 2, 0, [], []), (26, 10, 0, 15, [], []), (0, 0, 2, 0, [], []), (24, 10, 4, 32, [], []), (35, 0, 0, 0, [], []), (1, 0, 0, 0, [], []), (0, 2, 0, 0, [], []), (55, 0, 0, 35, [], []), (0, 0, 2, 0, [], []), (26, 10, 1, 18, [], []), (0, 0, 2, 0, [], []), (24, 10, 4, 32, [], []), (0, 2, 0, 0, [], []), (36, 0, 0, 0, [], []), (0, 0, 2, 0, [], []), (52, 0, 0, 0, [], []), (24, 10, 4, 32, [], []), (1, 0, 0, 1, [], []), (6, 0, 0, 0, [], []), (27, 10, 4, 32, [], []), (0, 0, 2, 0, [], []), (24, 10, 4, 32, [], []), (1, 0, 0, 1, [], []), (6, 1, 0, 0, [], []), (47, 0, 0, 0, [], [])]
def k_X_band : List ja_I0 := [(0, 0, 2, 0, [], []), (26, 11, 3, 35, [], []), (0, 1, 0, 0, [], []), (43, 67, 1, 1, [(160, 0)], []), (19, 1, 7, 0, [], []), (1, 0, 0, -1, [], []), (47, 0, 0, 0, [], []), (0, 2, 0, 0, [], []), (19, 1, 14, 0, [], []), (0, 0, 2, 0, [], []), (26, 11, 3, 35, [], []), (0, 1, 0, 0, [], []), (43, 68, 1, 1, [(163, 0)], []), (47, 0, 0, 0, [], []), (0, 2, 0, 0, [], []), (1, 0, 0, 1, [], []), (18, 1, 22, 0, [], []), (0, 0, 2, 0, [], []), (26, 11, 5, 51, [], []), (0, 1, 0, 0, [], []), (43, 69, 1, 1, [(166, 0)], []), (47, 0, 0, 0, [], []), (0, 2, 0, 0, [], []), (1, 0, 0, 2, [], []), (18, 1, 30, 0, [], []), (0, 0, 2, 0, [], []), (26, 11, 5, 51, [], []), (0, 1, 0, 0, [], []), (43, 72, 1, 1, [(169, 0)], []), (22, 0, 31, 0, [], []), (1, 0, 0, -1, [], []), (47, 0, 0, 0, [], [])]
def k_Hunt_hasBand : List ja_I0 := [(0, 1, 0, 0, [], []), (19, 2, 8, 0, [], []), (0, 1, 0, 0, [], []), (0, 0, 2, 0, [], []), (24, 3, 4, 25, [], []), (18, 3, 8, 0, [], []), (1, 0, 0, 1, [], []), (22, 0, 9, 0, [], []), (1, 0, 0, 0, [], []), (48, 0, 0, 0, [], [])]
def k_Hunt_slow : List ja_I0 := [(0, 0, 2, 0, [], []), (0, 1, 0, 0, [], []), (43, 67, 1, 1, [(44, 0)], []), (19, 0, 9, 0, [], []), (0, 0, 2, 0, [], []), (26, 3, 2, 18, [], []), (0, 1, 0, 0, [], []), (32, 0, 0, 0, [], []), (22, 0, 10, 0, [], []), (1, 0, 0, -1, [], []), (47, 0, 0, 0, [], [])]
def k_Table_digitsOf : List ja_I0 := [(1, 0, 0, 0, [], []), (3, 2, 0, 0, [], []), (1, 0, 0, 0, [], []), (3, 3, 0, 0, [], []), (0, 3, 0, 0, [], [true, true, true, true]), (0, 0, 2, 0, [], []), (26, 7, 0, 20, [], []), (43, 58, 0, 1, [(24, 0)], []), (18, 3, 20, 0, [], []), (0, 2, 0, 0, [], []), (1, 0, 0, 10, [], []), (6, 2, 0, 0, [], []), (0, 0, 2, 0, [], []), (0, 1, 0, 0, [], []), (0, 3, 0, 0, [], []), (43, 70, 2, 1, [(40, 0)], []), (6, 0, 0, 0, [], []), (3, 2, 0, 0, [], []), (5, 3, 0, 1, [], []), (22, 0, 4, 0, [], []), (0, 2, 0, 0, [], []), (47, 0, 0, 0, [], [])]
def k_Table_placeOf : List ja_I0 := [(0, 0, 2, 0, [], []), (26, 7, 0, 20, [], []), (0, 1, 0, 0, [], []), (43, 67, 1, 1, [(33, 0)], []), (19, 0, 17, 0, [], []), (0, 0, 2, 0, [], []), (26, 7, 0, 20, [], []), (0, 2, 0, 0, [], []), (43, 71, 1, 1, [(37, 0)], []), (19, 0, 17, 0, [], []), (0, 0, 2, 0, [], []), (26, 7, 1, 11, [], []), (0, 1, 0, 0, [], []), (35, 0, 0, 0, [], []), (0, 2, 0, 0, [], []), (32, 0, 0, 0, [], []), (22, 0, 18, 0, [], []), (1, 0, 0, -1, [], []), (47, 0, 0, 0, [], [])]
def k_Hunt_hasPlace : List ja_I0 := [(0, 1, 0, 0, [], []), (19, 2, 8, 0, [], []), (0, 1, 0, 0, [], []), (0, 0, 2, 0, [], []), (24, 3, 3, 21, [], []), (18, 3, 8, 0, [], []), (1, 0, 0, 1, [], []), (22, 0, 9, 0, [], []), (1, 0, 0, 0, [], []), (48, 0, 0, 0, [], [])]
def k_Table_startOf : List ja_I0 := [(0, 0, 2, 0, [], []), (26, 7, 0, 20, [], []), (0, 1, 0, 0, [], []), (43, 67, 1, 1, [(33, 0)], []), (19, 0, 10, 0, [], []), (0, 0, 2, 0, [], []), (26, 7, 2, 16, [], []), (0, 1, 0, 0, [], []), (32, 0, 0, 0, [], []), (22, 0, 11, 0, [], []), (1, 0, 0, -1, [], []), (47, 0, 0, 0, [], [])]
def k_X_order : List ja_I0 := [(0, 0, 2, 0, [], []), (26, 11, 3, 35, [], []), (0, 1, 0, 0, [], []), (43, 67, 1, 1, [(160, 0)], []), (19, 0, 10, 0, [], []), (0, 0, 2, 0, [], []), (26, 11, 5, 51, [], []), (0, 2, 0, 0, [], []), (43, 74, 1, 1, [(172, 0)], []), (19, 1, 12, 0, [], []), (1, 0, 0, -1, [], []), (47, 0, 0, 0, [], []), (0, 0, 2, 0, [], []), (26, 11, 6, 60, [], []), (43, 75, 0, 0, [(175, 0)], []), (0, 0, 2, 0, [], []), (26, 11, 5, 51, [], []), (0, 1, 0, 0, [], []), (0, 2, 0, 0, [], []), (43, 77, 2, 0, [(178, 0)], []), (0, 0, 2, 0, [], []), (26, 11, 6, 60, [], []), (43, 78, 0, 1, [(182, 0)], []), (47, 0, 0, 0, [], [])]
def k_Table_isOrder : List ja_I0 := [(0, 1, 0, 0, [], []), (3, 2, 0, 0, [], []), (1, 0, 0, 0, [], []), (3, 3, 0, 0, [], []), (1, 0, 0, 0, [], []), (3, 4, 0, 0, [], []), (0, 4, 0, 0, [], [true, false, true, true, true, false]), (0, 0, 2, 0, [], []), (26, 7, 0, 20, [], []), (43, 58, 0, 1, [(24, 0)], []), (18, 3, 41, 0, [], []), (0, 2, 0, 0, [], []), (1, 0, 0, 10, [], []), (8, 0, 0, 0, [], []), (3, 5, 0, 0, [], []), (0, 0, 2, 0, [], []), (26, 7, 0, 20, [], []), (0, 5, 0, 0, [], []), (43, 71, 1, 1, [(37, 0)], []), (19, 0, 27, 0, [], []), (0, 3, 0, 0, [], []), (0, 5, 0, 0, [], []), (6, 7, 0, 0, [], []), (1, 0, 0, 1, [], []), (6, 3, 0, 0, [], []), (1, 0, 0, 1, [], []), (18, 1, 29, 0, [], []), (1, 0, 0, 0, [], []), (48, 0, 0, 0, [], []), (0, 3, 0, 0, [], []), (1, 0, 0, 1, [], []), (0, 5, 0, 0, [], []), (6, 6, 0, 0, [], []), (6, 4, 0, 0, [], []), (3, 3, 0, 0, [], []), (0, 2, 0, 0, [], []), (1, 0, 0, 10, [], []), (7, 0, 0, 0, [], []), (3, 2, 0, 0, [], []), (5, 4, 0, 1, [], []), (22, 0, 6, 0, [], []), (0, 2, 0, 0, [], []), (19, 1, 45, 0, [], []), (1, 0, 0, 1, [], []), (22, 0, 46, 0, [], []), (1, 0, 0, 0, [], []), (48, 0, 0, 0, [], [])]
def k_Past_remember : List ja_I0 := [(0, 0, 2, 0, [], []), (0, 0, 2, 0, [], []), (26, 6, 2, 13, [], []), (0, 0, 2, 0, [], []), (24, 6, 3, 55, [], []), (35, 0, 0, 0, [], []), (43, 76, 1, 0, [(58, 0)], []), (0, 0, 2, 0, [], []), (0, 0, 2, 0, [], []), (24, 6, 3, 55, [], []), (1, 0, 0, 1, [], []), (6, 0, 0, 0, [], []), (1, 0, 0, 40, [], []), (8, 0, 0, 0, [], []), (27, 6, 3, 55, [], []), (0, 0, 2, 0, [], []), (0, 0, 2, 0, [], []), (24, 6, 4, 31, [], []), (1, 0, 0, 1, [], []), (6, 0, 0, 0, [], []), (1, 0, 0, 40, [], []), (58, 0, 0, 62, [], []), (27, 6, 4, 31, [], []), (51, 0, 0, 0, [], [])]
def k_Past_keepOrders : List ja_I0 := [(1, 0, 0, 0, [], []), (3, 2, 0, 0, [], []), (0, 2, 0, 0, [], [true, true, true]), (0, 0, 2, 0, [], []), (26, 6, 0, 23, [], []), (43, 59, 0, 1, [(39, 0)], []), (18, 3, 20, 0, [], []), (0, 2, 0, 0, [], []), (0, 1, 2, 0, [], []), (39, 0, 0, 0, [], []), (18, 3, 20, 0, [], []), (0, 1, 2, 0, [], []), (0, 2, 0, 0, [], []), (0, 0, 2, 0, [], []), (26, 6, 1, 27, [], []), (0, 2, 0, 0, [], []), (43, 69, 1, 1, [(45, 0)], []), (36, 0, 0, 0, [], []), (5, 2, 0, 1, [], []), (22, 0, 2, 0, [], []), (51, 0, 0, 0, [], [])]
def k_Table_putOrder : List ja_I0 := [(0, 0, 2, 0, [], []), (26, 7, 0, 20, [], []), (0, 1, 0, 0, [], []), (43, 67, 1, 1, [(33, 0)], []), (19, 1, 6, 0, [], []), (51, 0, 0, 0, [], []), (0, 2, 0, 0, [], []), (3, 3, 0, 0, [], []), (0, 0, 2, 0, [], []), (26, 7, 0, 20, [], []), (43, 58, 0, 1, [(24, 0)], []), (1, 0, 0, 1, [], []), (6, 1, 0, 0, [], []), (3, 4, 0, 0, [], []), (0, 4, 0, 0, [], [true, true, false, true, true]), (19, 2, 31, 0, [], []), (0, 0, 2, 0, [], []), (26, 7, 1, 11, [], []), (0, 1, 0, 0, [], []), (35, 0, 0, 0, [], []), (0, 4, 0, 0, [], []), (0, 3, 0, 0, [], []), (1, 0, 0, 10, [], []), (8, 0, 0, 0, [], []), (36, 0, 0, 0, [], []), (0, 3, 0, 0, [], []), (1, 0, 0, 10, [], []), (7, 0, 0, 0, [], []), (3, 3, 0, 0, [], []), (5, 4, 0, -1, [], []), (22, 0, 14, 0, [], []), (51, 0, 0, 0, [], [])]
def k_Past_acts : List ja_I0 := [(0, 0, 2, 0, [], []), (24, 6, 4, 31, [], []), (47, 0, 0, 0, [], [])]
def k_X_start : List ja_I0 := [(0, 0, 2, 0, [], []), (26, 11, 3, 35, [], []), (0, 1, 0, 0, [], []), (43, 67, 1, 1, [(160, 0)], []), (19, 0, 10, 0, [], []), (0, 2, 0, 0, [], []), (19, 2, 10, 0, [], []), (0, 2, 0, 0, [], []), (1, 0, 0, 99, [], []), (18, 5, 12, 0, [], []), (1, 0, 0, 0, [], []), (48, 0, 0, 0, [], []), (0, 0, 2, 0, [], []), (26, 11, 5, 51, [], []), (0, 1, 0, 0, [], []), (0, 2, 0, 0, [], []), (43, 80, 2, 0, [(185, 0)], []), (1, 0, 0, 1, [], []), (48, 0, 0, 0, [], [])]
def k_Table_putStart : List ja_I0 := [(0, 0, 2, 0, [], []), (26, 7, 0, 20, [], []), (0, 1, 0, 0, [], []), (43, 67, 1, 1, [(33, 0)], []), (19, 0, 10, 0, [], []), (0, 0, 2, 0, [], []), (26, 7, 2, 16, [], []), (0, 1, 0, 0, [], []), (0, 2, 0, 0, [], []), (36, 0, 0, 0, [], []), (51, 0, 0, 0, [], [])]
def k_X_worth : List ja_I0 := [(0, 0, 2, 0, [], []), (26, 11, 4, 42, [], []), (0, 1, 0, 0, [], []), (43, 82, 1, 1, [(188, 0)], []), (48, 0, 0, 0, [], [])]
def k_Worths_hold : List ja_I0 := [(0, 1, 0, 0, [], []), (1, 0, 0, -1, [], []), (18, 2, 7, 0, [], []), (0, 1, 0, 0, [], []), (0, 0, 2, 0, [], []), (24, 10, 4, 32, [], []), (18, 2, 9, 0, [], []), (1, 0, 0, 0, [], []), (48, 0, 0, 0, [], []), (0, 0, 2, 0, [], []), (0, 1, 0, 0, [], []), (27, 10, 5, 28, [], []), (1, 0, 0, 1, [], []), (48, 0, 0, 0, [], [])]
def k_X_undo : List ja_I0 := [(0, 0, 2, 0, [], []), (26, 11, 6, 60, [], []), (43, 78, 0, 1, [(182, 0)], []), (19, 1, 6, 0, [], []), (1, 0, 0, -1, [], []), (47, 0, 0, 0, [], []), (0, 0, 2, 0, [], []), (26, 11, 6, 60, [], []), (43, 84, 0, 0, [(191, 0)], []), (0, 0, 2, 0, [], []), (26, 11, 6, 60, [], []), (43, 78, 0, 1, [(182, 0)], []), (47, 0, 0, 0, [], [])]
def k_Past_undoLatest : List ja_I0 := [(0, 0, 2, 0, [], []), (24, 6, 4, 31, [], []), (19, 1, 4, 0, [], []), (51, 0, 0, 0, [], []), (0, 0, 2, 0, [], []), (0, 0, 2, 0, [], []), (24, 6, 3, 55, [], []), (1, 0, 0, 40, [], []), (6, 0, 0, 0, [], []), (1, 0, 0, 1, [], []), (6, 1, 0, 0, [], []), (1, 0, 0, 40, [], []), (8, 0, 0, 0, [], []), (27, 6, 3, 55, [], []), (0, 0, 2, 0, [], []), (52, 0, 0, 0, [], []), (24, 6, 4, 31, [], []), (1, 0, 0, 1, [], []), (6, 1, 0, 0, [], []), (27, 6, 4, 31, [], []), (0, 0, 2, 0, [], []), (0, 0, 2, 0, [], []), (26, 6, 2, 13, [], []), (0, 0, 2, 0, [], []), (24, 6, 3, 55, [], []), (35, 0, 0, 0, [], []), (43, 85, 1, 0, [(68, 0)], []), (51, 0, 0, 0, [], [])]
def k_Past_bringOrders : List ja_I0 := [(1, 0, 0, 0, [], []), (3, 2, 0, 0, [], []), (0, 2, 0, 0, [], [true, true, true]), (0, 0, 2, 0, [], []), (26, 6, 0, 23, [], []), (43, 59, 0, 1, [(39, 0)], []), (18, 3, 20, 0, [], []), (0, 2, 0, 0, [], []), (0, 1, 2, 0, [], []), (39, 0, 0, 0, [], []), (18, 3, 20, 0, [], []), (0, 0, 2, 0, [], []), (26, 6, 1, 27, [], []), (0, 2, 0, 0, [], []), (0, 1, 2, 0, [], []), (0, 2, 0, 0, [], []), (32, 0, 0, 0, [], []), (43, 77, 2, 0, [(51, 0)], []), (5, 2, 0, 1, [], []), (22, 0, 2, 0, [], []), (51, 0, 0, 0, [], [])]
def k_X_at : List ja_I0 := [(0, 0, 2, 0, [], []), (26, 11, 5, 51, [], []), (0, 1, 0, 0, [], []), (0, 2, 0, 0, [], []), (43, 70, 2, 1, [(194, 0)], []), (47, 0, 0, 0, [], [])]
def k_X_follows : List ja_I0 := [(0, 1, 0, 0, [], []), (0, 2, 0, 0, [], []), (18, 0, 13, 0, [], []), (0, 0, 2, 0, [], []), (26, 11, 3, 35, [], []), (0, 1, 0, 0, [], []), (43, 67, 1, 1, [(160, 0)], []), (19, 0, 13, 0, [], []), (0, 0, 2, 0, [], []), (26, 11, 3, 35, [], []), (0, 2, 0, 0, [], []), (43, 67, 1, 1, [(160, 0)], []), (19, 1, 15, 0, [], []), (1, 0, 0, -1, [], []), (47, 0, 0, 0, [], []), (0, 0, 2, 0, [], []), (26, 11, 5, 51, [], []), (0, 1, 0, 0, [], []), (0, 2, 0, 0, [], []), (43, 88, 2, 1, [(198, 0)], []), (47, 0, 0, 0, [], [])]
def k_Table_timesFollowed : List ja_I0 := [(1, 0, 0, 0, [], []), (3, 3, 0, 0, [], []), (1, 0, 0, 1, [], []), (3, 4, 0, 0, [], []), (0, 4, 0, 0, [], [true, true, true, true, true]), (0, 0, 2, 0, [], []), (26, 7, 0, 20, [], []), (43, 58, 0, 1, [(24, 0)], []), (18, 3, 23, 0, [], []), (0, 0, 2, 0, [], []), (0, 1, 0, 0, [], []), (0, 4, 0, 0, [], []), (43, 70, 2, 1, [(40, 0)], []), (0, 0, 2, 0, [], []), (0, 2, 0, 0, [], []), (0, 4, 0, 0, [], []), (1, 0, 0, 1, [], []), (6, 1, 0, 0, [], []), (43, 70, 2, 1, [(40, 0)], []), (18, 1, 21, 0, [], []), (5, 3, 0, 1, [], []), (5, 4, 0, 1, [], []), (22, 0, 4, 0, [], []), (0, 3, 0, 0, [], []), (47, 0, 0, 0, [], [])]
def k_X_lawful : List ja_I0 := [(0, 0, 2, 0, [], []), (26, 11, 3, 35, [], []), (43, 90, 0, 1, [(201, 0)], []), (19, 1, 6, 0, [], []), (1, 0, 0, -1, [], []), (47, 0, 0, 0, [], []), (0, 0, 2, 0, [], []), (26, 11, 5, 51, [], []), (43, 91, 0, 1, [(204, 0)], []), (19, 0, 12, 0, [], []), (1, 0, 0, 1, [], []), (22, 0, 13, 0, [], []), (1, 0, 0, 0, [], []), (47, 0, 0, 0, [], [])]
def k_Hunt_isTold : List ja_I0 := [(0, 0, 2, 0, [], []), (24, 3, 3, 21, [], []), (19, 5, 5, 0, [], []), (1, 0, 0, 1, [], []), (22, 0, 6, 0, [], []), (1, 0, 0, 0, [], []), (48, 0, 0, 0, [], [])]
def k_Table_keepsTheLaw : List ja_I0 := [(1, 0, 0, 0, [], []), (3, 1, 0, 0, [], []), (0, 1, 0, 0, [], [true, true, false]), (0, 0, 2, 0, [], []), (26, 7, 0, 20, [], []), (43, 59, 0, 1, [(30, 0)], []), (18, 3, 31, 0, [], []), (1, 0, 0, 0, [], []), (3, 2, 0, 0, [], []), (0, 2, 0, 0, [], [true, true, true]), (0, 0, 2, 0, [], []), (26, 7, 0, 20, [], []), (43, 59, 0, 1, [(30, 0)], []), (18, 3, 29, 0, [], []), (0, 1, 0, 0, [], []), (0, 2, 0, 0, [], []), (18, 0, 27, 0, [], []), (0, 0, 2, 0, [], []), (0, 1, 0, 0, [], []), (0, 2, 0, 0, [], []), (43, 88, 2, 1, [(56, 0)], []), (0, 0, 2, 0, [], []), (26, 7, 0, 20, [], []), (43, 92, 0, 1, [(59, 0)], []), (18, 5, 27, 0, [], []), (1, 0, 0, 0, [], []), (48, 0, 0, 0, [], []), (5, 2, 0, 1, [], []), (22, 0, 9, 0, [], []), (5, 1, 0, 1, [], []), (22, 0, 2, 0, [], []), (0, 0, 2, 0, [], []), (43, 93, 0, 1, [(62, 0)], []), (1, 0, 0, -1, [], []), (18, 1, 37, 0, [], []), (1, 0, 0, 1, [], []), (22, 0, 38, 0, [], []), (1, 0, 0, 0, [], []), (48, 0, 0, 0, [], [])]
def k_Hunt_follow : List ja_I0 := [(0, 0, 2, 0, [], []), (24, 3, 5, 28, [], []), (47, 0, 0, 0, [], [])]
def k_Table_firstMeetingTurn : List ja_I0 := [(1, 0, 0, 0, [], []), (3, 1, 0, 0, [], []), (0, 1, 0, 0, [], [true, true]), (0, 0, 2, 0, [], []), (26, 7, 0, 20, [], []), (43, 58, 0, 1, [(24, 0)], []), (18, 3, 16, 0, [], []), (0, 0, 2, 0, [], []), (0, 1, 0, 0, [], []), (43, 94, 1, 1, [(53, 0)], []), (1, 0, 0, -1, [], []), (18, 0, 14, 0, [], []), (0, 1, 0, 0, [], []), (47, 0, 0, 0, [], []), (5, 1, 0, 1, [], []), (22, 0, 2, 0, [], []), (1, 0, 0, -1, [], []), (47, 0, 0, 0, [], [])]
def k_Table_firstMeetingPlace : List ja_I0 := [(1, 0, 0, 0, [], []), (3, 2, 0, 0, [], []), (0, 2, 0, 0, [], [true, true, true]), (0, 0, 2, 0, [], []), (26, 7, 0, 20, [], []), (43, 58, 0, 1, [(24, 0)], []), (18, 3, 18, 0, [], []), (0, 0, 2, 0, [], []), (0, 1, 0, 0, [], []), (0, 2, 0, 0, [], []), (43, 95, 2, 1, [(44, 0)], []), (44, 96, 1, 1, [(47, 0)], []), (1, 0, 0, 1, [], []), (18, 5, 16, 0, [], []), (0, 2, 0, 0, [], []), (47, 0, 0, 0, [], []), (5, 2, 0, 1, [], []), (22, 0, 2, 0, [], []), (1, 0, 0, -1, [], []), (47, 0, 0, 0, [], [])]
def k_Table_bandsAt : List ja_I0 := [(1, 0, 0, 0, [], []), (3, 3, 0, 0, [], []), (1, 0, 0, 0, [], []), (3, 4, 0, 0, [], []), (0, 4, 0, 0, [], [true, true, true, true, true]), (0, 0, 2, 0, [], []), (26, 7, 0, 20, [], []), (43, 59, 0, 1, [(30, 0)], []), (18, 3, 23, 0, [], []), (0, 0, 2, 0, [], []), (0, 4, 0, 0, [], []), (0, 1, 0, 0, [], []), (43, 70, 2, 1, [(40, 0)], []), (0, 2, 0, 0, [], []), (18, 1, 21, 0, [], []), (0, 3, 0, 0, [], []), (1, 0, 0, 1, [], []), (0, 4, 0, 0, [], []), (6, 6, 0, 0, [], []), (6, 4, 0, 0, [], []), (3, 3, 0, 0, [], []), (5, 4, 0, 1, [], []), (22, 0, 4, 0, [], []), (0, 3, 0, 0, [], []), (47, 0, 0, 0, [], [])]
def k_JInteger_bitCount : List ja_I0 := [(0, 0, 0, 0, [], []), (0, 0, 0, 0, [], []), (1, 0, 0, 1, [], []), (6, 8, 0, 0, [], []), (1, 265, 0, 1431655765, [], []), (6, 3, 0, 0, [], []), (6, 1, 0, 0, [], []), (3, 0, 0, 0, [], []), (0, 0, 0, 0, [], []), (1, 266, 0, 858993459, [], []), (6, 3, 0, 0, [], []), (0, 0, 0, 0, [], []), (1, 0, 0, 2, [], []), (6, 8, 0, 0, [], []), (1, 266, 0, 858993459, [], []), (6, 3, 0, 0, [], []), (6, 0, 0, 0, [], []), (3, 0, 0, 0, [], []), (0, 0, 0, 0, [], []), (0, 0, 0, 0, [], []), (1, 0, 0, 4, [], []), (6, 8, 0, 0, [], []), (6, 0, 0, 0, [], []), (1, 267, 0, 252645135, [], []), (6, 3, 0, 0, [], []), (3, 0, 0, 0, [], []), (0, 0, 0, 0, [], []), (0, 0, 0, 0, [], []), (1, 0, 0, 8, [], []), (6, 8, 0, 0, [], []), (6, 0, 0, 0, [], []), (3, 0, 0, 0, [], []), (0, 0, 0, 0, [], []), (0, 0, 0, 0, [], []), (1, 0, 0, 16, [], []), (6, 8, 0, 0, [], []), (6, 0, 0, 0, [], []), (3, 0, 0, 0, [], []), (0, 0, 0, 0, [], []), (1, 0, 0, 63, [], []), (6, 3, 0, 0, [], []), (47, 0, 0, 0, [], [])]
def k_X_crowd : List ja_I0 := [(0, 1, 0, 0, [], []), (19, 2, 5, 0, [], []), (0, 1, 0, 0, [], []), (1, 0, 0, 2, [], []), (18, 5, 7, 0, [], []), (1, 0, 0, -1, [], []), (47, 0, 0, 0, [], []), (0, 0, 2, 0, [], []), (26, 11, 5, 51, [], []), (43, 93, 0, 1, [(207, 0)], []), (3, 2, 0, 0, [], []), (0, 2, 0, 0, [], []), (1, 0, 0, -1, [], []), (18, 0, 16, 0, [], []), (0, 1, 0, 0, [], []), (19, 1, 18, 0, [], []), (0, 2, 0, 0, [], []), (47, 0, 0, 0, [], []), (0, 0, 2, 0, [], []), (26, 11, 5, 51, [], []), (0, 2, 0, 0, [], []), (43, 94, 1, 1, [(210, 0)], []), (3, 3, 0, 0, [], []), (0, 1, 0, 0, [], []), (1, 0, 0, 1, [], []), (18, 1, 28, 0, [], []), (0, 3, 0, 0, [], []), (22, 0, 33, 0, [], []), (0, 0, 2, 0, [], []), (26, 11, 5, 51, [], []), (0, 2, 0, 0, [], []), (0, 3, 0, 0, [], []), (43, 95, 2, 1, [(213, 0)], []), (47, 0, 0, 0, [], [])]
def k_X_even : List ja_I0 := [(0, 1, 0, 0, [], []), (1, 0, 0, 2, [], []), (18, 2, 10, 0, [], []), (0, 1, 0, 0, [], []), (1, 0, 0, 400, [], []), (18, 4, 10, 0, [], []), (0, 1, 0, 0, [], []), (1, 0, 0, 2, [], []), (8, 0, 0, 0, [], []), (19, 0, 12, 0, [], []), (1, 0, 0, -1, [], []), (47, 0, 0, 0, [], []), (0, 2, 0, 0, [], []), (19, 2, 22, 0, [], []), (0, 2, 0, 0, [], []), (0, 1, 0, 0, [], []), (18, 3, 22, 0, [], []), (0, 3, 0, 0, [], []), (19, 2, 22, 0, [], []), (0, 3, 0, 0, [], []), (0, 1, 0, 0, [], []), (18, 2, 24, 0, [], []), (1, 0, 0, -1, [], []), (47, 0, 0, 0, [], []), (0, 2, 0, 0, [], []), (0, 1, 0, 0, [], []), (0, 3, 0, 0, [], []), (44, 99, 2, 1, [(216, 0)], []), (6, 0, 0, 0, [], []), (0, 1, 0, 0, [], []), (8, 0, 0, 0, [], []), (47, 0, 0, 0, [], [])]
def k_X_evenTurn : List ja_I0 := [(0, 1, 0, 0, [], []), (1, 0, 0, 2, [], []), (8, 0, 0, 0, [], []), (1, 0, 0, 1, [], []), (18, 1, 11, 0, [], []), (0, 1, 0, 0, [], []), (1, 0, 0, 1, [], []), (6, 0, 0, 0, [], []), (1, 0, 0, 2, [], []), (7, 0, 0, 0, [], []), (47, 0, 0, 0, [], []), (0, 1, 0, 0, [], []), (19, 1, 15, 0, [], []), (1, 0, 0, 0, [], []), (22, 0, 20, 0, [], []), (0, 0, 0, 0, [], []), (0, 1, 0, 0, [], []), (1, 0, 0, 2, [], []), (7, 0, 0, 0, [], []), (6, 1, 0, 0, [], []), (47, 0, 0, 0, [], [])]
def k_X_slips : List ja_I0 := [(0, 0, 2, 0, [], []), (26, 11, 3, 35, [], []), (43, 90, 0, 1, [(201, 0)], []), (19, 0, 8, 0, [], []), (0, 0, 2, 0, [], []), (26, 11, 5, 51, [], []), (43, 101, 0, 1, [(219, 0)], []), (22, 0, 9, 0, [], []), (1, 0, 0, -1, [], []), (47, 0, 0, 0, [], [])]
def k_Table_pairsOfPlaces : List ja_I0 := [(2, 0, 0, 0, [], []), (4, 1, 0, 0, [], []), (1, 0, 0, 0, [], []), (3, 3, 0, 0, [], []), (0, 3, 0, 0, [], [true, true, false, true, false]), (0, 0, 2, 0, [], []), (26, 7, 0, 20, [], []), (43, 59, 0, 1, [(30, 0)], []), (18, 3, 38, 0, [], []), (1, 0, 0, 1, [], []), (3, 4, 0, 0, [], []), (0, 4, 0, 0, [], [true, true, false, true, true]), (0, 0, 2, 0, [], []), (26, 7, 0, 20, [], []), (43, 58, 0, 1, [(24, 0)], []), (18, 3, 36, 0, [], []), (0, 1, 1, 0, [], []), (2, 0, 0, 1, [], []), (0, 0, 2, 0, [], []), (0, 3, 0, 0, [], []), (0, 4, 0, 0, [], []), (1, 0, 0, 1, [], []), (6, 1, 0, 0, [], []), (43, 70, 2, 1, [(40, 0)], []), (1, 0, 0, 6, [], []), (6, 2, 0, 0, [], []), (0, 0, 2, 0, [], []), (0, 3, 0, 0, [], []), (0, 4, 0, 0, [], []), (43, 70, 2, 1, [(40, 0)], []), (6, 0, 0, 0, [], []), (13, 0, 0, 0, [], []), (10, 4, 0, 0, [], []), (4, 1, 0, 0, [], []), (5, 4, 0, 1, [], []), (22, 0, 11, 0, [], []), (5, 3, 0, 1, [], []), (22, 0, 4, 0, [], []), (0, 1, 1, 0, [], []), (44, 102, 1, 1, [(65, 0)], []), (47, 0, 0, 0, [], [])]
def k_JLong_bitCount : List ja_I0 := [(0, 0, 1, 0, [], []), (0, 0, 1, 0, [], []), (1, 0, 0, 1, [], []), (14, 0, 0, 0, [], []), (2, 314, 0, 6148914691236517205, [], []), (10, 3, 0, 0, [], []), (10, 1, 0, 0, [], []), (4, 0, 0, 0, [], []), (0, 0, 1, 0, [], []), (2, 316, 0, 3689348814741910323, [], []), (10, 3, 0, 0, [], []), (0, 0, 1, 0, [], []), (1, 0, 0, 2, [], []), (14, 0, 0, 0, [], []), (2, 316, 0, 3689348814741910323, [], []), (10, 3, 0, 0, [], []), (10, 0, 0, 0, [], []), (4, 0, 0, 0, [], []), (0, 0, 1, 0, [], []), (0, 0, 1, 0, [], []), (1, 0, 0, 4, [], []), (14, 0, 0, 0, [], []), (10, 0, 0, 0, [], []), (2, 318, 0, 1085102592571150095, [], []), (10, 3, 0, 0, [], []), (4, 0, 0, 0, [], []), (0, 0, 1, 0, [], []), (0, 0, 1, 0, [], []), (1, 0, 0, 8, [], []), (14, 0, 0, 0, [], []), (10, 0, 0, 0, [], []), (4, 0, 0, 0, [], []), (0, 0, 1, 0, [], []), (0, 0, 1, 0, [], []), (1, 0, 0, 16, [], []), (14, 0, 0, 0, [], []), (10, 0, 0, 0, [], []), (4, 0, 0, 0, [], []), (0, 0, 1, 0, [], []), (0, 0, 1, 0, [], []), (1, 0, 0, 32, [], []), (14, 0, 0, 0, [], []), (10, 0, 0, 0, [], []), (4, 0, 0, 0, [], []), (0, 0, 1, 0, [], []), (16, 0, 0, 0, [], []), (1, 0, 0, 127, [], []), (6, 3, 0, 0, [], []), (47, 0, 0, 0, [], [])]
def k_X_well : List ja_I0 := [(0, 0, 2, 0, [], []), (26, 11, 3, 35, [], []), (0, 1, 0, 0, [], []), (43, 71, 1, 1, [(148, 0)], []), (19, 0, 10, 0, [], []), (0, 0, 2, 0, [], []), (26, 11, 3, 35, [], []), (0, 2, 0, 0, [], []), (43, 67, 1, 1, [(160, 0)], []), (19, 1, 12, 0, [], []), (1, 0, 0, -1, [], []), (47, 0, 0, 0, [], []), (0, 0, 2, 0, [], []), (26, 11, 5, 51, [], []), (0, 1, 0, 0, [], []), (0, 2, 0, 0, [], []), (43, 104, 2, 1, [(222, 0)], []), (47, 0, 0, 0, [], [])]
def k_Table_comerTo : List ja_I0 := [(1, 0, 0, 0, [], []), (3, 3, 0, 0, [], []), (1, 0, 0, 0, [], []), (3, 4, 0, 0, [], []), (0, 4, 0, 0, [], [true, true, true, true, true, false]), (0, 0, 2, 0, [], []), (26, 7, 0, 20, [], []), (43, 58, 0, 1, [(24, 0)], []), (18, 3, 32, 0, [], []), (1, 0, 0, 0, [], []), (3, 5, 0, 0, [], []), (0, 5, 0, 0, [], [true, true, true, true, true, true]), (0, 0, 2, 0, [], []), (26, 7, 0, 20, [], []), (43, 59, 0, 1, [(30, 0)], []), (18, 3, 30, 0, [], []), (0, 0, 2, 0, [], []), (0, 5, 0, 0, [], []), (0, 4, 0, 0, [], []), (43, 70, 2, 1, [(40, 0)], []), (0, 1, 0, 0, [], []), (18, 1, 28, 0, [], []), (0, 3, 0, 0, [], []), (0, 2, 0, 0, [], []), (18, 1, 27, 0, [], []), (0, 5, 0, 0, [], []), (47, 0, 0, 0, [], []), (5, 3, 0, 1, [], []), (5, 5, 0, 1, [], []), (22, 0, 11, 0, [], []), (5, 4, 0, 1, [], []), (22, 0, 4, 0, [], []), (1, 0, 0, -1, [], []), (47, 0, 0, 0, [], [])]
def k_X_sight : List ja_I0 := [(0, 0, 2, 0, [], []), (26, 11, 3, 35, [], []), (43, 90, 0, 1, [(201, 0)], []), (19, 0, 8, 0, [], []), (0, 0, 2, 0, [], []), (26, 11, 5, 51, [], []), (43, 106, 0, 1, [(225, 0)], []), (22, 0, 9, 0, [], []), (1, 0, 0, -1, [], []), (47, 0, 0, 0, [], [])]
def k_Table_timesSeen : List ja_I0 := [(1, 0, 0, 0, [], []), (3, 1, 0, 0, [], []), (1, 0, 0, 0, [], []), (3, 2, 0, 0, [], []), (0, 2, 0, 0, [], [true, true, true, false, false]), (0, 0, 2, 0, [], []), (26, 7, 0, 20, [], []), (43, 59, 0, 1, [(30, 0)], []), (18, 3, 43, 0, [], []), (0, 2, 0, 0, [], []), (1, 0, 0, 1, [], []), (6, 0, 0, 0, [], []), (3, 3, 0, 0, [], []), (0, 3, 0, 0, [], [true, true, true, true, false]), (0, 0, 2, 0, [], []), (26, 7, 0, 20, [], []), (43, 59, 0, 1, [(30, 0)], []), (18, 3, 41, 0, [], []), (1, 0, 0, 0, [], []), (3, 4, 0, 0, [], []), (0, 4, 0, 0, [], [true, true, true, true, true]), (0, 0, 2, 0, [], []), (26, 7, 0, 20, [], []), (43, 58, 0, 1, [(24, 0)], []), (18, 3, 39, 0, [], []), (0, 0, 2, 0, [], []), (0, 0, 2, 0, [], []), (0, 2, 0, 0, [], []), (0, 4, 0, 0, [], []), (43, 70, 2, 1, [(40, 0)], []), (0, 0, 2, 0, [], []), (0, 3, 0, 0, [], []), (0, 4, 0, 0, [], []), (43, 70, 2, 1, [(40, 0)], []), (43, 107, 2, 1, [(70, 0)], []), (19, 0, 37, 0, [], []), (5, 1, 0, 1, [], []), (5, 4, 0, 1, [], []), (22, 0, 20, 0, [], []), (5, 3, 0, 1, [], []), (22, 0, 13, 0, [], []), (5, 2, 0, 1, [], []), (22, 0, 4, 0, [], []), (0, 1, 0, 0, [], []), (47, 0, 0, 0, [], [])]
def k_Table_inOneLine : List ja_I0 := [(0, 1, 0, 0, [], []), (0, 2, 0, 0, [], []), (18, 0, 23, 0, [], []), (0, 0, 2, 0, [], []), (26, 7, 0, 20, [], []), (0, 1, 0, 0, [], []), (43, 108, 1, 1, [(74, 0)], []), (0, 0, 2, 0, [], []), (26, 7, 0, 20, [], []), (0, 2, 0, 0, [], []), (43, 108, 1, 1, [(74, 0)], []), (18, 0, 21, 0, [], []), (0, 0, 2, 0, [], []), (26, 7, 0, 20, [], []), (0, 1, 0, 0, [], []), (43, 109, 1, 1, [(77, 0)], []), (0, 0, 2, 0, [], []), (26, 7, 0, 20, [], []), (0, 2, 0, 0, [], []), (43, 109, 1, 1, [(77, 0)], []), (18, 1, 23, 0, [], []), (1, 0, 0, 1, [], []), (22, 0, 24, 0, [], []), (1, 0, 0, 0, [], []), (48, 0, 0, 0, [], [])]
def k_Hunt_x : List ja_I0 := [(0, 0, 2, 0, [], []), (0, 1, 0, 0, [], []), (43, 71, 1, 1, [(40, 0)], []), (19, 0, 9, 0, [], []), (0, 0, 2, 0, [], []), (26, 3, 0, 9, [], []), (0, 1, 0, 0, [], []), (32, 0, 0, 0, [], []), (22, 0, 10, 0, [], []), (1, 0, 0, 0, [], []), (47, 0, 0, 0, [], [])]
def k_Hunt_y : List ja_I0 := [(0, 0, 2, 0, [], []), (0, 1, 0, 0, [], []), (43, 71, 1, 1, [(40, 0)], []), (19, 0, 9, 0, [], []), (0, 0, 2, 0, [], []), (26, 3, 1, 15, [], []), (0, 1, 0, 0, [], []), (32, 0, 0, 0, [], []), (22, 0, 10, 0, [], []), (1, 0, 0, 0, [], []), (47, 0, 0, 0, [], [])]
def k_X_points : List ja_I0 := [(0, 0, 2, 0, [], []), (26, 11, 3, 35, [], []), (0, 1, 0, 0, [], []), (43, 67, 1, 1, [(160, 0)], []), (19, 0, 12, 0, [], []), (0, 0, 2, 0, [], []), (26, 11, 7, 67, [], []), (0, 1, 0, 0, [], []), (0, 0, 2, 0, [], []), (26, 11, 4, 42, [], []), (43, 111, 2, 1, [(228, 0)], []), (22, 0, 13, 0, [], []), (1, 232, 0, -1000000, [], []), (47, 0, 0, 0, [], [])]
def k_Clock_pointsOf : List ja_I0 := [(1, 0, 0, 0, [], []), (3, 3, 0, 0, [], []), (0, 0, 2, 0, [], []), (26, 0, 1, 27, [], []), (0, 1, 0, 0, [], []), (43, 72, 1, 1, [(41, 0)], []), (3, 4, 0, 0, [], []), (1, 0, 0, -1, [], []), (3, 5, 0, 0, [], []), (1, 0, 0, 0, [], []), (3, 6, 0, 0, [], []), (0, 6, 0, 0, [], [true, true, true, true, true, true, true, false]), (0, 0, 2, 0, [], []), (26, 0, 0, 23, [], []), (43, 58, 0, 1, [(46, 0)], []), (18, 3, 54, 0, [], []), (0, 0, 2, 0, [], []), (26, 0, 1, 27, [], []), (0, 1, 0, 0, [], []), (0, 6, 0, 0, [], []), (43, 70, 2, 1, [(50, 0)], []), (3, 7, 0, 0, [], []), (0, 4, 0, 0, [], []), (0, 0, 2, 0, [], []), (0, 1, 0, 0, [], []), (0, 5, 0, 0, [], []), (0, 7, 0, 0, [], []), (43, 112, 3, 1, [(53, 0)], []), (6, 0, 0, 0, [], []), (3, 4, 0, 0, [], []), (0, 3, 0, 0, [], []), (0, 2, 2, 0, [], []), (0, 6, 0, 0, [], []), (0, 7, 0, 0, [], []), (0, 1, 0, 0, [], []), (0, 4, 0, 0, [], []), (0, 0, 2, 0, [], []), (26, 0, 0, 23, [], []), (0, 5, 0, 0, [], []), (0, 7, 0, 0, [], []), (43, 113, 2, 1, [(31, 0)], []), (43, 114, 5, 1, [(63, 0)], []), (6, 0, 0, 0, [], []), (3, 3, 0, 0, [], []), (0, 4, 0, 0, [], []), (0, 0, 2, 0, [], []), (26, 0, 0, 23, [], []), (43, 120, 0, 1, [(57, 0)], []), (6, 0, 0, 0, [], []), (3, 4, 0, 0, [], []), (0, 7, 0, 0, [], []), (3, 5, 0, 0, [], []), (5, 6, 0, 1, [], []), (22, 0, 11, 0, [], []), (0, 3, 0, 0, [], []), (47, 0, 0, 0, [], [])]
def k_Clock_wayOf : List ja_I0 := [(0, 0, 2, 0, [], []), (26, 0, 0, 23, [], []), (0, 2, 0, 0, [], []), (0, 3, 0, 0, [], []), (43, 113, 2, 1, [(31, 0)], []), (0, 0, 2, 0, [], []), (26, 0, 0, 23, [], []), (0, 1, 0, 0, [], []), (43, 68, 1, 1, [(37, 0)], []), (6, 2, 0, 0, [], []), (47, 0, 0, 0, [], [])]
def k_Hunt_steps : List ja_I0 := [(0, 0, 2, 0, [], []), (0, 1, 0, 0, [], []), (43, 108, 1, 1, [(47, 0)], []), (0, 0, 2, 0, [], []), (0, 2, 0, 0, [], []), (43, 108, 1, 1, [(47, 0)], []), (6, 1, 0, 0, [], []), (59, 0, 0, 51, [], []), (0, 0, 2, 0, [], []), (0, 1, 0, 0, [], []), (43, 109, 1, 1, [(56, 0)], []), (0, 0, 2, 0, [], []), (0, 2, 0, 0, [], []), (43, 109, 1, 1, [(56, 0)], []), (6, 1, 0, 0, [], []), (59, 0, 0, 51, [], []), (6, 0, 0, 0, [], []), (47, 0, 0, 0, [], [])]
def k_Worths_valueOf : List ja_I0 := [(0, 0, 2, 0, [], []), (24, 10, 5, 28, [], []), (19, 2, 8, 0, [], []), (0, 0, 2, 0, [], []), (24, 10, 5, 28, [], []), (0, 0, 2, 0, [], []), (24, 10, 4, 32, [], []), (18, 2, 10, 0, [], []), (1, 0, 0, 0, [], []), (47, 0, 0, 0, [], []), (0, 0, 2, 0, [], []), (26, 10, 3, 25, [], []), (1, 0, 0, 0, [], []), (0, 1, 0, 0, [], []), (36, 0, 0, 0, [], []), (0, 0, 2, 0, [], []), (26, 10, 3, 25, [], []), (1, 0, 0, 1, [], []), (0, 2, 0, 0, [], []), (36, 0, 0, 0, [], []), (0, 0, 2, 0, [], []), (26, 10, 3, 25, [], []), (1, 0, 0, 2, [], []), (0, 3, 0, 0, [], []), (36, 0, 0, 0, [], []), (0, 0, 2, 0, [], []), (26, 10, 3, 25, [], []), (1, 0, 0, 3, [], []), (0, 4, 0, 0, [], []), (36, 0, 0, 0, [], []), (0, 0, 2, 0, [], []), (26, 10, 3, 25, [], []), (1, 0, 0, 4, [], []), (0, 5, 0, 0, [], []), (36, 0, 0, 0, [], []), (0, 0, 2, 0, [], []), (0, 0, 2, 0, [], []), (26, 10, 0, 15, [], []), (0, 0, 2, 0, [], []), (24, 10, 5, 28, [], []), (35, 0, 0, 0, [], []), (0, 0, 2, 0, [], []), (26, 10, 1, 18, [], []), (0, 0, 2, 0, [], []), (24, 10, 5, 28, [], []), (32, 0, 0, 0, [], []), (0, 0, 2, 0, [], []), (26, 10, 0, 15, [], []), (0, 0, 2, 0, [], []), (24, 10, 5, 28, [], []), (35, 0, 0, 0, [], []), (39, 0, 0, 0, [], []), (58, 0, 0, 41, [], []), (43, 115, 2, 1, [(47, 0)], []), (47, 0, 0, 0, [], [])]
def k_Worths_run : List ja_I0 := [(1, 0, 0, 0, [], []), (3, 3, 0, 0, [], []), (1, 0, 0, 0, [], []), (3, 4, 0, 0, [], []), (1, 0, 0, 0, [], []), (3, 5, 0, 0, [], []), (0, 5, 0, 0, [], [true, true, true, true, true, true, false]), (0, 2, 0, 0, [], []), (18, 3, 78, 0, [], []), (0, 4, 0, 0, [], []), (0, 2, 0, 0, [], []), (18, 3, 78, 0, [], []), (0, 1, 2, 0, [], []), (0, 4, 0, 0, [], []), (32, 0, 0, 0, [], []), (3, 6, 0, 0, [], []), (5, 4, 0, 1, [], []), (0, 6, 0, 0, [], []), (1, 0, 0, 20000, [], []), (18, 3, 41, 0, [], []), (0, 3, 0, 0, [], []), (1, 0, 0, 40, [], []), (18, 2, 25, 0, [], []), (1, 0, 0, 0, [], []), (47, 0, 0, 0, [], []), (0, 0, 2, 0, [], []), (26, 10, 2, 22, [], []), (0, 3, 0, 0, [], []), (0, 6, 0, 0, [], []), (1, 0, 0, 10000, [], []), (18, 3, 33, 0, [], []), (0, 6, 0, 0, [], []), (22, 0, 38, 0, [], []), (0, 0, 2, 0, [], []), (0, 6, 0, 0, [], []), (1, 0, 0, 10000, [], []), (6, 1, 0, 0, [], []), (43, 116, 1, 1, [(51, 0)], []), (36, 0, 0, 0, [], []), (5, 3, 0, 1, [], []), (22, 0, 76, 0, [], []), (0, 3, 0, 0, [], []), (19, 1, 45, 0, [], []), (1, 0, 0, 0, [], []), (47, 0, 0, 0, [], []), (0, 6, 0, 0, [], []), (1, 0, 0, 30000, [], []), (18, 3, 56, 0, [], []), (0, 0, 2, 0, [], []), (0, 6, 0, 0, [], []), (1, 0, 0, 20000, [], []), (6, 1, 0, 0, [], []), (0, 3, 0, 0, [], []), (43, 117, 2, 1, [(55, 0)], []), (3, 3, 0, 0, [], []), (22, 0, 76, 0, [], []), (5, 3, 0, -1, [], []), (0, 6, 0, 0, [], []), (1, 58, 0, 40000, [], []), (18, 1, 65, 0, [], []), (0, 0, 2, 0, [], []), (26, 10, 2, 22, [], []), (0, 3, 0, 0, [], []), (32, 0, 0, 0, [], []), (47, 0, 0, 0, [], []), (0, 0, 2, 0, [], []), (26, 10, 2, 22, [], []), (0, 3, 0, 0, [], []), (32, 0, 0, 0, [], []), (19, 1, 76, 0, [], []), (0, 4, 0, 0, [], []), (0, 6, 0, 0, [], []), (1, 0, 0, 30000, [], []), (6, 1, 0, 0, [], []), (57, 0, 0, 59, [], []), (3, 4, 0, 0, [], []), (5, 5, 0, 1, [], []), (22, 0, 6, 0, [], []), (1, 0, 0, 0, [], []), (47, 0, 0, 0, [], [])]
def k_Worths_letterValue : List ja_I0 := [(0, 1, 0, 0, [], []), (19, 2, 10, 0, [], []), (0, 1, 0, 0, [], []), (1, 0, 0, 5, [], []), (18, 3, 10, 0, [], []), (0, 0, 2, 0, [], []), (26, 10, 3, 25, [], []), (0, 1, 0, 0, [], []), (32, 0, 0, 0, [], []), (22, 0, 11, 0, [], []), (1, 0, 0, 0, [], []), (47, 0, 0, 0, [], [])]
def k_Worths_join : List ja_I0 := [(0, 2, 0, 0, [], []), (1, 0, 0, 1, [], []), (6, 1, 0, 0, [], []), (3, 3, 0, 0, [], []), (0, 1, 0, 0, [], []), (1, 0, 0, 33, [], []), (18, 1, 19, 0, [], []), (0, 0, 2, 0, [], []), (26, 10, 2, 22, [], []), (0, 3, 0, 0, [], []), (1, 0, 0, 1, [], []), (0, 0, 2, 0, [], []), (26, 10, 2, 22, [], []), (0, 3, 0, 0, [], []), (32, 0, 0, 0, [], []), (6, 1, 0, 0, [], []), (36, 0, 0, 0, [], []), (0, 2, 0, 0, [], []), (47, 0, 0, 0, [], []), (0, 3, 0, 0, [], []), (19, 1, 23, 0, [], []), (1, 0, 0, 0, [], []), (47, 0, 0, 0, [], []), (0, 0, 2, 0, [], []), (26, 10, 2, 22, [], []), (0, 3, 0, 0, [], []), (1, 0, 0, 1, [], []), (6, 1, 0, 0, [], []), (0, 1, 0, 0, [], []), (0, 0, 2, 0, [], []), (26, 10, 2, 22, [], []), (0, 3, 0, 0, [], []), (1, 0, 0, 1, [], []), (6, 1, 0, 0, [], []), (32, 0, 0, 0, [], []), (0, 0, 2, 0, [], []), (26, 10, 2, 22, [], []), (0, 3, 0, 0, [], []), (32, 0, 0, 0, [], []), (44, 118, 3, 1, [(62, 0)], []), (36, 0, 0, 0, [], []), (0, 3, 0, 0, [], []), (47, 0, 0, 0, [], [])]
def k_Worths_joined : List ja_I0 := [(0, 0, 0, 0, [], []), (23, 0, 52, 0, [(38, 23), (42, 45), (43, 31), (45, 38), (60, 9), (61, 2), (62, 16), (124, 27)], []), (0, 1, 0, 0, [], []), (0, 2, 0, 0, [], []), (18, 1, 7, 0, [], []), (1, 0, 0, 1, [], []), (22, 0, 8, 0, [], []), (1, 0, 0, 0, [], []), (47, 0, 0, 0, [], []), (0, 1, 0, 0, [], []), (0, 2, 0, 0, [], []), (18, 3, 14, 0, [], []), (1, 0, 0, 1, [], []), (22, 0, 15, 0, [], []), (1, 0, 0, 0, [], []), (47, 0, 0, 0, [], []), (0, 1, 0, 0, [], []), (0, 2, 0, 0, [], []), (18, 5, 21, 0, [], []), (1, 0, 0, 1, [], []), (22, 0, 22, 0, [], []), (1, 0, 0, 0, [], []), (47, 0, 0, 0, [], []), (0, 1, 0, 0, [], []), (0, 2, 0, 0, [], []), (6, 3, 0, 0, [], []), (47, 0, 0, 0, [], []), (0, 1, 0, 0, [], []), (0, 2, 0, 0, [], []), (6, 4, 0, 0, [], []), (47, 0, 0, 0, [], []), (0, 1, 0, 0, [], []), (15, 0, 0, 0, [], []), (0, 2, 0, 0, [], []), (15, 0, 0, 0, [], []), (10, 0, 0, 0, [], []), (44, 119, 1, 1, [(66, 0)], []), (47, 0, 0, 0, [], []), (0, 1, 0, 0, [], []), (15, 0, 0, 0, [], []), (0, 2, 0, 0, [], []), (15, 0, 0, 0, [], []), (10, 1, 0, 0, [], []), (44, 119, 1, 1, [(66, 0)], []), (47, 0, 0, 0, [], []), (0, 1, 0, 0, [], []), (15, 0, 0, 0, [], []), (0, 2, 0, 0, [], []), (15, 0, 0, 0, [], []), (10, 2, 0, 0, [], []), (44, 119, 1, 1, [(66, 0)], []), (47, 0, 0, 0, [], []), (0, 2, 0, 0, [], []), (19, 1, 56, 0, [], []), (1, 0, 0, 0, [], []), (22, 0, 62, 0, [], []), (0, 1, 0, 0, [], []), (15, 0, 0, 0, [], []), (0, 2, 0, 0, [], []), (15, 0, 0, 0, [], []), (11, 0, 0, 0, [], []), (44, 119, 1, 1, [(66, 0)], []), (47, 0, 0, 0, [], [])]
def k_Worths_bounded : List ja_I0 := [(0, 0, 1, 0, [], []), (2, 70, 0, 1000000, [], []), (17, 0, 0, 0, [], []), (19, 5, 6, 0, [], []), (1, 72, 0, 1000000, [], []), (22, 0, 14, 0, [], []), (0, 0, 1, 0, [], []), (2, 73, 0, -1000000, [], []), (17, 0, 0, 0, [], []), (19, 3, 12, 0, [], []), (1, 75, 0, -1000000, [], []), (22, 0, 14, 0, [], []), (0, 0, 1, 0, [], []), (16, 0, 0, 0, [], []), (47, 0, 0, 0, [], [])]
def k_Hunt_stay : List ja_I0 := [(0, 0, 2, 0, [], []), (24, 3, 6, 31, [], []), (47, 0, 0, 0, [], [])]
def k_X_comes : List ja_I0 := [(0, 0, 2, 0, [], []), (26, 11, 3, 35, [], []), (0, 1, 0, 0, [], []), (43, 67, 1, 1, [(160, 0)], []), (19, 0, 16, 0, [], []), (0, 0, 2, 0, [], []), (26, 11, 3, 35, [], []), (0, 2, 0, 0, [], []), (43, 71, 1, 1, [(148, 0)], []), (19, 0, 16, 0, [], []), (0, 0, 2, 0, [], []), (26, 11, 7, 67, [], []), (0, 1, 0, 0, [], []), (0, 2, 0, 0, [], []), (43, 122, 2, 1, [(233, 0)], []), (22, 0, 17, 0, [], []), (1, 0, 0, -1, [], []), (47, 0, 0, 0, [], [])]
def k_Clock_minuteOf : List ja_I0 := [(0, 0, 2, 0, [], []), (26, 0, 1, 27, [], []), (0, 1, 0, 0, [], []), (43, 72, 1, 1, [(41, 0)], []), (3, 3, 0, 0, [], []), (1, 0, 0, -1, [], []), (3, 4, 0, 0, [], []), (1, 0, 0, 0, [], []), (3, 5, 0, 0, [], []), (0, 5, 0, 0, [], [true, true, true, true, true, true, false]), (0, 2, 0, 0, [], []), (18, 4, 43, 0, [], []), (0, 5, 0, 0, [], []), (0, 0, 2, 0, [], []), (26, 0, 0, 23, [], []), (43, 58, 0, 1, [(46, 0)], []), (18, 3, 43, 0, [], []), (0, 0, 2, 0, [], []), (26, 0, 1, 27, [], []), (0, 1, 0, 0, [], []), (0, 5, 0, 0, [], []), (43, 70, 2, 1, [(50, 0)], []), (3, 6, 0, 0, [], []), (0, 3, 0, 0, [], []), (0, 0, 2, 0, [], []), (0, 1, 0, 0, [], []), (0, 4, 0, 0, [], []), (0, 6, 0, 0, [], []), (43, 112, 3, 1, [(53, 0)], []), (0, 5, 0, 0, [], []), (19, 1, 33, 0, [], []), (1, 0, 0, 0, [], []), (22, 0, 36, 0, [], []), (0, 0, 2, 0, [], []), (26, 0, 0, 23, [], []), (43, 120, 0, 1, [(57, 0)], []), (6, 0, 0, 0, [], []), (6, 0, 0, 0, [], []), (3, 3, 0, 0, [], []), (0, 6, 0, 0, [], []), (3, 4, 0, 0, [], []), (5, 5, 0, 1, [], []), (22, 0, 9, 0, [], []), (0, 3, 0, 0, [], []), (47, 0, 0, 0, [], [])]
def k_X_home : List ja_I0 := [(0, 0, 2, 0, [], []), (26, 11, 3, 35, [], []), (0, 1, 0, 0, [], []), (43, 67, 1, 1, [(160, 0)], []), (19, 0, 10, 0, [], []), (0, 0, 2, 0, [], []), (26, 11, 7, 67, [], []), (0, 1, 0, 0, [], []), (43, 124, 1, 1, [(236, 0)], []), (22, 0, 11, 0, [], []), (1, 0, 0, -1, [], []), (47, 0, 0, 0, [], [])]
def k_Clock_minuteHome : List ja_I0 := [(0, 0, 2, 0, [], []), (26, 0, 0, 23, [], []), (43, 58, 0, 1, [(46, 0)], []), (1, 0, 0, 1, [], []), (6, 1, 0, 0, [], []), (3, 2, 0, 0, [], []), (0, 0, 2, 0, [], []), (0, 1, 0, 0, [], []), (0, 2, 0, 0, [], []), (43, 122, 2, 1, [(60, 0)], []), (0, 0, 2, 0, [], []), (26, 0, 0, 23, [], []), (43, 120, 0, 1, [(57, 0)], []), (6, 0, 0, 0, [], []), (0, 0, 2, 0, [], []), (0, 1, 0, 0, [], []), (0, 0, 2, 0, [], []), (26, 0, 1, 27, [], []), (0, 1, 0, 0, [], []), (0, 2, 0, 0, [], []), (43, 70, 2, 1, [(50, 0)], []), (1, 0, 0, -1, [], []), (43, 112, 3, 1, [(53, 0)], []), (6, 0, 0, 0, [], []), (47, 0, 0, 0, [], [])]
def k_X_clashes : List ja_I0 := [(0, 0, 2, 0, [], []), (26, 11, 3, 35, [], []), (43, 90, 0, 1, [(201, 0)], []), (19, 0, 9, 0, [], []), (0, 1, 0, 0, [], []), (19, 2, 9, 0, [], []), (0, 1, 0, 0, [], []), (1, 0, 0, 1, [], []), (18, 5, 11, 0, [], []), (1, 232, 0, -1000000, [], []), (47, 0, 0, 0, [], []), (0, 1, 0, 0, [], []), (19, 1, 17, 0, [], []), (0, 0, 2, 0, [], []), (26, 11, 7, 67, [], []), (43, 126, 0, 1, [(239, 0)], []), (22, 0, 20, 0, [], []), (0, 0, 2, 0, [], []), (26, 11, 7, 67, [], []), (43, 129, 0, 1, [(242, 0)], []), (47, 0, 0, 0, [], [])]
def k_Clock_clashingPairs : List ja_I0 := [(0, 0, 2, 0, [], []), (43, 127, 0, 0, [(84, 0)], []), (1, 0, 0, 0, [], []), (3, 1, 0, 0, [], []), (1, 0, 0, 0, [], []), (3, 2, 0, 0, [], []), (0, 2, 0, 0, [], [true, true, true, false]), (0, 0, 2, 0, [], []), (26, 0, 0, 23, [], []), (43, 59, 0, 1, [(69, 0)], []), (18, 3, 31, 0, [], []), (0, 2, 0, 0, [], []), (1, 0, 0, 1, [], []), (6, 0, 0, 0, [], []), (3, 3, 0, 0, [], []), (0, 3, 0, 0, [], [true, true, true, true]), (0, 0, 2, 0, [], []), (26, 0, 0, 23, [], []), (43, 59, 0, 1, [(69, 0)], []), (18, 3, 29, 0, [], []), (0, 0, 2, 0, [], []), (0, 2, 0, 0, [], []), (0, 3, 0, 0, [], []), (43, 128, 2, 1, [(87, 0)], []), (1, 0, 0, -1, [], []), (18, 0, 27, 0, [], []), (5, 1, 0, 1, [], []), (5, 3, 0, 1, [], []), (22, 0, 15, 0, [], []), (5, 2, 0, 1, [], []), (22, 0, 6, 0, [], []), (0, 1, 0, 0, [], []), (47, 0, 0, 0, [], [])]
def k_Clock_lookWhoComesWhen : List ja_I0 := [(1, 0, 0, 0, [], []), (3, 1, 0, 0, [], []), (0, 1, 0, 0, [], [true, true, false, false, false, false]), (0, 0, 2, 0, [], []), (26, 0, 0, 23, [], []), (43, 59, 0, 1, [(69, 0)], []), (18, 3, 59, 0, [], []), (0, 0, 2, 0, [], []), (26, 0, 1, 27, [], []), (0, 1, 0, 0, [], []), (43, 72, 1, 1, [(41, 0)], []), (3, 2, 0, 0, [], []), (1, 0, 0, -1, [], []), (3, 3, 0, 0, [], []), (1, 0, 0, 0, [], []), (3, 4, 0, 0, [], []), (0, 4, 0, 0, [], [true, true, true, true, true, false]), (0, 0, 2, 0, [], []), (26, 0, 0, 23, [], []), (43, 58, 0, 1, [(46, 0)], []), (18, 3, 57, 0, [], []), (0, 0, 2, 0, [], []), (26, 0, 1, 27, [], []), (0, 1, 0, 0, [], []), (0, 4, 0, 0, [], []), (43, 70, 2, 1, [(50, 0)], []), (3, 5, 0, 0, [], []), (0, 2, 0, 0, [], []), (0, 0, 2, 0, [], []), (0, 1, 0, 0, [], []), (0, 3, 0, 0, [], []), (0, 5, 0, 0, [], []), (43, 112, 3, 1, [(53, 0)], []), (6, 0, 0, 0, [], []), (3, 2, 0, 0, [], []), (0, 0, 2, 0, [], []), (26, 0, 0, 23, [], []), (0, 5, 0, 0, [], []), (43, 71, 1, 1, [(72, 0)], []), (19, 0, 47, 0, [], []), (0, 0, 2, 0, [], []), (26, 0, 2, 11, [], []), (0, 1, 0, 0, [], []), (35, 0, 0, 0, [], []), (0, 5, 0, 0, [], []), (0, 2, 0, 0, [], []), (36, 0, 0, 0, [], []), (0, 2, 0, 0, [], []), (0, 0, 2, 0, [], []), (26, 0, 0, 23, [], []), (43, 120, 0, 1, [(57, 0)], []), (6, 0, 0, 0, [], []), (3, 2, 0, 0, [], []), (0, 5, 0, 0, [], []), (3, 3, 0, 0, [], []), (5, 4, 0, 1, [], []), (22, 0, 16, 0, [], []), (5, 1, 0, 1, [], []), (22, 0, 2, 0, [], []), (51, 0, 0, 0, [], [])]
def k_Clock_clashOf : List ja_I0 := [(1, 0, 0, -1, [], []), (3, 3, 0, 0, [], []), (1, 0, 0, 0, [], []), (3, 4, 0, 0, [], []), (0, 4, 0, 0, [], [true, true, true, true, true, false, false, false]), (0, 0, 2, 0, [], []), (26, 0, 0, 23, [], []), (43, 58, 0, 1, [(46, 0)], []), (18, 3, 45, 0, [], []), (0, 0, 2, 0, [], []), (26, 0, 2, 11, [], []), (0, 1, 0, 0, [], []), (35, 0, 0, 0, [], []), (0, 4, 0, 0, [], []), (32, 0, 0, 0, [], []), (3, 5, 0, 0, [], []), (0, 0, 2, 0, [], []), (26, 0, 2, 11, [], []), (0, 2, 0, 0, [], []), (35, 0, 0, 0, [], []), (0, 4, 0, 0, [], []), (32, 0, 0, 0, [], []), (3, 6, 0, 0, [], []), (0, 5, 0, 0, [], []), (0, 6, 0, 0, [], []), (57, 0, 0, 81, [], []), (3, 7, 0, 0, [], []), (0, 5, 0, 0, [], []), (0, 6, 0, 0, [], []), (6, 1, 0, 0, [], []), (59, 0, 0, 76, [], []), (0, 0, 2, 0, [], []), (26, 0, 0, 23, [], []), (43, 120, 0, 1, [(57, 0)], []), (18, 3, 43, 0, [], []), (0, 3, 0, 0, [], []), (1, 0, 0, -1, [], []), (18, 0, 41, 0, [], []), (0, 7, 0, 0, [], []), (0, 3, 0, 0, [], []), (18, 3, 43, 0, [], []), (0, 7, 0, 0, [], []), (3, 3, 0, 0, [], []), (5, 4, 0, 1, [], []), (22, 0, 4, 0, [], []), (0, 3, 0, 0, [], []), (47, 0, 0, 0, [], [])]
def k_Clock_firstClash : List ja_I0 := [(0, 0, 2, 0, [], []), (43, 127, 0, 0, [(84, 0)], []), (1, 0, 0, -1, [], []), (3, 1, 0, 0, [], []), (1, 0, 0, 0, [], []), (3, 2, 0, 0, [], []), (0, 2, 0, 0, [], [true, true, true, false, false]), (0, 0, 2, 0, [], []), (26, 0, 0, 23, [], []), (43, 59, 0, 1, [(69, 0)], []), (18, 3, 40, 0, [], []), (0, 2, 0, 0, [], []), (1, 0, 0, 1, [], []), (6, 0, 0, 0, [], []), (3, 3, 0, 0, [], []), (0, 3, 0, 0, [], [true, true, true, true, false]), (0, 0, 2, 0, [], []), (26, 0, 0, 23, [], []), (43, 59, 0, 1, [(69, 0)], []), (18, 3, 38, 0, [], []), (0, 0, 2, 0, [], []), (0, 2, 0, 0, [], []), (0, 3, 0, 0, [], []), (43, 128, 2, 1, [(87, 0)], []), (3, 4, 0, 0, [], []), (0, 4, 0, 0, [], []), (1, 0, 0, -1, [], []), (18, 0, 36, 0, [], []), (0, 1, 0, 0, [], []), (1, 0, 0, -1, [], []), (18, 0, 34, 0, [], []), (0, 4, 0, 0, [], []), (0, 1, 0, 0, [], []), (18, 3, 36, 0, [], []), (0, 4, 0, 0, [], []), (3, 1, 0, 0, [], []), (5, 3, 0, 1, [], []), (22, 0, 15, 0, [], []), (5, 2, 0, 1, [], []), (22, 0, 6, 0, [], []), (0, 1, 0, 0, [], []), (47, 0, 0, 0, [], [])]
def k_X_starts : List ja_I0 := [(0, 0, 2, 0, [], []), (26, 11, 3, 35, [], []), (43, 90, 0, 1, [(201, 0)], []), (19, 0, 14, 0, [], []), (0, 1, 0, 0, [], []), (19, 2, 14, 0, [], []), (0, 1, 0, 0, [], []), (1, 0, 0, 10, [], []), (18, 3, 14, 0, [], []), (0, 2, 0, 0, [], []), (19, 2, 14, 0, [], []), (0, 2, 0, 0, [], []), (1, 0, 0, 1, [], []), (18, 5, 16, 0, [], []), (1, 0, 0, -1, [], []), (47, 0, 0, 0, [], []), (0, 0, 2, 0, [], []), (26, 11, 3, 35, [], []), (43, 59, 0, 1, [(131, 0)], []), (1, 0, 0, 4, [], []), (18, 5, 23, 0, [], []), (1, 232, 0, -1000000, [], []), (47, 0, 0, 0, [], []), (0, 0, 2, 0, [], []), (26, 11, 7, 67, [], []), (0, 1, 0, 0, [], []), (43, 131, 1, 0, [(245, 0)], []), (0, 2, 0, 0, [], []), (19, 1, 33, 0, [], []), (0, 0, 2, 0, [], []), (26, 11, 7, 67, [], []), (43, 135, 0, 1, [(248, 0)], []), (22, 0, 36, 0, [], []), (0, 0, 2, 0, [], []), (26, 11, 7, 67, [], []), (43, 136, 0, 1, [(251, 0)], []), (47, 0, 0, 0, [], [])]
def k_Clock_seekStarts : List ja_I0 := [(0, 0, 2, 0, [], []), (43, 127, 0, 0, [(84, 0)], []), (0, 0, 2, 0, [], []), (0, 1, 0, 0, [], []), (27, 0, 5, 97, [], []), (0, 0, 2, 0, [], []), (1, 0, 0, -1, [], []), (27, 0, 6, 90, [], []), (0, 0, 2, 0, [], []), (1, 0, 0, -1, [], []), (27, 0, 7, 94, [], []), (1, 0, 0, 0, [], []), (3, 2, 0, 0, [], []), (0, 2, 0, 0, [], [true, false, true, false]), (0, 0, 2, 0, [], []), (26, 0, 0, 23, [], []), (43, 59, 0, 1, [(69, 0)], []), (18, 3, 40, 0, [], []), (0, 2, 0, 0, [], []), (1, 0, 0, 4, [], []), (18, 3, 40, 0, [], []), (1, 0, 0, 0, [], []), (3, 3, 0, 0, [], []), (0, 3, 0, 0, [], [true, false, true, true]), (0, 2, 0, 0, [], []), (18, 3, 38, 0, [], []), (0, 0, 2, 0, [], []), (26, 0, 3, 16, [], []), (0, 2, 0, 0, [], []), (35, 0, 0, 0, [], []), (0, 3, 0, 0, [], []), (0, 0, 2, 0, [], []), (0, 2, 0, 0, [], []), (0, 3, 0, 0, [], []), (43, 132, 2, 1, [(100, 0)], []), (36, 0, 0, 0, [], []), (5, 3, 0, 1, [], []), (22, 0, 23, 0, [], []), (5, 2, 0, 1, [], []), (22, 0, 13, 0, [], []), (0, 0, 2, 0, [], []), (1, 0, 0, 0, [], []), (1, 0, 0, 0, [], []), (1, 0, 0, 0, [], []), (43, 133, 3, 0, [(103, 0)], []), (51, 0, 0, 0, [], [])]
def k_Clock_clashesByStarts : List ja_I0 := [(1, 0, 0, 0, [], []), (3, 3, 0, 0, [], []), (1, 0, 0, 0, [], []), (3, 4, 0, 0, [], []), (0, 4, 0, 0, [], [true, true, true, true, true, false, false, false]), (0, 0, 2, 0, [], []), (26, 0, 0, 23, [], []), (43, 58, 0, 1, [(46, 0)], []), (18, 3, 60, 0, [], []), (0, 0, 2, 0, [], []), (26, 0, 2, 11, [], []), (0, 1, 0, 0, [], []), (35, 0, 0, 0, [], []), (0, 4, 0, 0, [], []), (32, 0, 0, 0, [], []), (0, 0, 2, 0, [], []), (26, 0, 1, 27, [], []), (0, 1, 0, 0, [], []), (43, 72, 1, 1, [(41, 0)], []), (6, 1, 0, 0, [], []), (3, 5, 0, 0, [], []), (0, 0, 2, 0, [], []), (26, 0, 2, 11, [], []), (0, 2, 0, 0, [], []), (35, 0, 0, 0, [], []), (0, 4, 0, 0, [], []), (32, 0, 0, 0, [], []), (0, 0, 2, 0, [], []), (26, 0, 1, 27, [], []), (0, 2, 0, 0, [], []), (43, 72, 1, 1, [(41, 0)], []), (6, 1, 0, 0, [], []), (3, 6, 0, 0, [], []), (1, 0, 0, -9, [], []), (3, 7, 0, 0, [], []), (0, 7, 0, 0, [], [true, true, true, true, true, true, true, true]), (1, 0, 0, 9, [], []), (18, 4, 58, 0, [], []), (0, 5, 0, 0, [], []), (0, 7, 0, 0, [], []), (6, 0, 0, 0, [], []), (0, 6, 0, 0, [], []), (6, 1, 0, 0, [], []), (59, 0, 0, 76, [], []), (0, 0, 2, 0, [], []), (26, 0, 0, 23, [], []), (43, 120, 0, 1, [(57, 0)], []), (18, 3, 56, 0, [], []), (0, 3, 0, 0, [], []), (1, 0, 0, 1, [], []), (1, 0, 0, 9, [], []), (0, 7, 0, 0, [], []), (6, 0, 0, 0, [], []), (6, 6, 0, 0, [], []), (6, 4, 0, 0, [], []), (3, 3, 0, 0, [], []), (5, 7, 0, 1, [], []), (22, 0, 35, 0, [], []), (5, 4, 0, 1, [], []), (22, 0, 4, 0, [], []), (0, 3, 0, 0, [], []), (47, 0, 0, 0, [], [])]
def k_Clock_seekStartOf : List ja_I0 := [(0, 0, 2, 0, [], []), (24, 0, 6, 90, [], []), (1, 0, 0, -1, [], []), (18, 0, 9, 0, [], []), (0, 2, 0, 0, [], []), (0, 0, 2, 0, [], []), (24, 0, 6, 90, [], []), (18, 2, 9, 0, [], []), (51, 0, 0, 0, [], []), (0, 1, 0, 0, [], []), (0, 0, 2, 0, [], []), (26, 0, 0, 23, [], []), (43, 59, 0, 1, [(69, 0)], []), (18, 3, 17, 0, [], []), (0, 1, 0, 0, [], []), (1, 0, 0, 4, [], []), (18, 2, 24, 0, [], []), (0, 0, 2, 0, [], []), (0, 2, 0, 0, [], []), (27, 0, 6, 90, [], []), (0, 0, 2, 0, [], []), (0, 3, 0, 0, [], []), (27, 0, 7, 94, [], []), (51, 0, 0, 0, [], []), (1, 0, 0, 0, [], []), (3, 4, 0, 0, [], []), (0, 4, 0, 0, [], [true, true, true, true, true]), (0, 0, 2, 0, [], []), (24, 0, 5, 97, [], []), (18, 4, 55, 0, [], []), (0, 0, 2, 0, [], []), (0, 1, 0, 0, [], []), (0, 4, 0, 0, [], []), (43, 134, 2, 1, [(107, 0)], []), (19, 0, 53, 0, [], []), (0, 0, 2, 0, [], []), (26, 0, 4, 19, [], []), (0, 1, 0, 0, [], []), (0, 4, 0, 0, [], []), (36, 0, 0, 0, [], []), (0, 0, 2, 0, [], []), (0, 1, 0, 0, [], []), (1, 0, 0, 1, [], []), (6, 0, 0, 0, [], []), (0, 2, 0, 0, [], []), (0, 4, 0, 0, [], []), (6, 0, 0, 0, [], []), (0, 3, 0, 0, [], []), (1, 0, 0, 10, [], []), (6, 2, 0, 0, [], []), (0, 4, 0, 0, [], []), (6, 0, 0, 0, [], []), (43, 133, 3, 0, [(103, 0)], []), (5, 4, 0, 1, [], []), (22, 0, 26, 0, [], []), (51, 0, 0, 0, [], [])]
def k_Clock_startsApart : List ja_I0 := [(1, 0, 0, 0, [], []), (3, 3, 0, 0, [], []), (0, 3, 0, 0, [], [true, true, true, true, false]), (0, 1, 0, 0, [], []), (18, 3, 30, 0, [], []), (0, 2, 0, 0, [], []), (0, 0, 2, 0, [], []), (26, 0, 4, 19, [], []), (0, 3, 0, 0, [], []), (32, 0, 0, 0, [], []), (6, 1, 0, 0, [], []), (3, 4, 0, 0, [], []), (0, 0, 2, 0, [], []), (26, 0, 3, 16, [], []), (0, 1, 0, 0, [], []), (35, 0, 0, 0, [], []), (0, 3, 0, 0, [], []), (32, 0, 0, 0, [], []), (1, 0, 0, 9, [], []), (0, 4, 0, 0, [], []), (6, 0, 0, 0, [], []), (6, 7, 0, 0, [], []), (1, 0, 0, 1, [], []), (6, 3, 0, 0, [], []), (1, 0, 0, 1, [], []), (18, 1, 28, 0, [], []), (1, 0, 0, 0, [], []), (48, 0, 0, 0, [], []), (5, 3, 0, 1, [], []), (22, 0, 2, 0, [], []), (1, 0, 0, 1, [], []), (48, 0, 0, 0, [], [])]
def k_Clock_leastSum : List ja_I0 := [(0, 0, 2, 0, [], []), (24, 0, 6, 90, [], []), (47, 0, 0, 0, [], [])]
def k_Clock_leastRow : List ja_I0 := [(0, 0, 2, 0, [], []), (24, 0, 7, 94, [], []), (47, 0, 0, 0, [], [])]
def k_X_soonest : List ja_I0 := [(0, 0, 2, 0, [], []), (26, 11, 3, 35, [], []), (0, 1, 0, 0, [], []), (43, 67, 1, 1, [(160, 0)], []), (19, 0, 10, 0, [], []), (0, 2, 0, 0, [], []), (19, 2, 10, 0, [], []), (0, 2, 0, 0, [], []), (1, 0, 0, 1, [], []), (18, 5, 12, 0, [], []), (1, 0, 0, -1, [], []), (47, 0, 0, 0, [], []), (0, 0, 2, 0, [], []), (26, 11, 8, 76, [], []), (0, 1, 0, 0, [], []), (43, 138, 1, 1, [(254, 0)], []), (19, 1, 19, 0, [], []), (1, 0, 0, -1, [], []), (47, 0, 0, 0, [], []), (0, 2, 0, 0, [], []), (19, 1, 25, 0, [], []), (0, 0, 2, 0, [], []), (26, 11, 8, 76, [], []), (43, 142, 0, 1, [(257, 0)], []), (22, 0, 28, 0, [], []), (0, 0, 2, 0, [], []), (26, 11, 8, 76, [], []), (43, 143, 0, 1, [(260, 0)], []), (47, 0, 0, 0, [], [])]
def k_OrderSearch_seekSoonest : List ja_I0 := [(0, 0, 2, 0, [], []), (0, 1, 0, 0, [], []), (27, 5, 5, 42, [], []), (0, 0, 2, 0, [], []), (1, 0, 0, 0, [], []), (28, 5, 6, 38, [], []), (0, 0, 2, 0, [], []), (26, 5, 2, 23, [], []), (43, 127, 0, 0, [(45, 0)], []), (0, 0, 2, 0, [], []), (1, 0, 0, 0, [], []), (1, 0, 0, -1, [], []), (0, 0, 2, 0, [], []), (26, 5, 1, 19, [], []), (0, 1, 0, 0, [], []), (43, 72, 1, 1, [(50, 0)], []), (1, 0, 0, 0, [], []), (1, 0, 0, 0, [], []), (43, 139, 5, 0, [(56, 0)], []), (0, 0, 2, 0, [], []), (24, 5, 6, 38, [], []), (48, 0, 0, 0, [], [])]
def k_OrderSearch_goSoon : List ja_I0 := [(0, 1, 0, 0, [], []), (0, 0, 2, 0, [], []), (26, 5, 0, 15, [], []), (43, 58, 0, 1, [(60, 0)], []), (18, 2, 27, 0, [], []), (0, 3, 0, 0, [], []), (0, 0, 2, 0, [], []), (26, 5, 2, 23, [], []), (0, 0, 2, 0, [], []), (24, 5, 5, 42, [], []), (0, 2, 0, 0, [], []), (1, 0, 0, -1, [], []), (43, 112, 3, 1, [(66, 0)], []), (6, 0, 0, 0, [], []), (3, 6, 0, 0, [], []), (0, 0, 2, 0, [], []), (24, 5, 6, 38, [], []), (19, 0, 22, 0, [], []), (0, 6, 0, 0, [], []), (0, 0, 2, 0, [], []), (24, 5, 8, 35, [], []), (18, 3, 26, 0, [], []), (0, 0, 2, 0, [], []), (0, 5, 0, 0, [], []), (0, 6, 0, 0, [], []), (43, 140, 2, 0, [(70, 0)], []), (51, 0, 0, 0, [], []), (1, 0, 0, 0, [], []), (3, 6, 0, 0, [], []), (0, 6, 0, 0, [], [true, true, true, true, true, true, true, false, false]), (0, 0, 2, 0, [], []), (26, 5, 0, 15, [], []), (43, 58, 0, 1, [(60, 0)], []), (18, 3, 98, 0, [], []), (0, 3, 0, 0, [], []), (0, 0, 2, 0, [], []), (26, 5, 2, 23, [], []), (0, 0, 2, 0, [], []), (24, 5, 5, 42, [], []), (0, 2, 0, 0, [], []), (0, 6, 0, 0, [], []), (43, 112, 3, 1, [(66, 0)], []), (6, 0, 0, 0, [], []), (3, 7, 0, 0, [], []), (0, 0, 2, 0, [], []), (24, 5, 6, 38, [], []), (19, 0, 57, 0, [], []), (0, 7, 0, 0, [], []), (0, 0, 2, 0, [], []), (26, 5, 0, 15, [], []), (43, 120, 0, 1, [(74, 0)], []), (6, 0, 0, 0, [], []), (0, 0, 2, 0, [], []), (24, 5, 8, 35, [], []), (18, 2, 57, 0, [], []), (1, 0, 0, 1, [], []), (22, 0, 58, 0, [], []), (1, 0, 0, 0, [], []), (3, 8, 0, 0, [], []), (0, 4, 0, 0, [], []), (0, 6, 0, 0, [], []), (6, 7, 0, 0, [], []), (1, 0, 0, 1, [], []), (6, 3, 0, 0, [], []), (19, 1, 96, 0, [], []), (0, 8, 0, 0, [], []), (19, 1, 96, 0, [], []), (0, 0, 2, 0, [], []), (26, 5, 2, 23, [], []), (0, 0, 2, 0, [], []), (24, 5, 5, 42, [], []), (0, 6, 0, 0, [], []), (0, 7, 0, 0, [], []), (43, 141, 3, 1, [(77, 0)], []), (19, 1, 96, 0, [], []), (0, 0, 2, 0, [], []), (0, 1, 0, 0, [], []), (1, 0, 0, 1, [], []), (6, 0, 0, 0, [], []), (0, 6, 0, 0, [], []), (0, 7, 0, 0, [], []), (0, 0, 2, 0, [], []), (26, 5, 0, 15, [], []), (43, 120, 0, 1, [(74, 0)], []), (6, 0, 0, 0, [], []), (0, 4, 0, 0, [], []), (1, 0, 0, 1, [], []), (0, 6, 0, 0, [], []), (6, 6, 0, 0, [], []), (6, 4, 0, 0, [], []), (0, 5, 0, 0, [], []), (1, 0, 0, 10, [], []), (6, 2, 0, 0, [], []), (0, 6, 0, 0, [], []), (6, 0, 0, 0, [], []), (43, 139, 5, 0, [(56, 0)], []), (5, 6, 0, 1, [], []), (22, 0, 29, 0, [], []), (51, 0, 0, 0, [], [])]
def k_OrderSearch_keep : List ja_I0 := [(0, 0, 2, 0, [], []), (1, 0, 0, 1, [], []), (28, 5, 6, 38, [], []), (0, 0, 2, 0, [], []), (0, 1, 0, 0, [], []), (27, 5, 7, 31, [], []), (0, 0, 2, 0, [], []), (0, 2, 0, 0, [], []), (27, 5, 8, 35, [], []), (51, 0, 0, 0, [], [])]
def k_Clock_clashesThere : List ja_I0 := [(1, 0, 0, 0, [], []), (3, 4, 0, 0, [], []), (0, 4, 0, 0, [], [true, true, true, true, true]), (0, 0, 2, 0, [], []), (26, 0, 0, 23, [], []), (43, 59, 0, 1, [(69, 0)], []), (18, 3, 32, 0, [], []), (0, 0, 2, 0, [], []), (26, 0, 0, 23, [], []), (0, 2, 0, 0, [], []), (43, 71, 1, 1, [(72, 0)], []), (19, 0, 32, 0, [], []), (0, 4, 0, 0, [], []), (0, 1, 0, 0, [], []), (18, 0, 30, 0, [], []), (0, 0, 2, 0, [], []), (26, 0, 2, 11, [], []), (0, 4, 0, 0, [], []), (35, 0, 0, 0, [], []), (0, 2, 0, 0, [], []), (32, 0, 0, 0, [], []), (0, 3, 0, 0, [], []), (6, 1, 0, 0, [], []), (59, 0, 0, 76, [], []), (0, 0, 2, 0, [], []), (26, 0, 0, 23, [], []), (43, 120, 0, 1, [(57, 0)], []), (18, 3, 30, 0, [], []), (1, 0, 0, 1, [], []), (48, 0, 0, 0, [], []), (5, 4, 0, 1, [], []), (22, 0, 2, 0, [], []), (1, 0, 0, 0, [], []), (48, 0, 0, 0, [], [])]
def k_OrderSearch_bestOrder : List ja_I0 := [(0, 0, 2, 0, [], []), (24, 5, 7, 31, [], []), (47, 0, 0, 0, [], [])]
def k_OrderSearch_bestValue : List ja_I0 := [(0, 0, 2, 0, [], []), (24, 5, 8, 35, [], []), (47, 0, 0, 0, [], [])]
def k_X_rich : List ja_I0 := [(0, 0, 2, 0, [], []), (26, 11, 3, 35, [], []), (0, 1, 0, 0, [], []), (43, 67, 1, 1, [(160, 0)], []), (19, 0, 10, 0, [], []), (0, 2, 0, 0, [], []), (19, 2, 10, 0, [], []), (0, 2, 0, 0, [], []), (1, 0, 0, 1, [], []), (18, 5, 12, 0, [], []), (1, 232, 0, -1000000, [], []), (47, 0, 0, 0, [], []), (0, 0, 2, 0, [], []), (26, 11, 8, 76, [], []), (0, 1, 0, 0, [], []), (43, 145, 1, 1, [(263, 0)], []), (19, 1, 19, 0, [], []), (1, 232, 0, -1000000, [], []), (47, 0, 0, 0, [], []), (0, 2, 0, 0, [], []), (19, 1, 25, 0, [], []), (0, 0, 2, 0, [], []), (26, 11, 8, 76, [], []), (43, 142, 0, 1, [(257, 0)], []), (22, 0, 28, 0, [], []), (0, 0, 2, 0, [], []), (26, 11, 8, 76, [], []), (43, 143, 0, 1, [(260, 0)], []), (47, 0, 0, 0, [], [])]
def k_OrderSearch_seekRichest : List ja_I0 := [(0, 0, 2, 0, [], []), (0, 1, 0, 0, [], []), (27, 5, 5, 42, [], []), (0, 0, 2, 0, [], []), (1, 0, 0, 0, [], []), (28, 5, 6, 38, [], []), (1, 0, 0, 0, [], []), (3, 2, 0, 0, [], []), (0, 2, 0, 0, [], [true, true, true]), (0, 0, 2, 0, [], []), (26, 5, 0, 15, [], []), (43, 58, 0, 1, [(60, 0)], []), (18, 3, 22, 0, [], []), (0, 0, 2, 0, [], []), (26, 5, 4, 9, [], []), (0, 2, 0, 0, [], []), (0, 0, 2, 0, [], []), (0, 2, 0, 0, [], []), (43, 146, 1, 1, [(81, 0)], []), (36, 0, 0, 0, [], []), (5, 2, 0, 1, [], []), (22, 0, 8, 0, [], []), (0, 0, 2, 0, [], []), (1, 0, 0, 0, [], []), (1, 0, 0, -1, [], []), (0, 0, 2, 0, [], []), (26, 5, 1, 19, [], []), (0, 1, 0, 0, [], []), (43, 72, 1, 1, [(50, 0)], []), (1, 0, 0, 0, [], []), (1, 0, 0, 0, [], []), (1, 0, 0, 0, [], []), (43, 147, 6, 0, [(84, 0)], []), (0, 0, 2, 0, [], []), (24, 5, 6, 38, [], []), (48, 0, 0, 0, [], [])]
def k_OrderSearch_placesOfOthers : List ja_I0 := [(1, 0, 0, 0, [], []), (3, 2, 0, 0, [], []), (1, 0, 0, 0, [], []), (3, 3, 0, 0, [], []), (0, 3, 0, 0, [], [true, true, true, true]), (0, 0, 2, 0, [], []), (26, 5, 0, 15, [], []), (43, 59, 0, 1, [(88, 0)], []), (18, 3, 25, 0, [], []), (0, 3, 0, 0, [], []), (0, 0, 2, 0, [], []), (24, 5, 5, 42, [], []), (18, 0, 23, 0, [], []), (0, 2, 0, 0, [], []), (1, 0, 0, 1, [], []), (0, 0, 2, 0, [], []), (26, 5, 1, 19, [], []), (0, 3, 0, 0, [], []), (0, 1, 0, 0, [], []), (43, 70, 2, 1, [(91, 0)], []), (6, 6, 0, 0, [], []), (6, 4, 0, 0, [], []), (3, 2, 0, 0, [], []), (5, 3, 0, 1, [], []), (22, 0, 4, 0, [], []), (0, 2, 0, 0, [], []), (47, 0, 0, 0, [], [])]
def k_OrderSearch_goRich : List ja_I0 := [(0, 1, 0, 0, [], []), (0, 0, 2, 0, [], []), (26, 5, 0, 15, [], []), (43, 58, 0, 1, [(60, 0)], []), (18, 3, 8, 0, [], []), (0, 1, 0, 0, [], []), (1, 0, 0, 6, [], []), (18, 2, 20, 0, [], []), (0, 0, 2, 0, [], []), (24, 5, 6, 38, [], []), (19, 0, 15, 0, [], []), (0, 6, 0, 0, [], []), (0, 0, 2, 0, [], []), (24, 5, 8, 35, [], []), (18, 5, 19, 0, [], []), (0, 0, 2, 0, [], []), (0, 5, 0, 0, [], []), (0, 6, 0, 0, [], []), (43, 140, 2, 0, [(70, 0)], []), (51, 0, 0, 0, [], []), (0, 4, 0, 0, [], []), (0, 0, 2, 0, [], []), (26, 5, 4, 9, [], []), (0, 1, 0, 0, [], []), (32, 0, 0, 0, [], []), (6, 4, 0, 0, [], []), (3, 7, 0, 0, [], []), (1, 0, 0, 0, [], []), (3, 8, 0, 0, [], []), (0, 8, 0, 0, [], [true, true, true, true, true, true, true, true, true, false, false, false]), (0, 0, 2, 0, [], []), (26, 5, 0, 15, [], []), (43, 58, 0, 1, [(60, 0)], []), (18, 3, 92, 0, [], []), (0, 7, 0, 0, [], []), (0, 8, 0, 0, [], []), (6, 7, 0, 0, [], []), (1, 0, 0, 1, [], []), (6, 3, 0, 0, [], []), (19, 1, 90, 0, [], []), (0, 0, 2, 0, [], []), (26, 5, 0, 15, [], []), (0, 2, 0, 0, [], []), (0, 8, 0, 0, [], []), (43, 113, 2, 1, [(95, 0)], []), (3, 9, 0, 0, [], []), (0, 3, 0, 0, [], []), (0, 9, 0, 0, [], []), (0, 0, 2, 0, [], []), (26, 5, 0, 15, [], []), (0, 0, 2, 0, [], []), (24, 5, 5, 42, [], []), (43, 68, 1, 1, [(98, 0)], []), (6, 2, 0, 0, [], []), (6, 0, 0, 0, [], []), (3, 10, 0, 0, [], []), (0, 0, 2, 0, [], []), (26, 5, 3, 27, [], []), (0, 1, 0, 0, [], []), (0, 8, 0, 0, [], []), (0, 0, 2, 0, [], []), (24, 5, 5, 42, [], []), (0, 10, 0, 0, [], []), (0, 9, 0, 0, [], []), (43, 114, 5, 1, [(101, 0)], []), (3, 11, 0, 0, [], []), (0, 0, 2, 0, [], []), (0, 1, 0, 0, [], []), (1, 0, 0, 1, [], []), (6, 0, 0, 0, [], []), (0, 8, 0, 0, [], []), (0, 10, 0, 0, [], []), (0, 0, 2, 0, [], []), (26, 5, 0, 15, [], []), (43, 120, 0, 1, [(74, 0)], []), (6, 0, 0, 0, [], []), (0, 4, 0, 0, [], []), (1, 0, 0, 1, [], []), (0, 8, 0, 0, [], []), (6, 6, 0, 0, [], []), (6, 4, 0, 0, [], []), (0, 5, 0, 0, [], []), (1, 0, 0, 10, [], []), (6, 2, 0, 0, [], []), (0, 8, 0, 0, [], []), (6, 0, 0, 0, [], []), (0, 6, 0, 0, [], []), (0, 11, 0, 0, [], []), (6, 0, 0, 0, [], []), (43, 147, 6, 0, [(84, 0)], []), (5, 8, 0, 1, [], []), (22, 0, 29, 0, [], []), (51, 0, 0, 0, [], [])]
def k_X_find : List ja_I0 := [(0, 0, 2, 0, [], []), (26, 11, 3, 35, [], []), (0, 1, 0, 0, [], []), (43, 67, 1, 1, [(160, 0)], []), (19, 0, 19, 0, [], []), (0, 0, 2, 0, [], []), (26, 11, 3, 35, [], []), (0, 2, 0, 0, [], []), (43, 71, 1, 1, [(148, 0)], []), (19, 0, 19, 0, [], []), (0, 0, 2, 0, [], []), (26, 11, 3, 35, [], []), (0, 3, 0, 0, [], []), (43, 71, 1, 1, [(148, 0)], []), (19, 0, 19, 0, [], []), (0, 0, 2, 0, [], []), (26, 11, 9, 83, [], []), (43, 149, 0, 1, [(266, 0)], []), (19, 1, 21, 0, [], []), (1, 0, 0, -1, [], []), (47, 0, 0, 0, [], []), (0, 0, 2, 0, [], []), (26, 11, 9, 83, [], []), (0, 1, 0, 0, [], []), (0, 2, 0, 0, [], []), (0, 3, 0, 0, [], []), (0, 4, 0, 0, [], []), (43, 150, 4, 1, [(267, 0)], []), (47, 0, 0, 0, [], [])]
def k_Finds_hasRoom : List ja_I0 := [(0, 0, 2, 0, [], []), (24, 1, 3, 42, [], []), (1, 0, 0, 20, [], []), (18, 3, 6, 0, [], []), (1, 0, 0, 1, [], []), (22, 0, 7, 0, [], []), (1, 0, 0, 0, [], []), (48, 0, 0, 0, [], [])]
def k_Finds_add : List ja_I0 := [(0, 0, 2, 0, [], []), (26, 1, 0, 38, [], []), (0, 1, 0, 0, [], []), (43, 67, 1, 1, [(59, 0)], []), (19, 0, 39, 0, [], []), (0, 0, 2, 0, [], []), (26, 1, 0, 38, [], []), (0, 2, 0, 0, [], []), (43, 71, 1, 1, [(63, 0)], []), (19, 0, 39, 0, [], []), (0, 0, 2, 0, [], []), (26, 1, 1, 11, [], []), (0, 1, 0, 0, [], []), (35, 0, 0, 0, [], []), (0, 2, 0, 0, [], []), (53, 0, 0, 0, [], []), (32, 0, 0, 0, [], []), (0, 4, 0, 0, [], []), (19, 0, 23, 0, [], []), (1, 0, 0, 1, [], []), (0, 3, 0, 0, [], []), (6, 6, 0, 0, [], []), (22, 0, 28, 0, [], []), (1, 0, 0, 1, [], []), (0, 3, 0, 0, [], []), (6, 6, 0, 0, [], []), (1, 0, 0, -1, [], []), (6, 5, 0, 0, [], []), (6, 3, 0, 0, [], []), (36, 0, 0, 0, [], []), (0, 0, 2, 0, [], []), (52, 0, 0, 0, [], []), (24, 1, 3, 42, [], []), (1, 0, 0, 1, [], []), (6, 0, 0, 0, [], []), (27, 1, 3, 42, [], []), (0, 0, 2, 0, [], []), (1, 0, 0, 0, [], []), (28, 1, 5, 46, [], []), (0, 0, 2, 0, [], []), (24, 1, 3, 42, [], []), (47, 0, 0, 0, [], [])]
def k_X_fits : List ja_I0 := [(0, 0, 2, 0, [], []), (26, 11, 3, 35, [], []), (0, 1, 0, 0, [], []), (43, 67, 1, 1, [(160, 0)], []), (19, 0, 10, 0, [], []), (0, 0, 2, 0, [], []), (26, 11, 9, 83, [], []), (0, 1, 0, 0, [], []), (43, 152, 1, 1, [(270, 0)], []), (22, 0, 11, 0, [], []), (1, 0, 0, -1, [], []), (47, 0, 0, 0, [], [])]
def k_Finds_fittingOrders : List ja_I0 := [(0, 0, 2, 0, [], []), (26, 1, 0, 38, [], []), (0, 1, 0, 0, [], []), (43, 67, 1, 1, [(59, 0)], []), (19, 0, 12, 0, [], []), (0, 0, 2, 0, [], []), (0, 0, 2, 0, [], []), (26, 1, 1, 11, [], []), (0, 1, 0, 0, [], []), (35, 0, 0, 0, [], []), (43, 153, 1, 1, [(66, 0)], []), (22, 0, 13, 0, [], []), (1, 0, 0, 0, [], []), (47, 0, 0, 0, [], [])]
def k_Finds_waysThrough : List ja_I0 := [(1, 0, 0, 1, [], []), (0, 0, 2, 0, [], []), (26, 1, 0, 38, [], []), (43, 58, 0, 1, [(56, 0)], []), (6, 6, 0, 0, [], []), (1, 0, 0, 1, [], []), (6, 1, 0, 0, [], []), (3, 2, 0, 0, [], []), (0, 0, 2, 0, [], []), (26, 1, 2, 16, [], []), (1, 0, 0, 0, [], []), (1, 0, 0, 1, [], []), (36, 0, 0, 0, [], []), (1, 0, 0, 1, [], []), (3, 3, 0, 0, [], []), (0, 3, 0, 0, [], [true, true, true, true, false, false]), (0, 2, 0, 0, [], []), (18, 4, 65, 0, [], []), (0, 3, 0, 0, [], []), (0, 1, 2, 0, [], []), (0, 3, 0, 0, [], []), (44, 96, 1, 1, [(70, 0)], []), (1, 0, 0, 1, [], []), (6, 1, 0, 0, [], []), (32, 0, 0, 0, [], []), (6, 3, 0, 0, [], []), (3, 4, 0, 0, [], []), (0, 0, 2, 0, [], []), (26, 1, 2, 16, [], []), (0, 3, 0, 0, [], []), (1, 0, 0, 0, [], []), (36, 0, 0, 0, [], []), (1, 0, 0, 0, [], []), (3, 5, 0, 0, [], []), (0, 5, 0, 0, [], [true, true, true, true, true, true]), (0, 0, 2, 0, [], []), (26, 1, 0, 38, [], []), (43, 58, 0, 1, [(56, 0)], []), (18, 3, 63, 0, [], []), (0, 4, 0, 0, [], []), (0, 5, 0, 0, [], []), (6, 7, 0, 0, [], []), (1, 0, 0, 1, [], []), (6, 3, 0, 0, [], []), (1, 0, 0, 1, [], []), (18, 1, 61, 0, [], []), (0, 0, 2, 0, [], []), (26, 1, 2, 16, [], []), (0, 3, 0, 0, [], []), (53, 0, 0, 0, [], []), (32, 0, 0, 0, [], []), (0, 0, 2, 0, [], []), (26, 1, 2, 16, [], []), (0, 3, 0, 0, [], []), (1, 0, 0, 1, [], []), (0, 5, 0, 0, [], []), (6, 6, 0, 0, [], []), (6, 5, 0, 0, [], []), (32, 0, 0, 0, [], []), (6, 0, 0, 0, [], []), (36, 0, 0, 0, [], []), (5, 5, 0, 1, [], []), (22, 0, 34, 0, [], []), (5, 3, 0, 1, [], []), (22, 0, 15, 0, [], []), (0, 0, 2, 0, [], []), (26, 1, 2, 16, [], []), (0, 2, 0, 0, [], []), (32, 0, 0, 0, [], []), (47, 0, 0, 0, [], [])]
def k_X_tables : List ja_I0 := [(0, 0, 2, 0, [], []), (26, 11, 9, 83, [], []), (43, 155, 0, 1, [(273, 0)], []), (19, 1, 6, 0, [], []), (1, 232, 0, -1000000, [], []), (47, 0, 0, 0, [], []), (0, 1, 0, 0, [], []), (1, 0, 0, -1, [], []), (18, 1, 13, 0, [], []), (0, 0, 2, 0, [], []), (26, 11, 9, 83, [], []), (43, 156, 0, 1, [(276, 0)], []), (47, 0, 0, 0, [], []), (0, 0, 2, 0, [], []), (26, 11, 3, 35, [], []), (0, 2, 0, 0, [], []), (43, 67, 1, 1, [(160, 0)], []), (19, 0, 24, 0, [], []), (0, 0, 2, 0, [], []), (26, 11, 9, 83, [], []), (0, 1, 0, 0, [], []), (0, 2, 0, 0, [], []), (43, 170, 2, 1, [(279, 0)], []), (22, 0, 25, 0, [], []), (1, 0, 0, -1, [], []), (47, 0, 0, 0, [], [])]
def k_Finds_isSmall : List ja_I0 := [(0, 0, 2, 0, [], []), (26, 1, 0, 38, [], []), (43, 90, 0, 1, [(76, 0)], []), (19, 0, 16, 0, [], []), (0, 0, 2, 0, [], []), (26, 1, 0, 38, [], []), (43, 58, 0, 1, [(56, 0)], []), (1, 0, 0, 5, [], []), (18, 4, 16, 0, [], []), (0, 0, 2, 0, [], []), (26, 1, 0, 38, [], []), (43, 59, 0, 1, [(50, 0)], []), (1, 0, 0, 5, [], []), (18, 4, 16, 0, [], []), (1, 0, 0, 1, [], []), (22, 0, 17, 0, [], []), (1, 0, 0, 0, [], []), (48, 0, 0, 0, [], [])]
def k_Finds_howManyTables : List ja_I0 := [(0, 0, 2, 0, [], []), (43, 157, 0, 0, [(80, 0)], []), (0, 0, 2, 0, [], []), (24, 1, 6, 83, [], []), (47, 0, 0, 0, [], [])]
def k_Finds_seekTables : List ja_I0 := [(0, 0, 2, 0, [], []), (24, 1, 5, 46, [], []), (19, 1, 6, 0, [], []), (0, 0, 2, 0, [], []), (43, 155, 0, 1, [(89, 0)], []), (19, 1, 7, 0, [], []), (51, 0, 0, 0, [], []), (0, 0, 2, 0, [], []), (26, 1, 4, 86, [], []), (21, 0, 14, 0, [], []), (0, 0, 2, 0, [], []), (1, 0, 0, 5000, [], []), (41, 100, 0, 0, [], []), (30, 1, 4, 86, [], []), (0, 0, 2, 0, [], []), (43, 158, 0, 0, [(92, 0)], []), (0, 0, 2, 0, [], []), (43, 159, 0, 1, [(95, 0)], []), (19, 0, 27, 0, [], []), (0, 0, 2, 0, [], []), (1, 0, 0, 0, [], []), (27, 1, 6, 83, [], []), (0, 0, 2, 0, [], []), (43, 169, 0, 0, [(98, 0)], []), (0, 0, 2, 0, [], []), (1, 0, 0, 1000, [], []), (43, 160, 1, 0, [(101, 0)], []), (0, 0, 2, 0, [], []), (1, 0, 0, 1, [], []), (28, 1, 5, 46, [], []), (51, 0, 0, 0, [], [])]
def k_Finds_clearSearch : List ja_I0 := [(0, 0, 2, 0, [], []), (1, 0, 0, 0, [], []), (27, 1, 6, 83, [], []), (1, 0, 0, 0, [], []), (3, 1, 0, 0, [], []), (0, 1, 0, 0, [], [true, true, false]), (1, 0, 0, 5, [], []), (18, 3, 46, 0, [], []), (0, 0, 2, 0, [], []), (26, 1, 9, 23, [], []), (0, 1, 0, 0, [], []), (1, 0, 0, 0, [], []), (36, 0, 0, 0, [], []), (0, 0, 2, 0, [], []), (26, 1, 10, 26, [], []), (0, 1, 0, 0, [], []), (1, 0, 0, 0, [], []), (36, 0, 0, 0, [], []), (0, 0, 2, 0, [], []), (26, 1, 11, 29, [], []), (0, 1, 0, 0, [], []), (1, 0, 0, 0, [], []), (36, 0, 0, 0, [], []), (1, 0, 0, 0, [], []), (3, 2, 0, 0, [], []), (0, 2, 0, 0, [], [true, true, true]), (1, 0, 0, 5, [], []), (18, 3, 44, 0, [], []), (0, 0, 2, 0, [], []), (26, 1, 12, 32, [], []), (0, 1, 0, 0, [], []), (35, 0, 0, 0, [], []), (0, 2, 0, 0, [], []), (1, 0, 0, -1, [], []), (36, 0, 0, 0, [], []), (0, 0, 2, 0, [], []), (26, 1, 13, 35, [], []), (0, 1, 0, 0, [], []), (35, 0, 0, 0, [], []), (0, 2, 0, 0, [], []), (1, 0, 0, 0, [], []), (36, 0, 0, 0, [], []), (5, 2, 0, 1, [], []), (22, 0, 25, 0, [], []), (5, 1, 0, 1, [], []), (22, 0, 5, 0, [], []), (51, 0, 0, 0, [], [])]
def k_Finds_someAreLawful : List ja_I0 := [(1, 0, 0, 0, [], []), (3, 1, 0, 0, [], []), (0, 1, 0, 0, [], [true, true, false]), (0, 0, 2, 0, [], []), (26, 1, 0, 38, [], []), (43, 59, 0, 1, [(50, 0)], []), (18, 3, 37, 0, [], []), (1, 0, 0, 0, [], []), (3, 2, 0, 0, [], []), (0, 2, 0, 0, [], [true, true, true]), (0, 0, 2, 0, [], []), (26, 1, 0, 38, [], []), (43, 58, 0, 1, [(56, 0)], []), (18, 3, 35, 0, [], []), (0, 0, 2, 0, [], []), (26, 1, 8, 20, [], []), (0, 1, 0, 0, [], []), (35, 0, 0, 0, [], []), (0, 2, 0, 0, [], []), (0, 1, 0, 0, [], []), (19, 1, 25, 0, [], []), (1, 0, 0, 1, [], []), (0, 2, 0, 0, [], []), (6, 6, 0, 0, [], []), (22, 0, 32, 0, [], []), (1, 0, 0, 1, [], []), (0, 0, 2, 0, [], []), (26, 1, 0, 38, [], []), (43, 58, 0, 1, [(56, 0)], []), (6, 6, 0, 0, [], []), (1, 0, 0, 1, [], []), (6, 1, 0, 0, [], []), (36, 0, 0, 0, [], []), (5, 2, 0, 1, [], []), (22, 0, 9, 0, [], []), (5, 1, 0, 1, [], []), (22, 0, 2, 0, [], []), (0, 0, 2, 0, [], []), (1, 0, 0, 1, [], []), (43, 160, 1, 0, [(101, 0)], []), (0, 0, 2, 0, [], []), (24, 1, 6, 83, [], []), (19, 5, 45, 0, [], []), (1, 0, 0, 1, [], []), (22, 0, 46, 0, [], []), (1, 0, 0, 0, [], []), (48, 0, 0, 0, [], [])]
def k_Finds_fillIfItCanBe : List ja_I0 := [(0, 0, 2, 0, [], []), (0, 1, 0, 0, [], []), (27, 1, 7, 105, [], []), (0, 0, 2, 0, [], []), (43, 161, 0, 0, [(108, 0)], []), (1, 0, 0, 0, [], []), (3, 2, 0, 0, [], []), (0, 2, 0, 0, [], [true, false, true]), (0, 0, 2, 0, [], []), (26, 1, 0, 38, [], []), (43, 59, 0, 1, [(50, 0)], []), (18, 3, 22, 0, [], []), (0, 0, 2, 0, [], []), (0, 0, 2, 0, [], []), (26, 1, 8, 20, [], []), (0, 2, 0, 0, [], []), (35, 0, 0, 0, [], []), (43, 153, 1, 1, [(66, 0)], []), (19, 1, 20, 0, [], []), (51, 0, 0, 0, [], []), (5, 2, 0, 1, [], []), (22, 0, 7, 0, [], []), (0, 0, 2, 0, [], []), (1, 0, 0, 0, [], []), (1, 0, 0, 0, [], []), (43, 163, 2, 0, [(111, 0)], []), (51, 0, 0, 0, [], [])]
def k_Finds_shutWhereOthersMustBe : List ja_I0 := [(1, 0, 0, 1, [], []), (3, 1, 0, 0, [], []), (1, 0, 0, 0, [], []), (3, 2, 0, 0, [], []), (0, 2, 0, 0, [], [true, true, true, false, false]), (1, 0, 0, 25, [], []), (18, 3, 47, 0, [], []), (0, 1, 0, 0, [], []), (19, 0, 47, 0, [], []), (1, 0, 0, 0, [], []), (3, 1, 0, 0, [], []), (1, 0, 0, 0, [], []), (3, 3, 0, 0, [], []), (0, 3, 0, 0, [], [true, true, true, true, false]), (0, 0, 2, 0, [], []), (26, 1, 0, 38, [], []), (43, 59, 0, 1, [(50, 0)], []), (18, 3, 45, 0, [], []), (1, 0, 0, 0, [], []), (3, 4, 0, 0, [], []), (0, 4, 0, 0, [], [true, true, true, true, true]), (0, 0, 2, 0, [], []), (26, 1, 0, 38, [], []), (43, 58, 0, 1, [(56, 0)], []), (18, 3, 43, 0, [], []), (0, 0, 2, 0, [], []), (26, 1, 8, 20, [], []), (0, 3, 0, 0, [], []), (35, 0, 0, 0, [], []), (0, 4, 0, 0, [], []), (32, 0, 0, 0, [], []), (44, 96, 1, 1, [(70, 0)], []), (1, 0, 0, 1, [], []), (18, 1, 41, 0, [], []), (0, 0, 2, 0, [], []), (0, 3, 0, 0, [], []), (0, 4, 0, 0, [], []), (43, 162, 2, 1, [(115, 0)], []), (19, 0, 41, 0, [], []), (1, 0, 0, 1, [], []), (3, 1, 0, 0, [], []), (5, 4, 0, 1, [], []), (22, 0, 20, 0, [], []), (5, 3, 0, 1, [], []), (22, 0, 13, 0, [], []), (5, 2, 0, 1, [], []), (22, 0, 4, 0, [], []), (51, 0, 0, 0, [], [])]
def k_Finds_shutElsewhere : List ja_I0 := [(0, 0, 2, 0, [], []), (26, 1, 8, 20, [], []), (0, 1, 0, 0, [], []), (35, 0, 0, 0, [], []), (0, 2, 0, 0, [], []), (32, 0, 0, 0, [], []), (3, 3, 0, 0, [], []), (1, 0, 0, 0, [], []), (3, 4, 0, 0, [], []), (1, 0, 0, 0, [], []), (3, 5, 0, 0, [], []), (0, 5, 0, 0, [], [true, true, true, true, true, true]), (0, 0, 2, 0, [], []), (26, 1, 0, 38, [], []), (43, 59, 0, 1, [(50, 0)], []), (18, 3, 44, 0, [], []), (0, 5, 0, 0, [], []), (0, 1, 0, 0, [], []), (18, 0, 42, 0, [], []), (0, 4, 0, 0, [], []), (0, 0, 2, 0, [], []), (26, 1, 8, 20, [], []), (0, 5, 0, 0, [], []), (35, 0, 0, 0, [], []), (0, 2, 0, 0, [], []), (32, 0, 0, 0, [], []), (0, 3, 0, 0, [], []), (6, 3, 0, 0, [], []), (6, 4, 0, 0, [], []), (3, 4, 0, 0, [], []), (0, 0, 2, 0, [], []), (26, 1, 8, 20, [], []), (0, 5, 0, 0, [], []), (35, 0, 0, 0, [], []), (0, 2, 0, 0, [], []), (53, 0, 0, 0, [], []), (32, 0, 0, 0, [], []), (0, 3, 0, 0, [], []), (1, 0, 0, -1, [], []), (6, 5, 0, 0, [], []), (6, 3, 0, 0, [], []), (36, 0, 0, 0, [], []), (5, 5, 0, 1, [], []), (22, 0, 11, 0, [], []), (1, 0, 0, 0, [], []), (3, 5, 0, 0, [], []), (0, 5, 0, 0, [], [true, true, true, true, true, true]), (0, 0, 2, 0, [], []), (26, 1, 0, 38, [], []), (43, 58, 0, 1, [(56, 0)], []), (18, 3, 79, 0, [], []), (0, 5, 0, 0, [], []), (0, 2, 0, 0, [], []), (18, 0, 77, 0, [], []), (0, 4, 0, 0, [], []), (0, 0, 2, 0, [], []), (26, 1, 8, 20, [], []), (0, 1, 0, 0, [], []), (35, 0, 0, 0, [], []), (0, 5, 0, 0, [], []), (32, 0, 0, 0, [], []), (0, 3, 0, 0, [], []), (6, 3, 0, 0, [], []), (6, 4, 0, 0, [], []), (3, 4, 0, 0, [], []), (0, 0, 2, 0, [], []), (26, 1, 8, 20, [], []), (0, 1, 0, 0, [], []), (35, 0, 0, 0, [], []), (0, 5, 0, 0, [], []), (53, 0, 0, 0, [], []), (32, 0, 0, 0, [], []), (0, 3, 0, 0, [], []), (1, 0, 0, -1, [], []), (6, 5, 0, 0, [], []), (6, 3, 0, 0, [], []), (36, 0, 0, 0, [], []), (5, 5, 0, 1, [], []), (22, 0, 46, 0, [], []), (0, 4, 0, 0, [], []), (19, 0, 83, 0, [], []), (1, 0, 0, 1, [], []), (22, 0, 84, 0, [], []), (1, 0, 0, 0, [], []), (48, 0, 0, 0, [], [])]
def k_Finds_fill : List ja_I0 := [(0, 1, 0, 0, [], []), (0, 0, 2, 0, [], []), (26, 1, 0, 38, [], []), (43, 59, 0, 1, [(50, 0)], []), (18, 2, 8, 0, [], []), (0, 0, 2, 0, [], []), (43, 164, 0, 0, [(119, 0)], []), (51, 0, 0, 0, [], []), (0, 2, 0, 0, [], []), (0, 0, 2, 0, [], []), (26, 1, 0, 38, [], []), (43, 58, 0, 1, [(56, 0)], []), (18, 2, 20, 0, [], []), (0, 0, 2, 0, [], []), (0, 1, 0, 0, [], []), (1, 0, 0, 1, [], []), (6, 0, 0, 0, [], []), (1, 0, 0, 0, [], []), (43, 163, 2, 0, [(111, 0)], []), (51, 0, 0, 0, [], []), (0, 0, 2, 0, [], []), (26, 1, 8, 20, [], []), (0, 1, 0, 0, [], []), (35, 0, 0, 0, [], []), (0, 2, 0, 0, [], []), (32, 0, 0, 0, [], []), (0, 0, 2, 0, [], []), (26, 1, 10, 26, [], []), (0, 1, 0, 0, [], []), (32, 0, 0, 0, [], []), (1, 0, 0, -1, [], []), (6, 5, 0, 0, [], []), (6, 3, 0, 0, [], []), (0, 0, 2, 0, [], []), (26, 1, 11, 29, [], []), (0, 2, 0, 0, [], []), (32, 0, 0, 0, [], []), (1, 0, 0, -1, [], []), (6, 5, 0, 0, [], []), (6, 3, 0, 0, [], []), (3, 3, 0, 0, [], []), (1, 0, 0, 0, [], []), (3, 4, 0, 0, [], []), (0, 4, 0, 0, [], [true, true, true, true, true, false, false, false]), (0, 0, 2, 0, [], []), (26, 1, 0, 38, [], []), (43, 58, 0, 1, [(56, 0)], []), (18, 3, 145, 0, [], []), (0, 0, 2, 0, [], []), (24, 1, 6, 83, [], []), (0, 0, 2, 0, [], []), (24, 1, 7, 105, [], []), (18, 3, 145, 0, [], []), (0, 3, 0, 0, [], []), (0, 4, 0, 0, [], []), (6, 7, 0, 0, [], []), (1, 0, 0, 1, [], []), (6, 3, 0, 0, [], []), (1, 0, 0, 1, [], []), (18, 1, 143, 0, [], []), (0, 2, 0, 0, [], []), (19, 5, 71, 0, [], []), (0, 0, 2, 0, [], []), (26, 1, 12, 32, [], []), (0, 2, 0, 0, [], []), (1, 0, 0, 1, [], []), (6, 1, 0, 0, [], []), (35, 0, 0, 0, [], []), (0, 4, 0, 0, [], []), (32, 0, 0, 0, [], []), (22, 0, 72, 0, [], []), (1, 0, 0, -1, [], []), (3, 5, 0, 0, [], []), (0, 2, 0, 0, [], []), (1, 0, 0, 1, [], []), (6, 0, 0, 0, [], []), (0, 0, 2, 0, [], []), (26, 1, 0, 38, [], []), (43, 58, 0, 1, [(56, 0)], []), (18, 3, 89, 0, [], []), (0, 0, 2, 0, [], []), (26, 1, 12, 32, [], []), (0, 2, 0, 0, [], []), (1, 0, 0, 1, [], []), (6, 0, 0, 0, [], []), (35, 0, 0, 0, [], []), (0, 4, 0, 0, [], []), (32, 0, 0, 0, [], []), (22, 0, 90, 0, [], []), (1, 0, 0, -1, [], []), (3, 6, 0, 0, [], []), (0, 0, 2, 0, [], []), (0, 1, 0, 0, [], []), (0, 5, 0, 0, [], []), (43, 165, 2, 1, [(122, 0)], []), (19, 0, 143, 0, [], []), (0, 0, 2, 0, [], []), (0, 6, 0, 0, [], []), (0, 1, 0, 0, [], []), (43, 165, 2, 1, [(122, 0)], []), (19, 0, 143, 0, [], []), (0, 0, 2, 0, [], []), (26, 1, 9, 23, [], []), (0, 1, 0, 0, [], []), (32, 0, 0, 0, [], []), (3, 7, 0, 0, [], []), (0, 0, 2, 0, [], []), (0, 1, 0, 0, [], []), (0, 2, 0, 0, [], []), (0, 4, 0, 0, [], []), (43, 166, 3, 0, [(125, 0)], []), (0, 0, 2, 0, [], []), (0, 1, 0, 0, [], []), (0, 5, 0, 0, [], []), (1, 0, 0, 1, [], []), (43, 167, 3, 0, [(129, 0)], []), (0, 0, 2, 0, [], []), (0, 6, 0, 0, [], []), (0, 1, 0, 0, [], []), (1, 0, 0, 1, [], []), (43, 167, 3, 0, [(129, 0)], []), (0, 0, 2, 0, [], []), (0, 1, 0, 0, [], []), (0, 2, 0, 0, [], []), (1, 0, 0, 1, [], []), (6, 0, 0, 0, [], []), (43, 163, 2, 0, [(111, 0)], []), (0, 0, 2, 0, [], []), (0, 6, 0, 0, [], []), (0, 1, 0, 0, [], []), (1, 0, 0, -1, [], []), (43, 167, 3, 0, [(129, 0)], []), (0, 0, 2, 0, [], []), (0, 1, 0, 0, [], []), (0, 5, 0, 0, [], []), (1, 0, 0, -1, [], []), (43, 167, 3, 0, [(129, 0)], []), (0, 0, 2, 0, [], []), (0, 1, 0, 0, [], []), (0, 2, 0, 0, [], []), (0, 4, 0, 0, [], []), (0, 7, 0, 0, [], []), (43, 168, 4, 0, [(132, 0)], []), (5, 4, 0, 1, [], []), (22, 0, 43, 0, [], []), (51, 0, 0, 0, [], [])]
def k_Finds_keepTable : List ja_I0 := [(0, 0, 2, 0, [], []), (26, 1, 4, 86, [], []), (20, 0, 7, 0, [], []), (0, 0, 2, 0, [], []), (24, 1, 6, 83, [], []), (1, 0, 0, 1000, [], []), (18, 2, 8, 0, [], []), (51, 0, 0, 0, [], []), (1, 0, 0, 0, [], []), (3, 1, 0, 0, [], []), (0, 1, 0, 0, [], [true, true]), (1, 0, 0, 5, [], []), (18, 3, 28, 0, [], []), (0, 0, 2, 0, [], []), (26, 1, 4, 86, [], []), (0, 0, 2, 0, [], []), (24, 1, 6, 83, [], []), (1, 0, 0, 5, [], []), (6, 2, 0, 0, [], []), (0, 1, 0, 0, [], []), (6, 0, 0, 0, [], []), (0, 0, 2, 0, [], []), (26, 1, 9, 23, [], []), (0, 1, 0, 0, [], []), (32, 0, 0, 0, [], []), (36, 0, 0, 0, [], []), (5, 1, 0, 1, [], []), (22, 0, 10, 0, [], []), (0, 0, 2, 0, [], []), (52, 0, 0, 0, [], []), (24, 1, 6, 83, [], []), (1, 0, 0, 1, [], []), (6, 0, 0, 0, [], []), (27, 1, 6, 83, [], []), (51, 0, 0, 0, [], [])]
def k_Finds_mayFollow : List ja_I0 := [(0, 1, 0, 0, [], []), (1, 0, 0, -1, [], []), (18, 0, 16, 0, [], []), (0, 2, 0, 0, [], []), (1, 0, 0, -1, [], []), (18, 0, 16, 0, [], []), (0, 0, 2, 0, [], []), (26, 1, 13, 35, [], []), (0, 1, 0, 0, [], []), (35, 0, 0, 0, [], []), (0, 2, 0, 0, [], []), (32, 0, 0, 0, [], []), (0, 0, 2, 0, [], []), (26, 1, 0, 38, [], []), (43, 92, 0, 1, [(136, 0)], []), (18, 3, 18, 0, [], []), (1, 0, 0, 1, [], []), (22, 0, 19, 0, [], []), (1, 0, 0, 0, [], []), (48, 0, 0, 0, [], [])]
def k_Finds_set : List ja_I0 := [(0, 0, 2, 0, [], []), (26, 1, 9, 23, [], []), (0, 1, 0, 0, [], []), (0, 0, 2, 0, [], []), (26, 1, 9, 23, [], []), (0, 1, 0, 0, [], []), (32, 0, 0, 0, [], []), (1, 0, 0, 10, [], []), (6, 2, 0, 0, [], []), (0, 3, 0, 0, [], []), (6, 0, 0, 0, [], []), (36, 0, 0, 0, [], []), (0, 0, 2, 0, [], []), (26, 1, 10, 26, [], []), (0, 1, 0, 0, [], []), (53, 0, 0, 0, [], []), (32, 0, 0, 0, [], []), (1, 0, 0, 1, [], []), (0, 3, 0, 0, [], []), (6, 6, 0, 0, [], []), (6, 4, 0, 0, [], []), (36, 0, 0, 0, [], []), (0, 0, 2, 0, [], []), (26, 1, 11, 29, [], []), (0, 2, 0, 0, [], []), (53, 0, 0, 0, [], []), (32, 0, 0, 0, [], []), (1, 0, 0, 1, [], []), (0, 3, 0, 0, [], []), (6, 6, 0, 0, [], []), (6, 4, 0, 0, [], []), (36, 0, 0, 0, [], []), (0, 0, 2, 0, [], []), (26, 1, 12, 32, [], []), (0, 2, 0, 0, [], []), (35, 0, 0, 0, [], []), (0, 3, 0, 0, [], []), (0, 1, 0, 0, [], []), (36, 0, 0, 0, [], []), (51, 0, 0, 0, [], [])]
def k_Finds_follow : List ja_I0 := [(0, 1, 0, 0, [], []), (1, 0, 0, -1, [], []), (18, 0, 16, 0, [], []), (0, 2, 0, 0, [], []), (1, 0, 0, -1, [], []), (18, 0, 16, 0, [], []), (0, 0, 2, 0, [], []), (26, 1, 13, 35, [], []), (0, 1, 0, 0, [], []), (35, 0, 0, 0, [], []), (0, 2, 0, 0, [], []), (53, 0, 0, 0, [], []), (32, 0, 0, 0, [], []), (0, 3, 0, 0, [], []), (6, 0, 0, 0, [], []), (36, 0, 0, 0, [], []), (51, 0, 0, 0, [], [])]
def k_Finds_unset : List ja_I0 := [(0, 0, 2, 0, [], []), (26, 1, 9, 23, [], []), (0, 1, 0, 0, [], []), (0, 4, 0, 0, [], []), (36, 0, 0, 0, [], []), (0, 0, 2, 0, [], []), (26, 1, 10, 26, [], []), (0, 1, 0, 0, [], []), (53, 0, 0, 0, [], []), (32, 0, 0, 0, [], []), (1, 0, 0, 1, [], []), (0, 3, 0, 0, [], []), (6, 6, 0, 0, [], []), (1, 0, 0, -1, [], []), (6, 5, 0, 0, [], []), (6, 3, 0, 0, [], []), (36, 0, 0, 0, [], []), (0, 0, 2, 0, [], []), (26, 1, 11, 29, [], []), (0, 2, 0, 0, [], []), (53, 0, 0, 0, [], []), (32, 0, 0, 0, [], []), (1, 0, 0, 1, [], []), (0, 3, 0, 0, [], []), (6, 6, 0, 0, [], []), (1, 0, 0, -1, [], []), (6, 5, 0, 0, [], []), (6, 3, 0, 0, [], []), (36, 0, 0, 0, [], []), (0, 0, 2, 0, [], []), (26, 1, 12, 32, [], []), (0, 2, 0, 0, [], []), (35, 0, 0, 0, [], []), (0, 3, 0, 0, [], []), (1, 0, 0, -1, [], []), (36, 0, 0, 0, [], []), (51, 0, 0, 0, [], [])]
def k_Finds_openWhatIsLeft : List ja_I0 := [(1, 0, 0, 0, [], []), (3, 1, 0, 0, [], []), (0, 1, 0, 0, [], [true, true, false]), (0, 0, 2, 0, [], []), (26, 1, 0, 38, [], []), (43, 59, 0, 1, [(50, 0)], []), (18, 3, 30, 0, [], []), (1, 0, 0, 0, [], []), (3, 2, 0, 0, [], []), (0, 2, 0, 0, [], [true, true, true]), (0, 0, 2, 0, [], []), (26, 1, 0, 38, [], []), (43, 58, 0, 1, [(56, 0)], []), (18, 3, 28, 0, [], []), (0, 0, 2, 0, [], []), (26, 1, 8, 20, [], []), (0, 1, 0, 0, [], []), (35, 0, 0, 0, [], []), (0, 2, 0, 0, [], []), (0, 0, 2, 0, [], []), (26, 1, 1, 11, [], []), (0, 1, 0, 0, [], []), (35, 0, 0, 0, [], []), (0, 2, 0, 0, [], []), (32, 0, 0, 0, [], []), (36, 0, 0, 0, [], []), (5, 2, 0, 1, [], []), (22, 0, 9, 0, [], []), (5, 1, 0, 1, [], []), (22, 0, 2, 0, [], []), (51, 0, 0, 0, [], [])]
def k_Finds_orderInTable : List ja_I0 := [(0, 0, 2, 0, [], []), (43, 157, 0, 0, [(80, 0)], []), (0, 1, 0, 0, [], []), (19, 2, 16, 0, [], []), (0, 1, 0, 0, [], []), (0, 0, 2, 0, [], []), (24, 1, 6, 83, [], []), (18, 3, 16, 0, [], []), (0, 2, 0, 0, [], []), (19, 2, 16, 0, [], []), (0, 2, 0, 0, [], []), (1, 0, 0, 5, [], []), (18, 3, 16, 0, [], []), (0, 0, 2, 0, [], []), (26, 1, 4, 86, [], []), (21, 0, 18, 0, [], []), (1, 0, 0, -1, [], []), (47, 0, 0, 0, [], []), (0, 0, 2, 0, [], []), (26, 1, 4, 86, [], []), (0, 1, 0, 0, [], []), (1, 0, 0, 5, [], []), (6, 2, 0, 0, [], []), (0, 2, 0, 0, [], []), (6, 0, 0, 0, [], []), (32, 0, 0, 0, [], []), (47, 0, 0, 0, [], [])]
def k_X_wrong : List ja_I0 := [(0, 0, 2, 0, [], []), (26, 11, 3, 35, [], []), (0, 1, 0, 0, [], []), (43, 67, 1, 1, [(160, 0)], []), (19, 0, 20, 0, [], []), (0, 0, 2, 0, [], []), (26, 11, 3, 35, [], []), (0, 2, 0, 0, [], []), (43, 71, 1, 1, [(148, 0)], []), (19, 0, 20, 0, [], []), (0, 0, 2, 0, [], []), (26, 11, 3, 35, [], []), (0, 3, 0, 0, [], []), (43, 71, 1, 1, [(148, 0)], []), (19, 0, 20, 0, [], []), (0, 4, 0, 0, [], []), (19, 2, 20, 0, [], []), (0, 4, 0, 0, [], []), (1, 0, 0, 1, [], []), (18, 5, 22, 0, [], []), (1, 0, 0, -1, [], []), (47, 0, 0, 0, [], []), (0, 0, 2, 0, [], []), (26, 11, 5, 51, [], []), (0, 1, 0, 0, [], []), (0, 2, 0, 0, [], []), (43, 70, 2, 1, [(194, 0)], []), (0, 3, 0, 0, [], []), (18, 1, 31, 0, [], []), (1, 0, 0, -1, [], []), (47, 0, 0, 0, [], []), (0, 4, 0, 0, [], []), (19, 1, 39, 0, [], []), (0, 0, 2, 0, [], []), (26, 11, 5, 51, [], []), (0, 2, 0, 0, [], []), (0, 3, 0, 0, [], []), (43, 95, 2, 1, [(213, 0)], []), (47, 0, 0, 0, [], []), (0, 0, 2, 0, [], []), (26, 11, 5, 51, [], []), (0, 1, 0, 0, [], []), (0, 2, 0, 0, [], []), (0, 3, 0, 0, [], []), (43, 172, 3, 1, [(282, 0)], []), (47, 0, 0, 0, [], [])]
def k_Table_followsGoneWrong : List ja_I0 := [(1, 0, 0, 0, [], []), (3, 4, 0, 0, [], []), (1, 0, 0, 1, [], []), (3, 5, 0, 0, [], []), (0, 5, 0, 0, [], [true, true, true, true, true, true, false, false]), (0, 0, 2, 0, [], []), (26, 7, 0, 20, [], []), (43, 58, 0, 1, [(24, 0)], []), (18, 3, 39, 0, [], []), (0, 5, 0, 0, [], []), (0, 2, 0, 0, [], []), (18, 1, 14, 0, [], []), (0, 3, 0, 0, [], []), (22, 0, 18, 0, [], []), (0, 0, 2, 0, [], []), (0, 1, 0, 0, [], []), (0, 5, 0, 0, [], []), (43, 70, 2, 1, [(40, 0)], []), (3, 6, 0, 0, [], []), (0, 0, 2, 0, [], []), (0, 5, 0, 0, [], []), (1, 0, 0, 1, [], []), (6, 1, 0, 0, [], []), (0, 6, 0, 0, [], []), (43, 95, 2, 1, [(44, 0)], []), (1, 0, 0, 1, [], []), (0, 1, 0, 0, [], []), (6, 6, 0, 0, [], []), (1, 0, 0, -1, [], []), (6, 5, 0, 0, [], []), (6, 3, 0, 0, [], []), (3, 7, 0, 0, [], []), (0, 4, 0, 0, [], []), (0, 7, 0, 0, [], []), (44, 96, 1, 1, [(47, 0)], []), (6, 0, 0, 0, [], []), (3, 4, 0, 0, [], []), (5, 5, 0, 1, [], []), (22, 0, 4, 0, [], []), (0, 4, 0, 0, [], []), (47, 0, 0, 0, [], [])]
def k_X_helpers : List ja_I0 := [(0, 0, 2, 0, [], []), (26, 11, 3, 35, [], []), (43, 90, 0, 1, [(201, 0)], []), (19, 0, 9, 0, [], []), (0, 1, 0, 0, [], []), (19, 2, 9, 0, [], []), (0, 1, 0, 0, [], []), (1, 0, 0, 40, [], []), (18, 5, 11, 0, [], []), (1, 0, 0, -1, [], []), (47, 0, 0, 0, [], []), (0, 0, 2, 0, [], []), (26, 11, 10, 90, [], []), (0, 1, 0, 0, [], []), (43, 174, 1, 1, [(286, 0)], []), (47, 0, 0, 0, [], [])]
def k_HelperCount_fewest : List ja_I0 := [(0, 0, 2, 0, [], []), (0, 1, 0, 0, [], []), (43, 175, 1, 0, [(43, 0)], []), (0, 0, 2, 0, [], []), (43, 177, 0, 0, [(47, 0)], []), (0, 0, 2, 0, [], []), (24, 2, 9, 50, [], []), (3, 2, 0, 0, [], []), (1, 0, 0, 0, [], []), (3, 3, 0, 0, [], []), (0, 3, 0, 0, [], [true, false, true, true]), (0, 0, 2, 0, [], []), (24, 2, 9, 50, [], []), (18, 3, 21, 0, [], []), (0, 0, 2, 0, [], []), (0, 3, 0, 0, [], []), (43, 178, 1, 1, [(54, 0)], []), (19, 0, 19, 0, [], []), (5, 2, 0, -1, [], []), (5, 3, 0, 1, [], []), (22, 0, 10, 0, [], []), (0, 2, 0, 0, [], []), (47, 0, 0, 0, [], [])]
def k_HelperCount_fillReach : List ja_I0 := [(1, 0, 0, 0, [], []), (3, 2, 0, 0, [], []), (0, 2, 0, 0, [], [true, true, true, false]), (0, 0, 2, 0, [], []), (26, 2, 0, 35, [], []), (43, 58, 0, 1, [(58, 0)], []), (18, 3, 18, 0, [], []), (0, 0, 2, 0, [], []), (26, 2, 2, 11, [], []), (1, 0, 0, 0, [], []), (35, 0, 0, 0, [], []), (0, 2, 0, 0, [], []), (1, 0, 0, 1, [], []), (0, 2, 0, 0, [], []), (6, 6, 0, 0, [], []), (36, 0, 0, 0, [], []), (5, 2, 0, 1, [], []), (22, 0, 2, 0, [], []), (1, 0, 0, 1, [], []), (3, 2, 0, 0, [], []), (0, 2, 0, 0, [], [true, true, true, false]), (0, 0, 2, 0, [], []), (26, 2, 0, 35, [], []), (43, 58, 0, 1, [(58, 0)], []), (18, 3, 47, 0, [], []), (1, 0, 0, 0, [], []), (3, 3, 0, 0, [], []), (0, 3, 0, 0, [], [true, true, true, true]), (0, 0, 2, 0, [], []), (26, 2, 0, 35, [], []), (43, 58, 0, 1, [(58, 0)], []), (18, 3, 45, 0, [], []), (0, 0, 2, 0, [], []), (26, 2, 2, 11, [], []), (0, 2, 0, 0, [], []), (35, 0, 0, 0, [], []), (0, 3, 0, 0, [], []), (0, 0, 2, 0, [], []), (0, 2, 0, 0, [], []), (0, 3, 0, 0, [], []), (0, 1, 0, 0, [], []), (43, 176, 3, 1, [(63, 0)], []), (36, 0, 0, 0, [], []), (5, 3, 0, 1, [], []), (22, 0, 27, 0, [], []), (5, 2, 0, 1, [], []), (22, 0, 20, 0, [], []), (51, 0, 0, 0, [], [])]
def k_HelperCount_oneMoveMore : List ja_I0 := [(1, 0, 0, 0, [], []), (3, 4, 0, 0, [], []), (1, 0, 0, 0, [], []), (3, 5, 0, 0, [], []), (0, 5, 0, 0, [], [true, true, true, true, true, true]), (0, 0, 2, 0, [], []), (26, 2, 0, 35, [], []), (43, 58, 0, 1, [(58, 0)], []), (18, 3, 29, 0, [], []), (0, 0, 2, 0, [], []), (26, 2, 0, 35, [], []), (0, 2, 0, 0, [], []), (0, 5, 0, 0, [], []), (43, 113, 2, 1, [(67, 0)], []), (0, 3, 0, 0, [], []), (18, 4, 27, 0, [], []), (0, 4, 0, 0, [], []), (0, 0, 2, 0, [], []), (26, 2, 2, 11, [], []), (0, 1, 0, 0, [], []), (1, 0, 0, 1, [], []), (6, 1, 0, 0, [], []), (35, 0, 0, 0, [], []), (0, 5, 0, 0, [], []), (32, 0, 0, 0, [], []), (6, 4, 0, 0, [], []), (3, 4, 0, 0, [], []), (5, 5, 0, 1, [], []), (22, 0, 4, 0, [], []), (0, 4, 0, 0, [], []), (47, 0, 0, 0, [], [])]
def k_HelperCount_gatherDuties : List ja_I0 := [(0, 0, 2, 0, [], []), (1, 0, 0, 0, [], []), (27, 2, 9, 50, [], []), (1, 0, 0, 0, [], []), (3, 1, 0, 0, [], []), (0, 1, 0, 0, [], [true, true, false]), (0, 0, 2, 0, [], []), (26, 2, 0, 35, [], []), (43, 58, 0, 1, [(58, 0)], []), (18, 3, 61, 0, [], []), (1, 0, 0, 0, [], []), (3, 2, 0, 0, [], []), (0, 2, 0, 0, [], [true, true, true]), (0, 0, 2, 0, [], []), (26, 2, 0, 35, [], []), (43, 58, 0, 1, [(58, 0)], []), (18, 3, 59, 0, [], []), (0, 0, 2, 0, [], []), (26, 2, 1, 39, [], []), (0, 1, 0, 0, [], []), (0, 2, 0, 0, [], []), (43, 95, 2, 1, [(71, 0)], []), (19, 0, 57, 0, [], []), (0, 0, 2, 0, [], []), (24, 2, 9, 50, [], []), (1, 0, 0, 36, [], []), (18, 3, 57, 0, [], []), (0, 0, 2, 0, [], []), (26, 2, 3, 16, [], []), (0, 0, 2, 0, [], []), (24, 2, 9, 50, [], []), (0, 1, 0, 0, [], []), (36, 0, 0, 0, [], []), (0, 0, 2, 0, [], []), (26, 2, 4, 20, [], []), (0, 0, 2, 0, [], []), (24, 2, 9, 50, [], []), (0, 2, 0, 0, [], []), (36, 0, 0, 0, [], []), (0, 0, 2, 0, [], []), (26, 2, 5, 23, [], []), (0, 0, 2, 0, [], []), (24, 2, 9, 50, [], []), (1, 0, 0, -1, [], []), (36, 0, 0, 0, [], []), (0, 0, 2, 0, [], []), (26, 2, 6, 26, [], []), (0, 0, 2, 0, [], []), (24, 2, 9, 50, [], []), (1, 0, 0, -1, [], []), (36, 0, 0, 0, [], []), (0, 0, 2, 0, [], []), (52, 0, 0, 0, [], []), (24, 2, 9, 50, [], []), (1, 0, 0, 1, [], []), (6, 0, 0, 0, [], []), (27, 2, 9, 50, [], []), (5, 2, 0, 1, [], []), (22, 0, 12, 0, [], []), (5, 1, 0, 1, [], []), (22, 0, 5, 0, [], []), (51, 0, 0, 0, [], [])]
def k_HelperCount_joinOneMore : List ja_I0 := [(1, 0, 0, 0, [], []), (3, 2, 0, 0, [], []), (0, 2, 0, 0, [], [true, true, true, false]), (0, 0, 2, 0, [], []), (24, 2, 9, 50, [], []), (18, 3, 13, 0, [], []), (0, 0, 2, 0, [], []), (26, 2, 7, 29, [], []), (0, 2, 0, 0, [], []), (1, 0, 0, -1, [], []), (36, 0, 0, 0, [], []), (5, 2, 0, 1, [], []), (22, 0, 2, 0, [], []), (0, 0, 2, 0, [], []), (26, 2, 8, 32, [], []), (1, 0, 0, 0, [], []), (0, 1, 0, 0, [], []), (36, 0, 0, 0, [], []), (0, 0, 2, 0, [], []), (1, 0, 0, 1, [], []), (27, 2, 10, 76, [], []), (1, 0, 0, 0, [], []), (3, 2, 0, 0, [], []), (0, 2, 0, 0, [], [true, false, true, false]), (0, 0, 2, 0, [], []), (24, 2, 10, 76, [], []), (18, 3, 47, 0, [], []), (0, 2, 0, 0, [], []), (1, 0, 0, 36, [], []), (18, 3, 47, 0, [], []), (0, 0, 2, 0, [], []), (0, 0, 2, 0, [], []), (26, 2, 8, 32, [], []), (0, 2, 0, 0, [], []), (32, 0, 0, 0, [], []), (43, 179, 1, 1, [(79, 0)], []), (3, 3, 0, 0, [], []), (0, 3, 0, 0, [], []), (1, 0, 0, -1, [], []), (18, 0, 45, 0, [], []), (0, 0, 2, 0, [], []), (0, 3, 0, 0, [], []), (43, 181, 1, 0, [(83, 0)], []), (1, 0, 0, 1, [], []), (48, 0, 0, 0, [], []), (5, 2, 0, 1, [], []), (22, 0, 23, 0, [], []), (1, 0, 0, 0, [], []), (48, 0, 0, 0, [], [])]
def k_HelperCount_lookFrom : List ja_I0 := [(1, 0, 0, 0, [], []), (3, 2, 0, 0, [], []), (0, 2, 0, 0, [], [true, true, true]), (0, 0, 2, 0, [], []), (24, 2, 9, 50, [], []), (18, 3, 51, 0, [], []), (0, 0, 2, 0, [], []), (26, 2, 7, 29, [], []), (0, 2, 0, 0, [], []), (32, 0, 0, 0, [], []), (1, 0, 0, -1, [], []), (18, 1, 49, 0, [], []), (0, 0, 2, 0, [], []), (0, 1, 0, 0, [], []), (0, 2, 0, 0, [], []), (43, 180, 2, 1, [(86, 0)], []), (19, 0, 49, 0, [], []), (0, 0, 2, 0, [], []), (26, 2, 7, 29, [], []), (0, 2, 0, 0, [], []), (0, 1, 0, 0, [], []), (36, 0, 0, 0, [], []), (0, 0, 2, 0, [], []), (26, 2, 6, 26, [], []), (0, 2, 0, 0, [], []), (32, 0, 0, 0, [], []), (1, 0, 0, -1, [], []), (18, 1, 30, 0, [], []), (0, 2, 0, 0, [], []), (47, 0, 0, 0, [], []), (0, 0, 2, 0, [], []), (24, 2, 10, 76, [], []), (1, 0, 0, 36, [], []), (18, 3, 49, 0, [], []), (0, 0, 2, 0, [], []), (26, 2, 8, 32, [], []), (0, 0, 2, 0, [], []), (24, 2, 10, 76, [], []), (0, 0, 2, 0, [], []), (26, 2, 6, 26, [], []), (0, 2, 0, 0, [], []), (32, 0, 0, 0, [], []), (36, 0, 0, 0, [], []), (0, 0, 2, 0, [], []), (52, 0, 0, 0, [], []), (24, 2, 10, 76, [], []), (1, 0, 0, 1, [], []), (6, 0, 0, 0, [], []), (27, 2, 10, 76, [], []), (5, 2, 0, 1, [], []), (22, 0, 2, 0, [], []), (1, 0, 0, -1, [], []), (47, 0, 0, 0, [], [])]
def k_HelperCount_canJoin : List ja_I0 := [(0, 0, 2, 0, [], []), (26, 2, 3, 16, [], []), (0, 2, 0, 0, [], []), (32, 0, 0, 0, [], []), (0, 0, 2, 0, [], []), (26, 2, 3, 16, [], []), (0, 1, 0, 0, [], []), (32, 0, 0, 0, [], []), (6, 1, 0, 0, [], []), (3, 3, 0, 0, [], []), (0, 3, 0, 0, [], []), (19, 5, 32, 0, [], []), (0, 0, 2, 0, [], []), (26, 2, 2, 11, [], []), (0, 3, 0, 0, [], []), (35, 0, 0, 0, [], []), (0, 0, 2, 0, [], []), (26, 2, 4, 20, [], []), (0, 1, 0, 0, [], []), (32, 0, 0, 0, [], []), (32, 0, 0, 0, [], []), (0, 0, 2, 0, [], []), (26, 2, 4, 20, [], []), (0, 2, 0, 0, [], []), (32, 0, 0, 0, [], []), (6, 7, 0, 0, [], []), (1, 0, 0, 1, [], []), (6, 3, 0, 0, [], []), (1, 0, 0, 1, [], []), (18, 1, 32, 0, [], []), (1, 0, 0, 1, [], []), (22, 0, 33, 0, [], []), (1, 0, 0, 0, [], []), (48, 0, 0, 0, [], [])]
def k_HelperCount_giveWay : List ja_I0 := [(0, 1, 0, 0, [], []), (3, 2, 0, 0, [], []), (1, 0, 0, 0, [], []), (3, 3, 0, 0, [], []), (0, 3, 0, 0, [], [true, false, true, true, false, false]), (0, 0, 2, 0, [], []), (24, 2, 9, 50, [], []), (18, 3, 35, 0, [], []), (0, 2, 0, 0, [], []), (1, 0, 0, -1, [], []), (18, 0, 35, 0, [], []), (0, 0, 2, 0, [], []), (26, 2, 7, 29, [], []), (0, 2, 0, 0, [], []), (32, 0, 0, 0, [], []), (3, 4, 0, 0, [], []), (0, 0, 2, 0, [], []), (26, 2, 5, 23, [], []), (0, 4, 0, 0, [], []), (32, 0, 0, 0, [], []), (3, 5, 0, 0, [], []), (0, 0, 2, 0, [], []), (26, 2, 5, 23, [], []), (0, 4, 0, 0, [], []), (0, 2, 0, 0, [], []), (36, 0, 0, 0, [], []), (0, 0, 2, 0, [], []), (26, 2, 6, 26, [], []), (0, 2, 0, 0, [], []), (0, 4, 0, 0, [], []), (36, 0, 0, 0, [], []), (0, 5, 0, 0, [], []), (3, 2, 0, 0, [], []), (5, 3, 0, 1, [], []), (22, 0, 4, 0, [], []), (51, 0, 0, 0, [], [])]
def k_X_pieces : List ja_I0 := [(0, 1, 0, 0, [], []), (1, 0, 0, 1, [], []), (18, 2, 14, 0, [], []), (0, 1, 0, 0, [], []), (1, 0, 0, 10, [], []), (18, 4, 14, 0, [], []), (0, 2, 0, 0, [], []), (1, 0, 0, 1, [], []), (18, 2, 14, 0, [], []), (0, 2, 0, 0, [], []), (0, 1, 0, 0, [], []), (18, 4, 14, 0, [], []), (0, 3, 0, 0, [], []), (19, 3, 16, 0, [], []), (1, 0, 0, -1, [], []), (47, 0, 0, 0, [], []), (0, 3, 0, 0, [], []), (19, 1, 24, 0, [], []), (0, 1, 0, 0, [], []), (0, 2, 0, 0, [], []), (1, 0, 0, 1, [], []), (6, 1, 0, 0, [], []), (44, 183, 2, 1, [(289, 0)], []), (47, 0, 0, 0, [], []), (0, 3, 0, 0, [], []), (1, 0, 0, 1, [], []), (18, 1, 35, 0, [], []), (0, 1, 0, 0, [], []), (1, 0, 0, 1, [], []), (6, 1, 0, 0, [], []), (0, 2, 0, 0, [], []), (1, 0, 0, 1, [], []), (6, 1, 0, 0, [], []), (44, 183, 2, 1, [(289, 0)], []), (47, 0, 0, 0, [], []), (0, 1, 0, 0, [], []), (0, 2, 0, 0, [], []), (1, 0, 0, 1, [], []), (6, 1, 0, 0, [], []), (0, 3, 0, 0, [], []), (1, 0, 0, 2, [], []), (6, 1, 0, 0, [], []), (44, 184, 3, 1, [(292, 0)], []), (3, 4, 0, 0, [], []), (0, 4, 0, 0, [], []), (1, 0, 0, -1, [], []), (18, 1, 49, 0, [], []), (1, 0, 0, -1, [], []), (22, 0, 58, 0, [], []), (1, 0, 0, 1, [], []), (0, 1, 0, 0, [], []), (6, 6, 0, 0, [], []), (1, 0, 0, 1, [], []), (6, 1, 0, 0, [], []), (0, 4, 0, 0, [], []), (1, 0, 0, -1, [], []), (6, 5, 0, 0, [], []), (6, 3, 0, 0, [], []), (47, 0, 0, 0, [], [])]
def k_X_howManySets : List ja_I0 := [(1, 0, 0, 0, [], []), (3, 2, 0, 0, [], []), (1, 0, 0, 0, [], []), (3, 3, 0, 0, [], []), (0, 3, 0, 0, [], [true, true, true, true]), (1, 0, 0, 1, [], []), (0, 0, 0, 0, [], []), (6, 6, 0, 0, [], []), (18, 3, 16, 0, [], []), (0, 3, 0, 0, [], []), (44, 96, 1, 1, [(295, 0)], []), (0, 1, 0, 0, [], []), (18, 1, 14, 0, [], []), (5, 2, 0, 1, [], []), (5, 3, 0, 1, [], []), (22, 0, 4, 0, [], []), (0, 2, 0, 0, [], []), (47, 0, 0, 0, [], [])]
def k_X_setByNumber : List ja_I0 := [(1, 0, 0, 0, [], []), (3, 3, 0, 0, [], []), (1, 0, 0, 0, [], []), (3, 4, 0, 0, [], []), (0, 4, 0, 0, [], [true, true, true, true, true]), (1, 0, 0, 1, [], []), (0, 0, 0, 0, [], []), (6, 6, 0, 0, [], []), (18, 3, 21, 0, [], []), (0, 4, 0, 0, [], []), (44, 96, 1, 1, [(295, 0)], []), (0, 1, 0, 0, [], []), (18, 1, 19, 0, [], []), (0, 3, 0, 0, [], []), (0, 2, 0, 0, [], []), (18, 1, 18, 0, [], []), (0, 4, 0, 0, [], []), (47, 0, 0, 0, [], []), (5, 3, 0, 1, [], []), (5, 4, 0, 1, [], []), (22, 0, 4, 0, [], []), (1, 0, 0, -1, [], []), (47, 0, 0, 0, [], [])]
def k_X_drawn : List ja_I0 := [(0, 0, 2, 0, [], []), (26, 11, 3, 35, [], []), (43, 90, 0, 1, [(201, 0)], []), (19, 1, 6, 0, [], []), (1, 0, 0, -1, [], []), (47, 0, 0, 0, [], []), (0, 0, 2, 0, [], []), (26, 11, 6, 60, [], []), (43, 75, 0, 0, [(175, 0)], []), (0, 0, 2, 0, [], []), (26, 11, 5, 51, [], []), (0, 1, 1, 0, [], []), (43, 186, 1, 0, [(300, 0)], []), (0, 0, 2, 0, [], []), (26, 11, 6, 60, [], []), (43, 78, 0, 1, [(182, 0)], []), (47, 0, 0, 0, [], [])]
def k_Table_drawOrders : List ja_I0 := [(0, 0, 2, 0, [], []), (0, 1, 1, 0, [], []), (29, 7, 3, 80, [], []), (1, 0, 0, 0, [], []), (3, 3, 0, 0, [], []), (0, 3, 0, 0, [], [true, false, false, true]), (0, 0, 2, 0, [], []), (26, 7, 0, 20, [], []), (43, 59, 0, 1, [(30, 0)], []), (18, 3, 18, 0, [], []), (0, 0, 2, 0, [], []), (0, 0, 2, 0, [], []), (26, 7, 1, 11, [], []), (0, 3, 0, 0, [], []), (35, 0, 0, 0, [], []), (43, 187, 1, 0, [(84, 0)], []), (5, 3, 0, 1, [], []), (22, 0, 5, 0, [], []), (51, 0, 0, 0, [], [])]
def k_Table_drawOrder : List ja_I0 := [(0, 0, 2, 0, [], []), (26, 7, 0, 20, [], []), (43, 58, 0, 1, [(24, 0)], []), (0, 1, 2, 0, [], []), (39, 0, 0, 0, [], []), (58, 0, 0, 88, [], []), (3, 2, 0, 0, [], []), (1, 0, 0, 0, [], []), (3, 3, 0, 0, [], []), (0, 3, 0, 0, [], [true, true, true, true, false, false]), (0, 2, 0, 0, [], []), (18, 3, 18, 0, [], []), (0, 1, 2, 0, [], []), (0, 3, 0, 0, [], []), (0, 3, 0, 0, [], []), (36, 0, 0, 0, [], []), (5, 3, 0, 1, [], []), (22, 0, 9, 0, [], []), (0, 2, 0, 0, [], []), (1, 0, 0, 1, [], []), (6, 1, 0, 0, [], []), (3, 3, 0, 0, [], []), (0, 3, 0, 0, [], [true, true, false, true, false, false]), (1, 0, 0, 1, [], []), (18, 2, 47, 0, [], []), (0, 0, 2, 0, [], []), (0, 3, 0, 0, [], []), (1, 0, 0, 1, [], []), (6, 0, 0, 0, [], []), (43, 188, 1, 1, [(93, 0)], []), (3, 4, 0, 0, [], []), (0, 1, 2, 0, [], []), (0, 3, 0, 0, [], []), (32, 0, 0, 0, [], []), (3, 5, 0, 0, [], []), (0, 1, 2, 0, [], []), (0, 3, 0, 0, [], []), (0, 1, 2, 0, [], []), (0, 4, 0, 0, [], []), (32, 0, 0, 0, [], []), (36, 0, 0, 0, [], []), (0, 1, 2, 0, [], []), (0, 4, 0, 0, [], []), (0, 5, 0, 0, [], []), (36, 0, 0, 0, [], []), (5, 3, 0, -1, [], []), (22, 0, 22, 0, [], []), (51, 0, 0, 0, [], [])]
def k_Table_nextDraw : List ja_I0 := [(0, 0, 2, 0, [], []), (0, 0, 2, 0, [], []), (25, 7, 3, 80, [], []), (2, 96, 0, 6364136223846793005, [], []), (10, 2, 0, 0, [], []), (2, 98, 0, 1442695040888963407, [], []), (10, 0, 0, 0, [], []), (29, 7, 3, 80, [], []), (0, 1, 0, 0, [], []), (19, 4, 12, 0, [], []), (1, 0, 0, 0, [], []), (22, 0, 20, 0, [], []), (0, 0, 2, 0, [], []), (25, 7, 3, 80, [], []), (1, 0, 0, 33, [], []), (14, 0, 0, 0, [], []), (0, 1, 0, 0, [], []), (15, 0, 0, 0, [], []), (12, 0, 0, 0, [], []), (16, 0, 0, 0, [], []), (47, 0, 0, 0, [], [])]
def k_X_image : List ja_I0 := [(0, 0, 2, 0, [], []), (26, 11, 3, 35, [], []), (43, 90, 0, 1, [(201, 0)], []), (19, 1, 6, 0, [], []), (1, 0, 0, -1, [], []), (47, 0, 0, 0, [], []), (0, 0, 2, 0, [], []), (26, 11, 6, 60, [], []), (43, 190, 0, 0, [(304, 0)], []), (0, 0, 2, 0, [], []), (26, 11, 6, 60, [], []), (43, 78, 0, 1, [(182, 0)], []), (47, 0, 0, 0, [], [])]
def k_Past_takeImage : List ja_I0 := [(0, 0, 2, 0, [], []), (1, 0, 0, 1, [], []), (28, 6, 7, 35, [], []), (0, 0, 2, 0, [], []), (0, 0, 2, 0, [], []), (26, 6, 5, 16, [], []), (43, 76, 1, 0, [(58, 0)], []), (1, 0, 0, 0, [], []), (3, 1, 0, 0, [], []), (0, 1, 0, 0, [], [true, true]), (0, 0, 2, 0, [], []), (26, 6, 0, 23, [], []), (43, 59, 0, 1, [(39, 0)], []), (18, 3, 24, 0, [], []), (0, 0, 2, 0, [], []), (26, 6, 6, 20, [], []), (0, 1, 0, 0, [], []), (0, 0, 2, 0, [], []), (26, 6, 1, 27, [], []), (0, 1, 0, 0, [], []), (43, 72, 1, 1, [(71, 0)], []), (36, 0, 0, 0, [], []), (5, 1, 0, 1, [], []), (22, 0, 9, 0, [], []), (51, 0, 0, 0, [], [])]
def k_X_back : List ja_I0 := [(0, 0, 2, 0, [], []), (26, 11, 6, 60, [], []), (43, 192, 0, 1, [(307, 0)], []), (19, 0, 8, 0, [], []), (0, 0, 2, 0, [], []), (26, 11, 6, 60, [], []), (43, 193, 0, 1, [(310, 0)], []), (22, 0, 9, 0, [], []), (1, 0, 0, -1, [], []), (47, 0, 0, 0, [], [])]
def k_Past_hasImage : List ja_I0 := [(0, 0, 2, 0, [], []), (24, 6, 7, 35, [], []), (48, 0, 0, 0, [], [])]
def k_Past_goBack : List ja_I0 := [(0, 0, 2, 0, [], []), (0, 0, 2, 0, [], []), (26, 6, 5, 16, [], []), (43, 85, 1, 0, [(68, 0)], []), (1, 0, 0, 0, [], []), (3, 1, 0, 0, [], []), (0, 1, 0, 0, [], [true, true]), (0, 0, 2, 0, [], []), (26, 6, 0, 23, [], []), (43, 59, 0, 1, [(39, 0)], []), (18, 3, 21, 0, [], []), (0, 0, 2, 0, [], []), (26, 6, 1, 27, [], []), (0, 1, 0, 0, [], []), (0, 0, 2, 0, [], []), (26, 6, 6, 20, [], []), (0, 1, 0, 0, [], []), (32, 0, 0, 0, [], []), (43, 80, 2, 0, [(74, 0)], []), (5, 1, 0, 1, [], []), (22, 0, 6, 0, [], []), (0, 0, 2, 0, [], []), (1, 0, 0, 0, [], []), (27, 6, 4, 31, [], []), (0, 0, 2, 0, [], []), (24, 6, 4, 31, [], []), (47, 0, 0, 0, [], [])]
def k_X_again : List ja_I0 := [(0, 0, 2, 0, [], []), (26, 11, 6, 60, [], []), (43, 192, 0, 1, [(307, 0)], []), (19, 0, 8, 0, [], []), (0, 0, 2, 0, [], []), (26, 11, 6, 60, [], []), (43, 195, 0, 1, [(313, 0)], []), (22, 0, 9, 0, [], []), (1, 0, 0, -1, [], []), (47, 0, 0, 0, [], [])]
def k_Past_likeImage : List ja_I0 := [(1, 0, 0, 0, [], []), (3, 1, 0, 0, [], []), (1, 0, 0, 0, [], []), (3, 2, 0, 0, [], []), (0, 2, 0, 0, [], [true, true, true, false, false]), (0, 0, 2, 0, [], []), (26, 6, 0, 23, [], []), (43, 59, 0, 1, [(39, 0)], []), (18, 3, 40, 0, [], []), (0, 0, 2, 0, [], []), (26, 6, 5, 16, [], []), (0, 2, 0, 0, [], []), (32, 0, 0, 0, [], []), (3, 3, 0, 0, [], []), (0, 0, 2, 0, [], []), (26, 6, 0, 23, [], []), (43, 58, 0, 1, [(77, 0)], []), (1, 0, 0, 1, [], []), (6, 1, 0, 0, [], []), (3, 4, 0, 0, [], []), (0, 4, 0, 0, [], [true, true, true, true, true]), (19, 2, 38, 0, [], []), (0, 3, 0, 0, [], []), (1, 0, 0, 10, [], []), (8, 0, 0, 0, [], []), (0, 0, 2, 0, [], []), (26, 6, 1, 27, [], []), (0, 2, 0, 0, [], []), (0, 4, 0, 0, [], []), (43, 70, 2, 1, [(80, 0)], []), (18, 1, 32, 0, [], []), (5, 1, 0, 1, [], []), (0, 3, 0, 0, [], []), (1, 0, 0, 10, [], []), (7, 0, 0, 0, [], []), (3, 3, 0, 0, [], []), (5, 4, 0, -1, [], []), (22, 0, 20, 0, [], []), (5, 2, 0, 1, [], []), (22, 0, 4, 0, [], []), (0, 1, 0, 0, [], []), (47, 0, 0, 0, [], [])]
def k_X_count : List ja_I0 := [(0, 1, 0, 0, [], []), (23, 0, 38, 0, [(0, 2), (1, 6), (2, 10), (3, 14), (4, 18), (5, 22), (6, 26), (7, 30), (8, 34)], []), (0, 0, 2, 0, [], []), (26, 11, 3, 35, [], []), (43, 58, 0, 1, [(316, 0)], []), (47, 0, 0, 0, [], []), (0, 0, 2, 0, [], []), (26, 11, 3, 35, [], []), (43, 59, 0, 1, [(131, 0)], []), (47, 0, 0, 0, [], []), (0, 0, 2, 0, [], []), (26, 11, 4, 42, [], []), (43, 197, 0, 1, [(319, 0)], []), (47, 0, 0, 0, [], []), (0, 0, 2, 0, [], []), (26, 11, 0, 10, [], []), (43, 16, 0, 1, [(106, 0)], []), (47, 0, 0, 0, [], []), (0, 0, 2, 0, [], []), (26, 11, 3, 35, [], []), (43, 92, 0, 1, [(320, 0)], []), (47, 0, 0, 0, [], []), (0, 0, 2, 0, [], []), (26, 11, 3, 35, [], []), (43, 120, 0, 1, [(323, 0)], []), (47, 0, 0, 0, [], []), (0, 0, 2, 0, [], []), (26, 11, 4, 42, [], []), (43, 198, 0, 1, [(326, 0)], []), (47, 0, 0, 0, [], []), (0, 0, 2, 0, [], []), (26, 11, 9, 83, [], []), (43, 199, 0, 1, [(329, 0)], []), (47, 0, 0, 0, [], []), (0, 0, 2, 0, [], []), (26, 11, 6, 60, [], []), (43, 78, 0, 1, [(182, 0)], []), (47, 0, 0, 0, [], []), (1, 232, 0, -1000000, [], []), (47, 0, 0, 0, [], [])]
def k_Worths_size : List ja_I0 := [(0, 0, 2, 0, [], []), (24, 10, 4, 32, [], []), (47, 0, 0, 0, [], [])]
def k_Worths_holding : List ja_I0 := [(0, 0, 2, 0, [], []), (24, 10, 5, 28, [], []), (47, 0, 0, 0, [], [])]
def k_Finds_size : List ja_I0 := [(0, 0, 2, 0, [], []), (24, 1, 3, 42, [], []), (47, 0, 0, 0, [], [])]
def k_R_init : List ja_I0 := [(0, 0, 2, 0, [], []), (46, 0, 0, 3, [], []), (0, 0, 2, 0, [], []), (1, 0, 0, 160, [], []), (41, 100, 0, 0, [], []), (30, 12, 1, 9, [], []), (0, 0, 2, 0, [], []), (1, 0, 0, 1700, [], []), (41, 100, 0, 0, [], []), (30, 12, 6, 13, [], []), (0, 0, 2, 0, [], []), (1, 0, 0, 1700, [], []), (41, 100, 0, 0, [], []), (30, 12, 7, 16, [], []), (0, 0, 2, 0, [], []), (1, 0, 0, 5, [], []), (41, 100, 0, 0, [], []), (30, 12, 8, 19, [], []), (0, 0, 2, 0, [], []), (1, 0, 0, 5, [], []), (41, 100, 0, 0, [], []), (30, 12, 9, 22, [], []), (0, 0, 2, 0, [], []), (1, 0, 0, 450, [], []), (41, 100, 0, 0, [], []), (30, 12, 10, 25, [], []), (0, 0, 2, 0, [], []), (1, 0, 0, 450, [], []), (41, 100, 0, 0, [], []), (30, 12, 11, 28, [], []), (0, 0, 2, 0, [], []), (1, 0, 0, 450, [], []), (41, 100, 0, 0, [], []), (30, 12, 12, 31, [], []), (0, 0, 2, 0, [], []), (1, 0, 0, 5, [], []), (41, 100, 0, 0, [], []), (30, 12, 15, 34, [], []), (0, 0, 2, 0, [], []), (1, 0, 0, 80, [], []), (41, 100, 0, 0, [], []), (30, 12, 16, 37, [], []), (0, 0, 2, 0, [], []), (1, 0, 0, 6, [], []), (41, 100, 0, 0, [], []), (30, 12, 17, 40, [], []), (0, 0, 2, 0, [], []), (1, 0, 0, 6, [], []), (41, 100, 0, 0, [], []), (30, 12, 18, 43, [], []), (0, 0, 2, 0, [], []), (1, 0, 0, 6, [], []), (41, 100, 0, 0, [], []), (30, 12, 19, 46, [], []), (0, 0, 2, 0, [], []), (1, 0, 0, 6, [], []), (41, 100, 0, 0, [], []), (30, 12, 24, 49, [], []), (0, 0, 2, 0, [], []), (1, 0, 0, 6, [], []), (41, 100, 0, 0, [], []), (30, 12, 25, 52, [], []), (0, 0, 2, 0, [], []), (1, 0, 0, 6, [], []), (41, 100, 0, 0, [], []), (30, 12, 26, 55, [], []), (0, 0, 2, 0, [], []), (1, 0, 0, 36, [], []), (41, 100, 0, 0, [], []), (30, 12, 31, 58, [], []), (0, 0, 2, 0, [], []), (1, 0, 0, 6, [], []), (41, 100, 0, 0, [], []), (30, 12, 32, 61, [], []), (0, 0, 2, 0, [], []), (1, 0, 0, -1, [], []), (27, 12, 33, 64, [], []), (0, 0, 2, 0, [], []), (1, 0, 0, 1440, [], []), (41, 100, 0, 0, [], []), (30, 12, 34, 68, [], []), (0, 0, 2, 0, [], []), (1, 0, 0, 6, [], []), (41, 100, 0, 0, [], []), (30, 12, 36, 71, [], []), (0, 0, 2, 0, [], []), (1, 0, 0, 720, [], []), (41, 100, 0, 0, [], []), (30, 12, 37, 74, [], []), (0, 0, 2, 0, [], []), (1, 0, 0, 20, [], []), (41, 100, 0, 0, [], []), (30, 12, 39, 77, [], []), (0, 0, 2, 0, [], []), (1, 0, 0, 20, [], []), (41, 100, 0, 0, [], []), (30, 12, 40, 80, [], []), (0, 0, 2, 0, [], []), (1, 0, 0, 20, [], []), (41, 100, 0, 0, [], []), (30, 12, 41, 83, [], []), (0, 0, 2, 0, [], []), (1, 0, 0, 20, [], []), (41, 101, 0, 0, [], []), (30, 12, 42, 86, [], []), (0, 0, 2, 0, [], []), (1, 0, 0, 36, [], []), (41, 100, 0, 0, [], []), (30, 12, 48, 90, [], []), (0, 0, 2, 0, [], []), (1, 0, 0, 36, [], []), (41, 100, 0, 0, [], []), (30, 12, 49, 93, [], []), (0, 0, 2, 0, [], []), (1, 0, 0, 36, [], []), (41, 100, 0, 0, [], []), (30, 12, 50, 96, [], []), (0, 0, 2, 0, [], []), (1, 0, 0, 1296, [], []), (41, 101, 0, 0, [], []), (30, 12, 52, 99, [], []), (0, 0, 2, 0, [], []), (1, 0, 0, 36, [], []), (41, 100, 0, 0, [], []), (30, 12, 53, 102, [], []), (0, 0, 2, 0, [], []), (1, 0, 0, 36, [], []), (41, 101, 0, 0, [], []), (30, 12, 54, 105, [], []), (0, 0, 2, 0, [], []), (1, 0, 0, 36, [], []), (41, 100, 0, 0, [], []), (30, 12, 55, 108, [], []), (0, 0, 2, 0, [], []), (1, 0, 0, 6, [], []), (41, 100, 0, 0, [], []), (30, 12, 56, 111, [], []), (51, 0, 0, 0, [], [])]
def k_R_thrown : List ja_I0 := [(0, 0, 2, 0, [], []), (24, 12, 0, 114, [], []), (47, 0, 0, 0, [], [])]
def k_R_feed : List ja_I0 := [(1, 0, 0, 0, [], []), (3, 6, 0, 0, [], []), (1, 0, 0, 0, [], []), (3, 7, 0, 0, [], []), (0, 7, 0, 0, [], [true, true, true, true, true, true, true, true, false]), (1, 0, 0, 20, [], []), (18, 3, 23, 0, [], []), (0, 6, 0, 0, [], []), (0, 1, 0, 0, [], []), (0, 2, 0, 0, [], []), (0, 3, 0, 0, [], []), (0, 4, 0, 0, [], []), (0, 5, 0, 0, [], []), (0, 7, 0, 0, [], []), (44, 203, 6, 1, [(117, 0)], []), (19, 0, 18, 0, [], []), (1, 0, 0, 1, [], []), (22, 0, 19, 0, [], []), (1, 0, 0, 0, [], []), (6, 0, 0, 0, [], []), (3, 6, 0, 0, [], []), (5, 7, 0, 1, [], []), (22, 0, 4, 0, [], []), (0, 0, 2, 0, [], []), (24, 12, 2, 121, [], []), (0, 6, 0, 0, [], []), (6, 0, 0, 0, [], []), (1, 0, 0, 160, [], []), (18, 5, 31, 0, [], []), (1, 0, 0, -1, [], []), (47, 0, 0, 0, [], []), (1, 0, 0, 0, [], []), (3, 7, 0, 0, [], []), (0, 7, 0, 0, [], [true, true, true, true, true, true, false, true, false]), (1, 0, 0, 20, [], []), (18, 3, 60, 0, [], []), (0, 1, 0, 0, [], []), (0, 2, 0, 0, [], []), (0, 3, 0, 0, [], []), (0, 4, 0, 0, [], []), (0, 5, 0, 0, [], []), (0, 7, 0, 0, [], []), (44, 203, 6, 1, [(117, 0)], []), (3, 8, 0, 0, [], []), (0, 8, 0, 0, [], []), (19, 0, 58, 0, [], []), (0, 0, 2, 0, [], []), (26, 12, 1, 9, [], []), (0, 0, 2, 0, [], []), (24, 12, 2, 121, [], []), (0, 8, 0, 0, [], []), (36, 0, 0, 0, [], []), (0, 0, 2, 0, [], []), (52, 0, 0, 0, [], []), (24, 12, 2, 121, [], []), (1, 0, 0, 1, [], []), (6, 0, 0, 0, [], []), (27, 12, 2, 121, [], []), (5, 7, 0, 1, [], []), (22, 0, 33, 0, [], []), (0, 0, 2, 0, [], []), (24, 12, 2, 121, [], []), (47, 0, 0, 0, [], [])]
def k_R_byteOf : List ja_I0 := [(0, 5, 0, 0, [], []), (1, 0, 0, 4, [], []), (18, 3, 5, 0, [], []), (0, 0, 0, 0, [], []), (22, 0, 21, 0, [], []), (0, 5, 0, 0, [], []), (1, 0, 0, 8, [], []), (18, 3, 10, 0, [], []), (0, 1, 0, 0, [], []), (22, 0, 21, 0, [], []), (0, 5, 0, 0, [], []), (1, 0, 0, 12, [], []), (18, 3, 15, 0, [], []), (0, 2, 0, 0, [], []), (22, 0, 21, 0, [], []), (0, 5, 0, 0, [], []), (1, 0, 0, 16, [], []), (18, 3, 20, 0, [], []), (0, 3, 0, 0, [], []), (22, 0, 21, 0, [], []), (0, 4, 0, 0, [], []), (3, 6, 0, 0, [], []), (0, 6, 0, 0, [], []), (1, 0, 0, 24, [], []), (1, 0, 0, 8, [], []), (0, 5, 0, 0, [], []), (1, 0, 0, 4, [], []), (8, 0, 0, 0, [], []), (6, 2, 0, 0, [], []), (6, 1, 0, 0, [], []), (6, 7, 0, 0, [], []), (1, 0, 0, 255, [], []), (6, 3, 0, 0, [], []), (47, 0, 0, 0, [], [])]
def k_R_end : List ja_I0 := [(0, 1, 0, 0, [], []), (19, 2, 6, 0, [], []), (0, 1, 0, 0, [], []), (0, 0, 2, 0, [], []), (24, 12, 2, 121, [], []), (18, 5, 8, 0, [], []), (1, 0, 0, 0, [], []), (48, 0, 0, 0, [], []), (0, 0, 2, 0, [], []), (0, 1, 0, 0, [], []), (27, 12, 2, 121, [], []), (1, 0, 0, 1, [], []), (48, 0, 0, 0, [], [])]
def k_R_fault : List ja_I0 := [(0, 1, 0, 0, [], []), (19, 1, 5, 0, [], []), (0, 0, 2, 0, [], []), (43, 206, 0, 1, [(262, 0)], []), (22, 0, 13, 0, [], []), (0, 1, 0, 0, [], []), (1, 0, 0, 1, [], []), (18, 1, 12, 0, [], []), (0, 0, 2, 0, [], []), (1, 0, 0, 4, [], []), (43, 217, 1, 1, [(265, 0)], []), (22, 0, 13, 0, [], []), (1, 0, 0, -2, [], []), (47, 0, 0, 0, [], [])]
def k_R_readHunt : List ja_I0 := [(0, 0, 2, 0, [], []), (1, 0, 0, 0, [], []), (27, 12, 3, 124, [], []), (0, 0, 2, 0, [], []), (1, 0, 0, -1, [], []), (27, 12, 4, 131, [], []), (0, 0, 2, 0, [], []), (1, 0, 0, 0, [], []), (27, 12, 20, 233, [], []), (0, 0, 2, 0, [], []), (1, 0, 0, 0, [], []), (27, 12, 21, 244, [], []), (0, 0, 2, 0, [], []), (1, 0, 0, 1, [], []), (27, 12, 22, 247, [], []), (0, 0, 2, 0, [], []), (1, 0, 0, 5, [], []), (27, 12, 23, 250, [], []), (1, 0, 0, 0, [], []), (3, 1, 0, 0, [], []), (1, 0, 0, 1, [], []), (3, 2, 0, 0, [], []), (0, 2, 0, 0, [], [true, true, true, false]), (19, 0, 86, 0, [], []), (0, 0, 2, 0, [], []), (24, 12, 4, 131, [], []), (1, 0, 0, -1, [], []), (18, 1, 86, 0, [], []), (0, 0, 2, 0, [], []), (43, 207, 0, 1, [(143, 0)], []), (3, 3, 0, 0, [], []), (0, 3, 0, 0, [], []), (1, 0, 0, 112, [], []), (18, 1, 41, 0, [], []), (0, 0, 2, 0, [], []), (24, 12, 20, 233, [], []), (1, 0, 0, 6, [], []), (18, 3, 41, 0, [], []), (0, 0, 2, 0, [], []), (43, 209, 0, 0, [(253, 0)], []), (22, 0, 63, 0, [], []), (0, 3, 0, 0, [], [true, true, false, true]), (1, 0, 0, 98, [], []), (18, 1, 51, 0, [], []), (0, 0, 2, 0, [], []), (24, 12, 21, 244, [], []), (1, 0, 0, 6, [], []), (18, 3, 51, 0, [], []), (0, 0, 2, 0, [], []), (43, 215, 0, 0, [(256, 0)], []), (22, 0, 63, 0, [], []), (0, 3, 0, 0, [], [true, true, false, true]), (1, 0, 0, 108, [], []), (18, 1, 61, 0, [], []), (0, 1, 0, 0, [], []), (19, 1, 61, 0, [], []), (1, 0, 0, 1, [], []), (3, 1, 0, 0, [], []), (0, 0, 2, 0, [], []), (43, 216, 0, 0, [(259, 0)], []), (22, 0, 63, 0, [], []), (0, 0, 2, 0, [], [true, true, false, false]), (43, 213, 0, 0, [(140, 0)], []), (0, 0, 2, 0, [], [true, true, false, false]), (24, 12, 4, 131, [], []), (1, 0, 0, -1, [], []), (18, 1, 73, 0, [], []), (0, 0, 2, 0, [], []), (43, 207, 0, 1, [(143, 0)], []), (1, 0, 0, 59, [], []), (18, 1, 73, 0, [], []), (1, 0, 0, 1, [], []), (22, 0, 74, 0, [], []), (1, 0, 0, 0, [], [true, true, false, false]), (3, 2, 0, 0, [], []), (0, 0, 2, 0, [], []), (52, 0, 0, 0, [], []), (24, 12, 3, 124, [], []), (0, 2, 0, 0, [], []), (19, 0, 82, 0, [], []), (1, 0, 0, 1, [], []), (22, 0, 83, 0, [], []), (1, 0, 0, 0, [], []), (6, 0, 0, 0, [], []), (27, 12, 3, 124, [], []), (22, 0, 22, 0, [], []), (0, 0, 2, 0, [], [true, false, false, false]), (24, 12, 4, 131, [], []), (1, 0, 0, -1, [], []), (18, 1, 103, 0, [], []), (0, 0, 2, 0, [], []), (43, 207, 0, 1, [(143, 0)], []), (1, 0, 0, -1, [], []), (18, 1, 101, 0, [], []), (0, 0, 2, 0, [], []), (24, 12, 20, 233, [], []), (1, 0, 0, 2, [], []), (18, 2, 101, 0, [], []), (0, 0, 2, 0, [], []), (24, 12, 21, 244, [], []), (19, 1, 103, 0, [], []), (0, 0, 2, 0, [], [true, false, false, false]), (43, 213, 0, 0, [(140, 0)], []), (0, 0, 2, 0, [], [true, false, false, false]), (24, 12, 4, 131, [], []), (47, 0, 0, 0, [], [])]
def k_R_look : List ja_I0 := [(0, 0, 2, 0, [], [true]), (43, 208, 0, 1, [(127, 0)], []), (1, 0, 0, 32, [], []), (18, 1, 11, 0, [], []), (0, 0, 2, 0, [], []), (52, 0, 0, 0, [], []), (24, 12, 3, 124, [], []), (1, 0, 0, 1, [], []), (6, 0, 0, 0, [], []), (27, 12, 3, 124, [], []), (22, 0, 0, 0, [], []), (0, 0, 2, 0, [], []), (43, 208, 0, 1, [(127, 0)], []), (47, 0, 0, 0, [], [])]
def k_R_here : List ja_I0 := [(0, 0, 2, 0, [], []), (24, 12, 3, 124, [], []), (0, 0, 2, 0, [], []), (24, 12, 2, 121, [], []), (18, 3, 11, 0, [], []), (0, 0, 2, 0, [], []), (26, 12, 1, 9, [], []), (0, 0, 2, 0, [], []), (24, 12, 3, 124, [], []), (32, 0, 0, 0, [], []), (22, 0, 12, 0, [], []), (1, 0, 0, -1, [], []), (47, 0, 0, 0, [], [])]
def k_R_placeText : List ja_I0 := [(0, 0, 2, 0, [], []), (52, 0, 0, 0, [], []), (24, 12, 3, 124, [], []), (1, 0, 0, 1, [], []), (6, 0, 0, 0, [], []), (27, 12, 3, 124, [], []), (0, 0, 2, 0, [], []), (26, 12, 17, 40, [], []), (0, 0, 2, 0, [], []), (24, 12, 20, 233, [], []), (1, 0, 0, 0, [], []), (36, 0, 0, 0, [], []), (0, 0, 2, 0, [], []), (26, 12, 18, 43, [], []), (0, 0, 2, 0, [], []), (24, 12, 20, 233, [], []), (1, 0, 0, 0, [], []), (36, 0, 0, 0, [], []), (1, 0, 0, 0, [], []), (3, 1, 0, 0, [], []), (0, 0, 2, 0, [], []), (43, 207, 0, 1, [(143, 0)], []), (1, 0, 0, 120, [], []), (18, 1, 26, 0, [], []), (1, 0, 0, 0, [], []), (22, 0, 33, 0, [], []), (0, 0, 2, 0, [], []), (43, 207, 0, 1, [(143, 0)], []), (1, 0, 0, 121, [], []), (18, 1, 32, 0, [], []), (1, 0, 0, 1, [], []), (22, 0, 33, 0, [], []), (1, 0, 0, -1, [], []), (3, 2, 0, 0, [], []), (0, 0, 2, 0, [], [true, true, true, false]), (24, 12, 4, 131, [], []), (1, 0, 0, -1, [], []), (18, 1, 106, 0, [], []), (0, 2, 0, 0, [], []), (1, 0, 0, -1, [], []), (18, 0, 106, 0, [], []), (0, 1, 0, 0, [], []), (0, 2, 0, 0, [], []), (44, 210, 2, 1, [(236, 0)], []), (19, 1, 106, 0, [], []), (0, 1, 0, 0, [], []), (1, 0, 0, 1, [], []), (0, 2, 0, 0, [], []), (6, 6, 0, 0, [], []), (6, 4, 0, 0, [], []), (3, 1, 0, 0, [], []), (0, 0, 2, 0, [], []), (52, 0, 0, 0, [], []), (24, 12, 3, 124, [], []), (1, 0, 0, 1, [], []), (6, 0, 0, 0, [], []), (27, 12, 3, 124, [], []), (0, 0, 2, 0, [], []), (1, 0, 0, 0, [], []), (1, 0, 0, 20, [], []), (43, 211, 2, 1, [(240, 0)], []), (3, 3, 0, 0, [], []), (0, 0, 2, 0, [], []), (26, 12, 17, 40, [], []), (0, 0, 2, 0, [], []), (24, 12, 20, 233, [], []), (0, 2, 0, 0, [], []), (19, 1, 70, 0, [], []), (0, 3, 0, 0, [], []), (22, 0, 75, 0, [], []), (0, 0, 2, 0, [], []), (26, 12, 17, 40, [], []), (0, 0, 2, 0, [], []), (24, 12, 20, 233, [], []), (32, 0, 0, 0, [], []), (36, 0, 0, 0, [], []), (0, 0, 2, 0, [], []), (26, 12, 18, 43, [], []), (0, 0, 2, 0, [], []), (24, 12, 20, 233, [], []), (0, 2, 0, 0, [], []), (1, 0, 0, 1, [], []), (18, 1, 85, 0, [], []), (0, 3, 0, 0, [], []), (22, 0, 90, 0, [], []), (0, 0, 2, 0, [], []), (26, 12, 18, 43, [], []), (0, 0, 2, 0, [], []), (24, 12, 20, 233, [], []), (32, 0, 0, 0, [], []), (36, 0, 0, 0, [], []), (0, 0, 2, 0, [], []), (43, 207, 0, 1, [(143, 0)], []), (1, 0, 0, 120, [], []), (18, 1, 97, 0, [], []), (1, 0, 0, 0, [], []), (22, 0, 104, 0, [], []), (0, 0, 2, 0, [], []), (43, 207, 0, 1, [(143, 0)], []), (1, 0, 0, 121, [], []), (18, 1, 103, 0, [], []), (1, 0, 0, 1, [], []), (22, 0, 104, 0, [], []), (1, 0, 0, -1, [], []), (3, 2, 0, 0, [], []), (22, 0, 34, 0, [], []), (0, 0, 2, 0, [], []), (52, 0, 0, 0, [], []), (24, 12, 20, 233, [], []), (1, 0, 0, 1, [], []), (6, 0, 0, 0, [], []), (27, 12, 20, 233, [], []), (51, 0, 0, 0, [], [])]
def k_R_has : List ja_I0 := [(0, 0, 0, 0, [], []), (0, 1, 0, 0, [], []), (6, 7, 0, 0, [], []), (1, 0, 0, 1, [], []), (6, 3, 0, 0, [], []), (1, 0, 0, 1, [], []), (18, 1, 9, 0, [], []), (1, 0, 0, 1, [], []), (22, 0, 10, 0, [], []), (1, 0, 0, 0, [], []), (48, 0, 0, 0, [], [])]
def k_R_number : List ja_I0 := [(0, 0, 2, 0, [], []), (43, 207, 0, 1, [(143, 0)], []), (44, 212, 1, 1, [(146, 0)], []), (19, 1, 8, 0, [], []), (0, 0, 2, 0, [], []), (43, 213, 0, 0, [(140, 0)], []), (0, 1, 0, 0, [], []), (47, 0, 0, 0, [], []), (0, 0, 2, 0, [], []), (43, 208, 0, 1, [(127, 0)], []), (1, 0, 0, 48, [], []), (6, 1, 0, 0, [], []), (3, 3, 0, 0, [], []), (0, 0, 2, 0, [], []), (52, 0, 0, 0, [], []), (24, 12, 3, 124, [], []), (1, 0, 0, 1, [], []), (6, 0, 0, 0, [], []), (27, 12, 3, 124, [], []), (0, 0, 2, 0, [], []), (43, 208, 0, 1, [(127, 0)], []), (44, 212, 1, 1, [(146, 0)], []), (19, 0, 38, 0, [], []), (1, 0, 0, 10, [], []), (0, 3, 0, 0, [], []), (6, 2, 0, 0, [], []), (0, 0, 2, 0, [], []), (43, 208, 0, 1, [(127, 0)], []), (6, 0, 0, 0, [], []), (1, 0, 0, 48, [], []), (6, 1, 0, 0, [], []), (3, 3, 0, 0, [], []), (0, 0, 2, 0, [], []), (52, 0, 0, 0, [], []), (24, 12, 3, 124, [], []), (1, 0, 0, 1, [], []), (6, 0, 0, 0, [], []), (27, 12, 3, 124, [], []), (0, 0, 2, 0, [], []), (43, 208, 0, 1, [(127, 0)], []), (44, 212, 1, 1, [(146, 0)], []), (19, 0, 45, 0, [], []), (0, 0, 2, 0, [], []), (43, 213, 0, 0, [(140, 0)], []), (22, 0, 58, 0, [], []), (0, 3, 0, 0, [], []), (0, 1, 0, 0, [], []), (0, 2, 0, 0, [], []), (44, 214, 3, 1, [(229, 0)], []), (19, 1, 58, 0, [], []), (0, 0, 2, 0, [], []), (52, 0, 0, 0, [], []), (24, 12, 3, 124, [], []), (1, 0, 0, 1, [], []), (6, 1, 0, 0, [], []), (27, 12, 3, 124, [], []), (0, 0, 2, 0, [], []), (43, 213, 0, 0, [(140, 0)], []), (0, 3, 0, 0, [], []), (47, 0, 0, 0, [], [])]
def k_R_isDigit : List ja_I0 := [(0, 0, 0, 0, [], []), (1, 0, 0, 48, [], []), (18, 2, 8, 0, [], []), (0, 0, 0, 0, [], []), (1, 0, 0, 57, [], []), (18, 4, 8, 0, [], []), (1, 0, 0, 1, [], []), (22, 0, 9, 0, [], []), (1, 0, 0, 0, [], []), (48, 0, 0, 0, [], [])]
def k_R_bad : List ja_I0 := [(0, 0, 2, 0, [], []), (0, 0, 2, 0, [], []), (24, 12, 4, 131, [], []), (1, 0, 0, -1, [], []), (18, 1, 8, 0, [], []), (0, 0, 2, 0, [], []), (24, 12, 3, 124, [], []), (22, 0, 10, 0, [], []), (0, 0, 2, 0, [], []), (24, 12, 4, 131, [], []), (27, 12, 4, 131, [], []), (51, 0, 0, 0, [], [])]
def k_R_in : List ja_I0 := [(0, 0, 0, 0, [], []), (0, 1, 0, 0, [], []), (18, 2, 8, 0, [], []), (0, 0, 0, 0, [], []), (0, 2, 0, 0, [], []), (18, 4, 8, 0, [], []), (1, 0, 0, 1, [], []), (22, 0, 9, 0, [], []), (1, 0, 0, 0, [], []), (48, 0, 0, 0, [], [])]
def k_R_bandText : List ja_I0 := [(0, 0, 2, 0, [], []), (52, 0, 0, 0, [], []), (24, 12, 3, 124, [], []), (1, 0, 0, 1, [], []), (6, 0, 0, 0, [], []), (27, 12, 3, 124, [], []), (0, 0, 2, 0, [], []), (26, 12, 19, 46, [], []), (0, 0, 2, 0, [], []), (24, 12, 21, 244, [], []), (1, 0, 0, 1, [], []), (36, 0, 0, 0, [], []), (0, 0, 2, 0, [], []), (43, 207, 0, 1, [(143, 0)], []), (1, 0, 0, 115, [], []), (18, 1, 31, 0, [], []), (0, 0, 2, 0, [], []), (52, 0, 0, 0, [], []), (24, 12, 3, 124, [], []), (1, 0, 0, 1, [], []), (6, 0, 0, 0, [], []), (27, 12, 3, 124, [], []), (0, 0, 2, 0, [], []), (26, 12, 19, 46, [], []), (0, 0, 2, 0, [], []), (24, 12, 21, 244, [], []), (0, 0, 2, 0, [], []), (1, 0, 0, 1, [], []), (1, 0, 0, 5, [], []), (43, 211, 2, 1, [(240, 0)], []), (36, 0, 0, 0, [], []), (0, 0, 2, 0, [], []), (52, 0, 0, 0, [], []), (24, 12, 21, 244, [], []), (1, 0, 0, 1, [], []), (6, 0, 0, 0, [], []), (27, 12, 21, 244, [], []), (51, 0, 0, 0, [], [])]
def k_R_lawText : List ja_I0 := [(0, 0, 2, 0, [], []), (52, 0, 0, 0, [], []), (24, 12, 3, 124, [], []), (1, 0, 0, 1, [], []), (6, 0, 0, 0, [], []), (27, 12, 3, 124, [], []), (1, 0, 0, 0, [], []), (3, 1, 0, 0, [], []), (0, 0, 2, 0, [], []), (43, 207, 0, 1, [(143, 0)], []), (1, 0, 0, 102, [], []), (18, 1, 14, 0, [], []), (1, 0, 0, 0, [], []), (22, 0, 21, 0, [], []), (0, 0, 2, 0, [], []), (43, 207, 0, 1, [(143, 0)], []), (1, 0, 0, 107, [], []), (18, 1, 20, 0, [], []), (1, 0, 0, 1, [], []), (22, 0, 21, 0, [], []), (1, 0, 0, -1, [], []), (3, 2, 0, 0, [], []), (0, 0, 2, 0, [], [true, true, true, false]), (24, 12, 4, 131, [], []), (1, 0, 0, -1, [], []), (18, 1, 86, 0, [], []), (0, 2, 0, 0, [], []), (1, 0, 0, -1, [], []), (18, 0, 86, 0, [], []), (0, 1, 0, 0, [], []), (0, 2, 0, 0, [], []), (44, 210, 2, 1, [(236, 0)], []), (19, 1, 86, 0, [], []), (0, 1, 0, 0, [], []), (1, 0, 0, 1, [], []), (0, 2, 0, 0, [], []), (6, 6, 0, 0, [], []), (6, 4, 0, 0, [], []), (3, 1, 0, 0, [], []), (0, 0, 2, 0, [], []), (52, 0, 0, 0, [], []), (24, 12, 3, 124, [], []), (1, 0, 0, 1, [], []), (6, 0, 0, 0, [], []), (27, 12, 3, 124, [], []), (0, 0, 2, 0, [], []), (1, 0, 0, 0, [], []), (0, 2, 0, 0, [], []), (19, 1, 51, 0, [], []), (1, 0, 0, 9, [], []), (22, 0, 52, 0, [], []), (1, 0, 0, 30, [], []), (43, 211, 2, 1, [(240, 0)], []), (3, 3, 0, 0, [], []), (0, 0, 2, 0, [], []), (0, 2, 0, 0, [], []), (19, 1, 59, 0, [], []), (0, 3, 0, 0, [], []), (22, 0, 61, 0, [], []), (0, 0, 2, 0, [], []), (24, 12, 22, 247, [], []), (27, 12, 22, 247, [], []), (0, 0, 2, 0, [], []), (0, 2, 0, 0, [], []), (1, 0, 0, 1, [], []), (18, 1, 68, 0, [], []), (0, 3, 0, 0, [], []), (22, 0, 70, 0, [], []), (0, 0, 2, 0, [], []), (24, 12, 23, 250, [], []), (27, 12, 23, 250, [], []), (0, 0, 2, 0, [], []), (43, 207, 0, 1, [(143, 0)], []), (1, 0, 0, 102, [], []), (18, 1, 77, 0, [], []), (1, 0, 0, 0, [], []), (22, 0, 84, 0, [], []), (0, 0, 2, 0, [], []), (43, 207, 0, 1, [(143, 0)], []), (1, 0, 0, 107, [], []), (18, 1, 83, 0, [], []), (1, 0, 0, 1, [], []), (22, 0, 84, 0, [], []), (1, 0, 0, -1, [], []), (3, 2, 0, 0, [], []), (22, 0, 22, 0, [], []), (51, 0, 0, 0, [], [])]
def k_R_readLaw : List ja_I0 := [(0, 0, 2, 0, [], []), (0, 1, 0, 0, [], []), (43, 218, 1, 0, [(195, 0)], []), (0, 0, 2, 0, [], []), (43, 219, 0, 0, [(198, 0)], []), (0, 0, 2, 0, [], [true, false]), (24, 12, 4, 131, [], []), (1, 0, 0, -1, [], []), (18, 1, 22, 0, [], []), (0, 0, 2, 0, [], []), (43, 207, 0, 1, [(143, 0)], []), (1, 0, 0, 59, [], []), (18, 1, 22, 0, [], []), (0, 0, 2, 0, [], []), (52, 0, 0, 0, [], []), (24, 12, 3, 124, [], []), (1, 0, 0, 1, [], []), (6, 0, 0, 0, [], []), (27, 12, 3, 124, [], []), (0, 0, 2, 0, [], []), (43, 219, 0, 0, [(198, 0)], []), (22, 0, 5, 0, [], []), (0, 0, 2, 0, [], []), (43, 234, 0, 1, [(201, 0)], []), (47, 0, 0, 0, [], [])]
def k_R_open : List ja_I0 := [(0, 0, 2, 0, [], []), (0, 1, 0, 0, [], []), (27, 12, 14, 134, [], []), (0, 0, 2, 0, [], []), (1, 0, 0, 0, [], []), (27, 12, 3, 124, [], []), (0, 0, 2, 0, [], []), (1, 0, 0, -1, [], []), (27, 12, 4, 131, [], []), (0, 0, 2, 0, [], []), (1, 0, 0, 0, [], []), (27, 12, 5, 137, [], []), (0, 0, 2, 0, [], []), (26, 12, 8, 19, [], []), (0, 1, 0, 0, [], []), (1, 0, 0, 0, [], []), (36, 0, 0, 0, [], []), (0, 0, 2, 0, [], []), (26, 12, 9, 22, [], []), (0, 1, 0, 0, [], []), (1, 0, 0, 0, [], []), (36, 0, 0, 0, [], []), (51, 0, 0, 0, [], [])]
def k_R_clause : List ja_I0 := [(1, 0, 0, 90, [], []), (0, 0, 2, 0, [], []), (24, 12, 14, 134, [], []), (6, 2, 0, 0, [], []), (0, 0, 2, 0, [], []), (26, 12, 9, 22, [], []), (0, 0, 2, 0, [], []), (24, 12, 14, 134, [], []), (32, 0, 0, 0, [], []), (6, 0, 0, 0, [], []), (3, 1, 0, 0, [], []), (0, 0, 2, 0, [], []), (24, 12, 4, 131, [], []), (1, 0, 0, -1, [], []), (18, 1, 21, 0, [], []), (0, 0, 2, 0, [], []), (43, 207, 0, 1, [(143, 0)], []), (1, 0, 0, 121, [], []), (18, 0, 21, 0, [], []), (0, 0, 2, 0, [], []), (43, 213, 0, 0, [(140, 0)], []), (0, 0, 2, 0, [], [true, true, false]), (52, 0, 0, 0, [], []), (24, 12, 3, 124, [], []), (1, 0, 0, 1, [], []), (6, 0, 0, 0, [], []), (27, 12, 3, 124, [], []), (0, 0, 2, 0, [], []), (24, 12, 4, 131, [], []), (1, 0, 0, -1, [], []), (18, 1, 37, 0, [], []), (0, 0, 2, 0, [], []), (43, 207, 0, 1, [(143, 0)], []), (1, 0, 0, 58, [], []), (18, 0, 37, 0, [], []), (0, 0, 2, 0, [], []), (43, 213, 0, 0, [(140, 0)], []), (0, 0, 2, 0, [], [true, true, false]), (52, 0, 0, 0, [], []), (24, 12, 3, 124, [], []), (1, 0, 0, 1, [], []), (6, 0, 0, 0, [], []), (27, 12, 3, 124, [], []), (0, 0, 2, 0, [], []), (24, 12, 4, 131, [], []), (1, 0, 0, -1, [], []), (18, 0, 48, 0, [], []), (51, 0, 0, 0, [], []), (0, 0, 2, 0, [], []), (26, 12, 10, 25, [], []), (0, 1, 0, 0, [], []), (0, 0, 2, 0, [], []), (26, 12, 8, 19, [], []), (0, 0, 2, 0, [], []), (24, 12, 14, 134, [], []), (32, 0, 0, 0, [], []), (36, 0, 0, 0, [], []), (0, 0, 2, 0, [], []), (43, 207, 0, 1, [(143, 0)], []), (1, 0, 0, 33, [], []), (18, 0, 65, 0, [], []), (0, 0, 2, 0, [], []), (43, 207, 0, 1, [(143, 0)], []), (1, 0, 0, 40, [], []), (18, 1, 67, 0, [], []), (1, 0, 0, 1, [], [true, true, false]), (22, 0, 68, 0, [], []), (1, 0, 0, 0, [], []), (3, 2, 0, 0, [], []), (0, 2, 0, 0, [], []), (19, 0, 74, 0, [], []), (0, 0, 2, 0, [], []), (43, 220, 0, 0, [(183, 0)], []), (22, 0, 96, 0, [], []), (0, 0, 2, 0, [], []), (43, 225, 0, 0, [(164, 0)], []), (0, 0, 2, 0, [], []), (24, 12, 4, 131, [], []), (1, 0, 0, -1, [], []), (18, 1, 86, 0, [], []), (0, 0, 2, 0, [], []), (43, 207, 0, 1, [(143, 0)], []), (44, 231, 1, 1, [(177, 0)], []), (19, 0, 86, 0, [], []), (1, 0, 0, 1, [], []), (22, 0, 87, 0, [], []), (1, 0, 0, 0, [], [true, true, false]), (3, 2, 0, 0, [], []), (0, 2, 0, 0, [], []), (19, 0, 96, 0, [], []), (0, 0, 2, 0, [], []), (43, 230, 0, 0, [(186, 0)], []), (0, 0, 2, 0, [], []), (43, 232, 0, 0, [(189, 0)], []), (0, 0, 2, 0, [], []), (43, 233, 0, 0, [(192, 0)], []), (0, 0, 2, 0, [], [true, true, true]), (26, 12, 11, 28, [], []), (0, 1, 0, 0, [], []), (0, 0, 2, 0, [], []), (26, 12, 10, 25, [], []), (0, 1, 0, 0, [], []), (32, 0, 0, 0, [], []), (36, 0, 0, 0, [], []), (0, 2, 0, 0, [], []), (19, 0, 134, 0, [], []), (0, 0, 2, 0, [], []), (24, 12, 4, 131, [], []), (1, 0, 0, -1, [], []), (18, 1, 134, 0, [], []), (0, 0, 2, 0, [], []), (43, 207, 0, 1, [(143, 0)], []), (1, 0, 0, 63, [], []), (18, 0, 117, 0, [], []), (0, 0, 2, 0, [], []), (43, 213, 0, 0, [(140, 0)], []), (51, 0, 0, 0, [], []), (0, 0, 2, 0, [], []), (52, 0, 0, 0, [], []), (24, 12, 3, 124, [], []), (1, 0, 0, 1, [], []), (6, 0, 0, 0, [], []), (27, 12, 3, 124, [], []), (0, 0, 2, 0, [], []), (26, 12, 11, 28, [], []), (0, 1, 0, 0, [], []), (0, 0, 2, 0, [], []), (26, 12, 8, 19, [], []), (0, 0, 2, 0, [], []), (24, 12, 14, 134, [], []), (32, 0, 0, 0, [], []), (36, 0, 0, 0, [], []), (0, 0, 2, 0, [], []), (43, 225, 0, 0, [(164, 0)], []), (0, 0, 2, 0, [], [true, true, false]), (26, 12, 12, 31, [], []), (0, 1, 0, 0, [], []), (0, 0, 2, 0, [], []), (26, 12, 8, 19, [], []), (0, 0, 2, 0, [], []), (24, 12, 14, 134, [], []), (32, 0, 0, 0, [], []), (36, 0, 0, 0, [], []), (0, 0, 2, 0, [], []), (26, 12, 9, 22, [], []), (0, 0, 2, 0, [], []), (24, 12, 14, 134, [], []), (53, 0, 0, 0, [], []), (32, 0, 0, 0, [], []), (1, 0, 0, 1, [], []), (6, 0, 0, 0, [], []), (36, 0, 0, 0, [], []), (51, 0, 0, 0, [], [])]
def k_R_condition : List ja_I0 := [(0, 0, 2, 0, [], []), (43, 221, 0, 0, [(180, 0)], []), (0, 0, 2, 0, [], []), (43, 232, 0, 0, [(189, 0)], []), (0, 0, 2, 0, [], []), (43, 233, 0, 0, [(192, 0)], []), (51, 0, 0, 0, [], [])]
def k_R_unit : List ja_I0 := [(0, 0, 2, 0, [], []), (43, 207, 0, 1, [(143, 0)], []), (3, 1, 0, 0, [], []), (0, 1, 0, 0, [], []), (1, 0, 0, 33, [], []), (18, 1, 25, 0, [], []), (0, 0, 2, 0, [], []), (43, 222, 0, 0, [(161, 0)], []), (0, 0, 2, 0, [], []), (24, 12, 4, 131, [], []), (1, 0, 0, -1, [], []), (18, 1, 48, 0, [], []), (0, 0, 2, 0, [], []), (43, 221, 0, 0, [(180, 0)], []), (0, 0, 2, 0, [], []), (1, 0, 0, 9, [], []), (1, 0, 0, 0, [], []), (43, 223, 2, 0, [(153, 0)], []), (0, 0, 2, 0, [], []), (52, 0, 0, 0, [], []), (24, 12, 5, 137, [], []), (1, 0, 0, 1, [], []), (6, 1, 0, 0, [], []), (27, 12, 5, 137, [], []), (22, 0, 48, 0, [], []), (0, 1, 0, 0, [], []), (1, 0, 0, 40, [], []), (18, 1, 40, 0, [], []), (0, 0, 2, 0, [], []), (43, 222, 0, 0, [(161, 0)], []), (0, 0, 2, 0, [], []), (24, 12, 4, 131, [], []), (1, 0, 0, -1, [], []), (18, 1, 48, 0, [], []), (0, 0, 2, 0, [], []), (43, 220, 0, 0, [(183, 0)], []), (0, 0, 2, 0, [], []), (1, 0, 0, 41, [], []), (43, 224, 1, 0, [(167, 0)], []), (22, 0, 48, 0, [], []), (0, 0, 2, 0, [], []), (43, 225, 0, 0, [(164, 0)], []), (0, 0, 2, 0, [], []), (24, 12, 4, 131, [], []), (1, 0, 0, -1, [], []), (18, 1, 48, 0, [], []), (0, 0, 2, 0, [], []), (43, 230, 0, 0, [(186, 0)], []), (51, 0, 0, 0, [], [])]
def k_R_opens : List ja_I0 := [(0, 0, 2, 0, [], []), (24, 12, 5, 137, [], []), (1, 0, 0, 6, [], []), (18, 1, 6, 0, [], []), (0, 0, 2, 0, [], []), (43, 213, 0, 0, [(140, 0)], []), (0, 0, 2, 0, [], []), (52, 0, 0, 0, [], []), (24, 12, 5, 137, [], []), (1, 0, 0, 1, [], []), (6, 0, 0, 0, [], []), (27, 12, 5, 137, [], []), (0, 0, 2, 0, [], []), (52, 0, 0, 0, [], []), (24, 12, 3, 124, [], []), (1, 0, 0, 1, [], []), (6, 0, 0, 0, [], []), (27, 12, 3, 124, [], []), (51, 0, 0, 0, [], [])]
def k_R_put : List ja_I0 := [(0, 0, 2, 0, [], []), (26, 12, 6, 13, [], []), (1, 0, 0, 340, [], []), (0, 0, 2, 0, [], []), (24, 12, 14, 134, [], []), (6, 2, 0, 0, [], []), (0, 0, 2, 0, [], []), (26, 12, 8, 19, [], []), (0, 0, 2, 0, [], []), (24, 12, 14, 134, [], []), (32, 0, 0, 0, [], []), (6, 0, 0, 0, [], []), (0, 1, 0, 0, [], []), (36, 0, 0, 0, [], []), (0, 0, 2, 0, [], []), (26, 12, 7, 16, [], []), (1, 0, 0, 340, [], []), (0, 0, 2, 0, [], []), (24, 12, 14, 134, [], []), (6, 2, 0, 0, [], []), (0, 0, 2, 0, [], []), (26, 12, 8, 19, [], []), (0, 0, 2, 0, [], []), (24, 12, 14, 134, [], []), (32, 0, 0, 0, [], []), (6, 0, 0, 0, [], []), (0, 2, 0, 0, [], []), (36, 0, 0, 0, [], []), (0, 0, 2, 0, [], []), (26, 12, 8, 19, [], []), (0, 0, 2, 0, [], []), (24, 12, 14, 134, [], []), (53, 0, 0, 0, [], []), (32, 0, 0, 0, [], []), (1, 0, 0, 1, [], []), (6, 0, 0, 0, [], []), (36, 0, 0, 0, [], []), (51, 0, 0, 0, [], [])]
def k_R_closes : List ja_I0 := [(0, 0, 2, 0, [], []), (24, 12, 4, 131, [], []), (1, 0, 0, -1, [], []), (18, 1, 10, 0, [], []), (0, 0, 2, 0, [], []), (43, 207, 0, 1, [(143, 0)], []), (0, 1, 0, 0, [], []), (18, 0, 10, 0, [], []), (0, 0, 2, 0, [], []), (43, 213, 0, 0, [(140, 0)], []), (0, 0, 2, 0, [], []), (52, 0, 0, 0, [], []), (24, 12, 3, 124, [], []), (1, 0, 0, 1, [], []), (6, 0, 0, 0, [], []), (27, 12, 3, 124, [], []), (0, 0, 2, 0, [], []), (52, 0, 0, 0, [], []), (24, 12, 5, 137, [], []), (1, 0, 0, 1, [], []), (6, 1, 0, 0, [], []), (27, 12, 5, 137, [], []), (51, 0, 0, 0, [], [])]
def k_R_sum : List ja_I0 := [(0, 0, 2, 0, [], []), (43, 226, 0, 0, [(174, 0)], []), (0, 0, 2, 0, [], []), (24, 12, 4, 131, [], []), (1, 0, 0, -1, [], []), (18, 1, 9, 0, [], []), (0, 0, 2, 0, [], []), (43, 207, 0, 1, [(143, 0)], []), (22, 0, 10, 0, [], []), (1, 0, 0, -1, [], []), (3, 1, 0, 0, [], []), (0, 1, 0, 0, [], [true, true]), (1, 0, 0, 43, [], []), (18, 0, 17, 0, [], []), (0, 1, 0, 0, [], []), (1, 0, 0, 45, [], []), (18, 1, 44, 0, [], []), (0, 0, 2, 0, [], []), (52, 0, 0, 0, [], []), (24, 12, 3, 124, [], []), (1, 0, 0, 1, [], []), (6, 0, 0, 0, [], []), (27, 12, 3, 124, [], []), (0, 0, 2, 0, [], []), (43, 226, 0, 0, [(174, 0)], []), (0, 0, 2, 0, [], []), (0, 1, 0, 0, [], []), (1, 0, 0, 43, [], []), (18, 1, 31, 0, [], []), (1, 0, 0, 2, [], []), (22, 0, 32, 0, [], []), (1, 0, 0, 3, [], []), (1, 0, 0, 0, [], []), (43, 223, 2, 0, [(153, 0)], []), (0, 0, 2, 0, [], []), (24, 12, 4, 131, [], []), (1, 0, 0, -1, [], []), (18, 1, 41, 0, [], []), (0, 0, 2, 0, [], []), (43, 207, 0, 1, [(143, 0)], []), (22, 0, 42, 0, [], []), (1, 0, 0, -1, [], []), (3, 1, 0, 0, [], []), (22, 0, 11, 0, [], []), (51, 0, 0, 0, [], [])]
def k_R_term : List ja_I0 := [(0, 0, 2, 0, [], []), (43, 227, 0, 0, [(171, 0)], []), (0, 0, 2, 0, [], []), (24, 12, 4, 131, [], []), (1, 0, 0, -1, [], []), (18, 1, 9, 0, [], []), (0, 0, 2, 0, [], []), (43, 207, 0, 1, [(143, 0)], []), (22, 0, 10, 0, [], []), (1, 0, 0, -1, [], []), (3, 1, 0, 0, [], []), (0, 1, 0, 0, [], [true, true]), (1, 0, 0, 42, [], []), (18, 0, 17, 0, [], []), (0, 1, 0, 0, [], []), (1, 0, 0, 47, [], []), (18, 1, 44, 0, [], []), (0, 0, 2, 0, [], []), (52, 0, 0, 0, [], []), (24, 12, 3, 124, [], []), (1, 0, 0, 1, [], []), (6, 0, 0, 0, [], []), (27, 12, 3, 124, [], []), (0, 0, 2, 0, [], []), (43, 227, 0, 0, [(171, 0)], []), (0, 0, 2, 0, [], []), (0, 1, 0, 0, [], []), (1, 0, 0, 42, [], []), (18, 1, 31, 0, [], []), (1, 0, 0, 4, [], []), (22, 0, 32, 0, [], []), (1, 0, 0, 5, [], []), (1, 0, 0, 0, [], []), (43, 223, 2, 0, [(153, 0)], []), (0, 0, 2, 0, [], []), (24, 12, 4, 131, [], []), (1, 0, 0, -1, [], []), (18, 1, 41, 0, [], []), (0, 0, 2, 0, [], []), (43, 207, 0, 1, [(143, 0)], []), (22, 0, 42, 0, [], []), (1, 0, 0, -1, [], []), (3, 1, 0, 0, [], []), (22, 0, 11, 0, [], []), (51, 0, 0, 0, [], [])]
def k_R_atom : List ja_I0 := [(0, 0, 2, 0, [], []), (43, 207, 0, 1, [(143, 0)], []), (3, 1, 0, 0, [], []), (0, 1, 0, 0, [], []), (44, 212, 1, 1, [(146, 0)], []), (19, 0, 12, 0, [], []), (0, 0, 2, 0, [], []), (1, 0, 0, 0, [], []), (0, 0, 2, 0, [], []), (43, 228, 0, 1, [(150, 0)], []), (43, 223, 2, 0, [(153, 0)], []), (22, 0, 45, 0, [], []), (0, 1, 0, 0, [], []), (44, 229, 1, 1, [(157, 0)], []), (1, 0, 0, -1, [], []), (18, 0, 28, 0, [], []), (0, 0, 2, 0, [], []), (52, 0, 0, 0, [], []), (24, 12, 3, 124, [], []), (1, 0, 0, 1, [], []), (6, 0, 0, 0, [], []), (27, 12, 3, 124, [], []), (0, 0, 2, 0, [], []), (1, 0, 0, 1, [], []), (0, 1, 0, 0, [], []), (44, 229, 1, 1, [(157, 0)], []), (43, 223, 2, 0, [(153, 0)], []), (22, 0, 45, 0, [], []), (0, 1, 0, 0, [], []), (1, 0, 0, 91, [], []), (18, 1, 43, 0, [], []), (0, 0, 2, 0, [], []), (43, 222, 0, 0, [(161, 0)], []), (0, 0, 2, 0, [], []), (24, 12, 4, 131, [], []), (1, 0, 0, -1, [], []), (18, 1, 45, 0, [], []), (0, 0, 2, 0, [], []), (43, 225, 0, 0, [(164, 0)], []), (0, 0, 2, 0, [], []), (1, 0, 0, 93, [], []), (43, 224, 1, 0, [(167, 0)], []), (22, 0, 45, 0, [], []), (0, 0, 2, 0, [], []), (43, 213, 0, 0, [(140, 0)], []), (51, 0, 0, 0, [], [])]
def k_R_plainNumber : List ja_I0 := [(1, 0, 0, 0, [], []), (3, 1, 0, 0, [], []), (1, 0, 0, 0, [], []), (3, 2, 0, 0, [], []), (0, 2, 0, 0, [], [true, true, true]), (1, 0, 0, 4, [], []), (18, 3, 28, 0, [], []), (0, 0, 2, 0, [], []), (43, 208, 0, 1, [(127, 0)], []), (44, 212, 1, 1, [(146, 0)], []), (19, 0, 28, 0, [], []), (1, 0, 0, 10, [], []), (0, 1, 0, 0, [], []), (6, 2, 0, 0, [], []), (0, 0, 2, 0, [], []), (43, 208, 0, 1, [(127, 0)], []), (6, 0, 0, 0, [], []), (1, 0, 0, 48, [], []), (6, 1, 0, 0, [], []), (3, 1, 0, 0, [], []), (0, 0, 2, 0, [], []), (52, 0, 0, 0, [], []), (24, 12, 3, 124, [], []), (1, 0, 0, 1, [], []), (6, 0, 0, 0, [], []), (27, 12, 3, 124, [], []), (5, 2, 0, 1, [], []), (22, 0, 4, 0, [], []), (0, 0, 2, 0, [], []), (43, 208, 0, 1, [(127, 0)], []), (44, 212, 1, 1, [(146, 0)], []), (19, 0, 34, 0, [], []), (0, 0, 2, 0, [], []), (43, 213, 0, 0, [(140, 0)], []), (0, 1, 0, 0, [], []), (47, 0, 0, 0, [], [])]
def k_R_letterOf : List ja_I0 := [(0, 0, 0, 0, [], []), (1, 0, 0, 116, [], []), (18, 1, 5, 0, [], []), (1, 0, 0, 0, [], []), (22, 0, 26, 0, [], []), (0, 0, 0, 0, [], []), (1, 0, 0, 112, [], []), (18, 1, 10, 0, [], []), (1, 0, 0, 1, [], []), (22, 0, 26, 0, [], []), (0, 0, 0, 0, [], []), (1, 0, 0, 98, [], []), (18, 1, 15, 0, [], []), (1, 0, 0, 2, [], []), (22, 0, 26, 0, [], []), (0, 0, 0, 0, [], []), (1, 0, 0, 109, [], []), (18, 1, 20, 0, [], []), (1, 0, 0, 3, [], []), (22, 0, 26, 0, [], []), (0, 0, 0, 0, [], []), (1, 0, 0, 100, [], []), (18, 1, 25, 0, [], []), (1, 0, 0, 4, [], []), (22, 0, 26, 0, [], []), (1, 0, 0, -1, [], []), (47, 0, 0, 0, [], [])]
def k_R_compare : List ja_I0 := [(0, 0, 2, 0, [], []), (24, 12, 4, 131, [], []), (1, 0, 0, -1, [], []), (18, 1, 7, 0, [], []), (0, 0, 2, 0, [], []), (43, 207, 0, 1, [(143, 0)], []), (22, 0, 8, 0, [], []), (1, 0, 0, -1, [], []), (3, 1, 0, 0, [], []), (0, 1, 0, 0, [], []), (44, 231, 1, 1, [(177, 0)], []), (19, 1, 15, 0, [], []), (0, 0, 2, 0, [], []), (43, 213, 0, 0, [(140, 0)], []), (51, 0, 0, 0, [], []), (0, 0, 2, 0, [], []), (52, 0, 0, 0, [], []), (24, 12, 3, 124, [], []), (1, 0, 0, 1, [], []), (6, 0, 0, 0, [], []), (27, 12, 3, 124, [], []), (0, 0, 2, 0, [], []), (43, 225, 0, 0, [(164, 0)], []), (0, 0, 2, 0, [], []), (0, 1, 0, 0, [], []), (1, 0, 0, 61, [], []), (18, 1, 29, 0, [], []), (1, 0, 0, 6, [], []), (22, 0, 35, 0, [], []), (0, 1, 0, 0, [], []), (1, 0, 0, 60, [], []), (18, 1, 34, 0, [], []), (1, 0, 0, 7, [], []), (22, 0, 35, 0, [], []), (1, 0, 0, 8, [], []), (1, 0, 0, 0, [], []), (43, 223, 2, 0, [(153, 0)], []), (51, 0, 0, 0, [], [])]
def k_R_isSign : List ja_I0 := [(0, 0, 0, 0, [], []), (1, 0, 0, 61, [], []), (18, 0, 9, 0, [], []), (0, 0, 0, 0, [], []), (1, 0, 0, 60, [], []), (18, 0, 9, 0, [], []), (0, 0, 0, 0, [], []), (1, 0, 0, 62, [], []), (18, 1, 11, 0, [], []), (1, 0, 0, 1, [], []), (22, 0, 12, 0, [], []), (1, 0, 0, 0, [], []), (48, 0, 0, 0, [], [])]
def k_R_goOnAnd : List ja_I0 := [(0, 0, 2, 0, [], [true]), (24, 12, 4, 131, [], []), (1, 0, 0, -1, [], []), (18, 1, 21, 0, [], []), (0, 0, 2, 0, [], []), (43, 207, 0, 1, [(143, 0)], []), (1, 0, 0, 38, [], []), (18, 1, 21, 0, [], []), (0, 0, 2, 0, [], []), (52, 0, 0, 0, [], []), (24, 12, 3, 124, [], []), (1, 0, 0, 1, [], []), (6, 0, 0, 0, [], []), (27, 12, 3, 124, [], []), (0, 0, 2, 0, [], []), (43, 221, 0, 0, [(180, 0)], []), (0, 0, 2, 0, [], []), (1, 0, 0, 10, [], []), (1, 0, 0, 0, [], []), (43, 223, 2, 0, [(153, 0)], []), (22, 0, 0, 0, [], []), (51, 0, 0, 0, [], [])]
def k_R_goOnOr : List ja_I0 := [(0, 0, 2, 0, [], [true]), (24, 12, 4, 131, [], []), (1, 0, 0, -1, [], []), (18, 1, 23, 0, [], []), (0, 0, 2, 0, [], []), (43, 207, 0, 1, [(143, 0)], []), (1, 0, 0, 124, [], []), (18, 1, 23, 0, [], []), (0, 0, 2, 0, [], []), (52, 0, 0, 0, [], []), (24, 12, 3, 124, [], []), (1, 0, 0, 1, [], []), (6, 0, 0, 0, [], []), (27, 12, 3, 124, [], []), (0, 0, 2, 0, [], []), (43, 221, 0, 0, [(180, 0)], []), (0, 0, 2, 0, [], []), (43, 232, 0, 0, [(189, 0)], []), (0, 0, 2, 0, [], []), (1, 0, 0, 11, [], []), (1, 0, 0, 0, [], []), (43, 223, 2, 0, [(153, 0)], []), (22, 0, 0, 0, [], []), (51, 0, 0, 0, [], [])]
def k_R_atEnd : List ja_I0 := [(0, 0, 2, 0, [], []), (24, 12, 4, 131, [], []), (1, 0, 0, -1, [], []), (18, 1, 10, 0, [], []), (0, 0, 2, 0, [], []), (43, 207, 0, 1, [(143, 0)], []), (1, 0, 0, -1, [], []), (18, 0, 10, 0, [], []), (0, 0, 2, 0, [], []), (43, 213, 0, 0, [(140, 0)], []), (0, 0, 2, 0, [], []), (24, 12, 4, 131, [], []), (47, 0, 0, 0, [], [])]
def k_R_text : List ja_I0 := [(0, 1, 0, 0, [], []), (19, 1, 12, 0, [], []), (0, 0, 2, 0, [], []), (43, 206, 0, 1, [(262, 0)], []), (1, 0, 0, -1, [], []), (18, 1, 12, 0, [], []), (0, 0, 2, 0, [], []), (1, 0, 0, 0, [], []), (27, 12, 2, 121, [], []), (0, 0, 2, 0, [], []), (43, 236, 0, 1, [(290, 0)], []), (47, 0, 0, 0, [], []), (0, 1, 0, 0, [], []), (1, 0, 0, 1, [], []), (18, 1, 39, 0, [], []), (0, 0, 2, 0, [], []), (24, 12, 13, 293, [], []), (1, 0, 0, 4, [], []), (18, 3, 39, 0, [], []), (0, 0, 2, 0, [], []), (0, 0, 2, 0, [], []), (24, 12, 13, 293, [], []), (43, 217, 1, 1, [(265, 0)], []), (1, 0, 0, -1, [], []), (18, 1, 39, 0, [], []), (0, 0, 2, 0, [], []), (1, 0, 0, 0, [], []), (27, 12, 2, 121, [], []), (0, 0, 2, 0, [], []), (52, 0, 0, 0, [], []), (24, 12, 13, 293, [], []), (1, 0, 0, 1, [], []), (6, 0, 0, 0, [], []), (27, 12, 13, 293, [], []), (0, 0, 2, 0, [], []), (24, 12, 13, 293, [], []), (1, 0, 0, 1, [], []), (6, 1, 0, 0, [], []), (47, 0, 0, 0, [], []), (1, 0, 0, -1, [], []), (47, 0, 0, 0, [], [])]
def k_R_takeHunt : List ja_I0 := [(0, 0, 2, 0, [], []), (0, 0, 2, 0, [], []), (24, 12, 20, 233, [], []), (27, 12, 27, 268, [], []), (0, 0, 2, 0, [], []), (0, 0, 2, 0, [], []), (24, 12, 21, 244, [], []), (27, 12, 28, 271, [], []), (0, 0, 2, 0, [], []), (0, 0, 2, 0, [], []), (24, 12, 22, 247, [], []), (27, 12, 29, 274, [], []), (0, 0, 2, 0, [], []), (0, 0, 2, 0, [], []), (24, 12, 23, 250, [], []), (27, 12, 30, 277, [], []), (1, 0, 0, 0, [], []), (3, 1, 0, 0, [], []), (0, 1, 0, 0, [], [true, true, false]), (1, 0, 0, 6, [], []), (18, 3, 39, 0, [], []), (0, 0, 2, 0, [], []), (26, 12, 24, 49, [], []), (0, 1, 0, 0, [], []), (0, 0, 2, 0, [], []), (26, 12, 17, 40, [], []), (0, 1, 0, 0, [], []), (32, 0, 0, 0, [], []), (36, 0, 0, 0, [], []), (0, 0, 2, 0, [], []), (26, 12, 25, 52, [], []), (0, 1, 0, 0, [], []), (0, 0, 2, 0, [], []), (26, 12, 18, 43, [], []), (0, 1, 0, 0, [], []), (32, 0, 0, 0, [], []), (36, 0, 0, 0, [], []), (5, 1, 0, 1, [], []), (22, 0, 18, 0, [], []), (1, 0, 0, 0, [], []), (3, 1, 0, 0, [], []), (0, 1, 0, 0, [], [true, true, false]), (1, 0, 0, 6, [], []), (18, 3, 80, 0, [], []), (0, 0, 2, 0, [], []), (26, 12, 26, 55, [], []), (0, 1, 0, 0, [], []), (0, 0, 2, 0, [], []), (26, 12, 19, 46, [], []), (0, 1, 0, 0, [], []), (32, 0, 0, 0, [], []), (36, 0, 0, 0, [], []), (0, 0, 2, 0, [], []), (26, 12, 32, 61, [], []), (0, 1, 0, 0, [], []), (1, 0, 0, 0, [], []), (36, 0, 0, 0, [], []), (1, 0, 0, 0, [], []), (3, 2, 0, 0, [], []), (0, 2, 0, 0, [], [true, true, true]), (1, 0, 0, 6, [], []), (18, 3, 78, 0, [], []), (0, 0, 2, 0, [], []), (26, 12, 31, 58, [], []), (1, 0, 0, 6, [], []), (0, 1, 0, 0, [], []), (6, 2, 0, 0, [], []), (0, 2, 0, 0, [], []), (6, 0, 0, 0, [], []), (0, 2, 0, 0, [], []), (0, 1, 0, 0, [], []), (6, 0, 0, 0, [], []), (0, 0, 2, 0, [], []), (24, 12, 27, 268, [], []), (8, 0, 0, 0, [], []), (36, 0, 0, 0, [], []), (5, 2, 0, 1, [], []), (22, 0, 59, 0, [], []), (5, 1, 0, 1, [], []), (22, 0, 41, 0, [], []), (0, 0, 2, 0, [], []), (1, 0, 0, 0, [], []), (27, 12, 43, 280, [], []), (0, 0, 2, 0, [], []), (1, 0, 0, 0, [], []), (27, 12, 35, 283, [], []), (0, 0, 2, 0, [], []), (1, 0, 0, 0, [], []), (28, 12, 57, 286, [], []), (0, 0, 2, 0, [], []), (24, 12, 28, 271, [], []), (47, 0, 0, 0, [], [])]
def k_R_place : List ja_I0 := [(0, 0, 2, 0, [], []), (0, 0, 2, 0, [], []), (0, 1, 0, 0, [], []), (43, 238, 1, 1, [(296, 0)], []), (19, 0, 12, 0, [], []), (0, 2, 0, 0, [], []), (1, 0, 0, 0, [], []), (1, 0, 0, 1, [], []), (44, 214, 3, 1, [(229, 0)], []), (19, 0, 12, 0, [], []), (1, 0, 0, 0, [], []), (22, 0, 13, 0, [], []), (1, 0, 0, 1, [], []), (27, 12, 0, 114, [], []), (0, 0, 2, 0, [], []), (24, 12, 0, 114, [], []), (1, 0, 0, 1, [], []), (18, 1, 20, 0, [], []), (1, 0, 0, 0, [], []), (22, 0, 31, 0, [], []), (0, 2, 0, 0, [], []), (19, 1, 27, 0, [], []), (0, 0, 2, 0, [], []), (26, 12, 24, 49, [], []), (0, 1, 0, 0, [], []), (32, 0, 0, 0, [], []), (22, 0, 31, 0, [], []), (0, 0, 2, 0, [], []), (26, 12, 25, 52, [], []), (0, 1, 0, 0, [], []), (32, 0, 0, 0, [], []), (47, 0, 0, 0, [], [])]
def k_R_isPlace : List ja_I0 := [(0, 1, 0, 0, [], []), (1, 0, 0, 0, [], []), (0, 0, 2, 0, [], []), (24, 12, 27, 268, [], []), (1, 0, 0, 1, [], []), (6, 1, 0, 0, [], []), (44, 214, 3, 1, [(229, 0)], []), (48, 0, 0, 0, [], [])]
def k_R_band : List ja_I0 := [(0, 0, 2, 0, [], []), (0, 1, 0, 0, [], []), (43, 240, 1, 1, [(302, 0)], []), (19, 0, 9, 0, [], []), (0, 2, 0, 0, [], []), (1, 0, 0, 0, [], []), (1, 0, 0, 2, [], []), (44, 214, 3, 1, [(229, 0)], []), (19, 1, 11, 0, [], []), (1, 0, 0, -1, [], []), (22, 0, 29, 0, [], []), (0, 2, 0, 0, [], []), (19, 1, 18, 0, [], []), (0, 0, 2, 0, [], []), (26, 12, 26, 55, [], []), (0, 1, 0, 0, [], []), (32, 0, 0, 0, [], []), (22, 0, 29, 0, [], []), (0, 2, 0, 0, [], []), (1, 0, 0, 1, [], []), (18, 1, 25, 0, [], []), (0, 0, 2, 0, [], []), (0, 1, 0, 0, [], []), (43, 241, 1, 1, [(305, 0)], []), (22, 0, 29, 0, [], []), (0, 0, 2, 0, [], []), (26, 12, 32, 61, [], []), (0, 1, 0, 0, [], []), (32, 0, 0, 0, [], []), (47, 0, 0, 0, [], [])]
def k_R_isBand : List ja_I0 := [(0, 1, 0, 0, [], []), (1, 0, 0, 0, [], []), (0, 0, 2, 0, [], []), (24, 12, 28, 271, [], []), (1, 0, 0, 1, [], []), (6, 1, 0, 0, [], []), (44, 214, 3, 1, [(229, 0)], []), (48, 0, 0, 0, [], [])]
def k_R_orderOf : List ja_I0 := [(1, 0, 0, 0, [], []), (3, 2, 0, 0, [], []), (1, 0, 0, 0, [], []), (3, 3, 0, 0, [], []), (0, 3, 0, 0, [], [true, true, true, true]), (0, 0, 2, 0, [], []), (24, 12, 27, 268, [], []), (18, 3, 19, 0, [], []), (1, 0, 0, 10, [], []), (0, 2, 0, 0, [], []), (6, 2, 0, 0, [], []), (0, 0, 2, 0, [], []), (0, 1, 0, 0, [], []), (0, 3, 0, 0, [], []), (43, 242, 2, 1, [(299, 0)], []), (6, 0, 0, 0, [], []), (3, 2, 0, 0, [], []), (5, 3, 0, 1, [], []), (22, 0, 4, 0, [], []), (0, 2, 0, 0, [], []), (47, 0, 0, 0, [], [])]
def k_R_of : List ja_I0 := [(0, 0, 2, 0, [], []), (26, 12, 31, 58, [], []), (1, 0, 0, 6, [], []), (0, 1, 0, 0, [], []), (6, 2, 0, 0, [], []), (0, 2, 0, 0, [], []), (6, 0, 0, 0, [], []), (32, 0, 0, 0, [], []), (47, 0, 0, 0, [], [])]
def k_R_order : List ja_I0 := [(0, 0, 2, 0, [], []), (0, 1, 0, 0, [], []), (43, 240, 1, 1, [(302, 0)], []), (19, 0, 8, 0, [], []), (0, 0, 2, 0, [], []), (0, 2, 0, 0, [], []), (43, 244, 1, 1, [(314, 0)], []), (19, 1, 10, 0, [], []), (1, 0, 0, -1, [], []), (47, 0, 0, 0, [], []), (0, 0, 2, 0, [], []), (43, 247, 0, 0, [(317, 0)], []), (0, 0, 2, 0, [], []), (0, 1, 0, 0, [], []), (0, 2, 0, 0, [], []), (43, 248, 2, 0, [(320, 0)], []), (0, 0, 2, 0, [], []), (24, 12, 35, 283, [], []), (47, 0, 0, 0, [], [])]
def k_R_isOrder : List ja_I0 := [(1, 0, 0, 0, [], []), (3, 2, 0, 0, [], []), (1, 0, 0, 0, [], []), (3, 3, 0, 0, [], []), (0, 3, 0, 0, [], [true, true, true, true]), (0, 0, 2, 0, [], []), (24, 12, 27, 268, [], []), (18, 3, 19, 0, [], []), (0, 2, 0, 0, [], []), (1, 0, 0, 1, [], []), (0, 0, 2, 0, [], []), (0, 1, 0, 0, [], []), (0, 3, 0, 0, [], []), (43, 245, 2, 1, [(311, 0)], []), (6, 6, 0, 0, [], []), (6, 4, 0, 0, [], []), (3, 2, 0, 0, [], []), (5, 3, 0, 1, [], []), (22, 0, 4, 0, [], []), (0, 0, 2, 0, [], []), (24, 12, 27, 268, [], []), (19, 5, 41, 0, [], []), (0, 1, 0, 0, [], []), (1, 0, 0, 0, [], []), (0, 0, 2, 0, [], []), (24, 12, 27, 268, [], []), (44, 246, 1, 1, [(308, 0)], []), (1, 0, 0, 1, [], []), (6, 1, 0, 0, [], []), (44, 214, 3, 1, [(229, 0)], []), (19, 0, 41, 0, [], []), (0, 2, 0, 0, [], []), (1, 0, 0, 1, [], []), (0, 0, 2, 0, [], []), (24, 12, 27, 268, [], []), (6, 6, 0, 0, [], []), (1, 0, 0, 1, [], []), (6, 1, 0, 0, [], []), (18, 1, 41, 0, [], []), (1, 0, 0, 1, [], []), (22, 0, 42, 0, [], []), (1, 0, 0, 0, [], []), (48, 0, 0, 0, [], [])]
def k_R_nth : List ja_I0 := [(0, 1, 0, 0, [], []), (0, 0, 2, 0, [], []), (24, 12, 27, 268, [], []), (1, 0, 0, 1, [], []), (6, 1, 0, 0, [], []), (0, 2, 0, 0, [], []), (6, 1, 0, 0, [], []), (44, 246, 1, 1, [(308, 0)], []), (7, 0, 0, 0, [], []), (1, 0, 0, 10, [], []), (8, 0, 0, 0, [], []), (47, 0, 0, 0, [], [])]
def k_R_ten : List ja_I0 := [(1, 0, 0, 1, [], []), (3, 1, 0, 0, [], []), (1, 0, 0, 0, [], []), (3, 2, 0, 0, [], []), (0, 2, 0, 0, [], [true, true, true]), (0, 0, 0, 0, [], []), (18, 3, 13, 0, [], []), (0, 1, 0, 0, [], []), (1, 0, 0, 10, [], []), (6, 2, 0, 0, [], []), (3, 1, 0, 0, [], []), (5, 2, 0, 1, [], []), (22, 0, 4, 0, [], []), (0, 1, 0, 0, [], []), (47, 0, 0, 0, [], [])]
def k_R_keep : List ja_I0 := [(0, 0, 2, 0, [], []), (24, 12, 35, 283, [], []), (1, 0, 0, 40, [], []), (18, 1, 27, 0, [], []), (1, 0, 0, 36, [], []), (3, 1, 0, 0, [], []), (0, 1, 0, 0, [], [true, true]), (1, 0, 0, 1440, [], []), (18, 3, 21, 0, [], []), (0, 0, 2, 0, [], []), (26, 12, 34, 68, [], []), (0, 1, 0, 0, [], []), (1, 0, 0, 36, [], []), (6, 1, 0, 0, [], []), (0, 0, 2, 0, [], []), (26, 12, 34, 68, [], []), (0, 1, 0, 0, [], []), (32, 0, 0, 0, [], []), (36, 0, 0, 0, [], []), (5, 1, 0, 1, [], []), (22, 0, 6, 0, [], []), (0, 0, 2, 0, [], []), (52, 0, 0, 0, [], []), (24, 12, 35, 283, [], []), (1, 0, 0, 1, [], []), (6, 1, 0, 0, [], []), (27, 12, 35, 283, [], []), (1, 0, 0, 0, [], []), (3, 1, 0, 0, [], []), (0, 1, 0, 0, [], [true, true]), (1, 0, 0, 36, [], []), (18, 3, 47, 0, [], []), (0, 0, 2, 0, [], []), (26, 12, 34, 68, [], []), (1, 0, 0, 36, [], []), (0, 0, 2, 0, [], []), (24, 12, 35, 283, [], []), (6, 2, 0, 0, [], []), (0, 1, 0, 0, [], []), (6, 0, 0, 0, [], []), (0, 0, 2, 0, [], []), (26, 12, 31, 58, [], []), (0, 1, 0, 0, [], []), (32, 0, 0, 0, [], []), (36, 0, 0, 0, [], []), (5, 1, 0, 1, [], []), (22, 0, 29, 0, [], []), (0, 0, 2, 0, [], []), (52, 0, 0, 0, [], []), (24, 12, 35, 283, [], []), (1, 0, 0, 1, [], []), (6, 0, 0, 0, [], []), (27, 12, 35, 283, [], []), (51, 0, 0, 0, [], [])]
def k_R_write : List ja_I0 := [(1, 0, 0, 0, [], []), (3, 3, 0, 0, [], []), (0, 3, 0, 0, [], [true, true, true, true]), (0, 0, 2, 0, [], []), (24, 12, 27, 268, [], []), (18, 3, 20, 0, [], []), (0, 0, 2, 0, [], []), (26, 12, 31, 58, [], []), (1, 0, 0, 6, [], []), (0, 1, 0, 0, [], []), (6, 2, 0, 0, [], []), (0, 3, 0, 0, [], []), (6, 0, 0, 0, [], []), (0, 0, 2, 0, [], []), (0, 2, 0, 0, [], []), (0, 3, 0, 0, [], []), (43, 245, 2, 1, [(311, 0)], []), (36, 0, 0, 0, [], []), (5, 3, 0, 1, [], []), (22, 0, 2, 0, [], []), (51, 0, 0, 0, [], [])]
def k_R_start : List ja_I0 := [(0, 0, 2, 0, [], []), (0, 1, 0, 0, [], []), (43, 240, 1, 1, [(302, 0)], []), (19, 0, 9, 0, [], []), (0, 2, 0, 0, [], []), (1, 0, 0, 0, [], []), (1, 0, 0, 99, [], []), (44, 214, 3, 1, [(229, 0)], []), (19, 1, 11, 0, [], []), (1, 0, 0, 0, [], []), (48, 0, 0, 0, [], []), (0, 0, 2, 0, [], []), (26, 12, 32, 61, [], []), (0, 1, 0, 0, [], []), (0, 2, 0, 0, [], []), (36, 0, 0, 0, [], []), (1, 0, 0, 1, [], []), (48, 0, 0, 0, [], [])]
def k_R_worth : List ja_I0 := [(0, 1, 0, 0, [], []), (1, 0, 0, -1, [], []), (0, 0, 2, 0, [], []), (24, 12, 13, 293, [], []), (1, 0, 0, 1, [], []), (6, 1, 0, 0, [], []), (44, 214, 3, 1, [(229, 0)], []), (19, 1, 10, 0, [], []), (1, 0, 0, 0, [], []), (48, 0, 0, 0, [], []), (0, 0, 2, 0, [], []), (0, 1, 0, 0, [], []), (27, 12, 33, 64, [], []), (1, 0, 0, 1, [], []), (48, 0, 0, 0, [], [])]
def k_R_undo : List ja_I0 := [(0, 0, 2, 0, [], []), (24, 12, 35, 283, [], []), (19, 1, 5, 0, [], []), (1, 0, 0, -1, [], []), (47, 0, 0, 0, [], []), (0, 0, 2, 0, [], []), (52, 0, 0, 0, [], []), (24, 12, 35, 283, [], []), (1, 0, 0, 1, [], []), (6, 1, 0, 0, [], []), (27, 12, 35, 283, [], []), (1, 0, 0, 0, [], []), (3, 1, 0, 0, [], []), (0, 1, 0, 0, [], [true, true]), (1, 0, 0, 36, [], []), (18, 3, 31, 0, [], []), (0, 0, 2, 0, [], []), (26, 12, 31, 58, [], []), (0, 1, 0, 0, [], []), (0, 0, 2, 0, [], []), (26, 12, 34, 68, [], []), (1, 0, 0, 36, [], []), (0, 0, 2, 0, [], []), (24, 12, 35, 283, [], []), (6, 2, 0, 0, [], []), (0, 1, 0, 0, [], []), (6, 0, 0, 0, [], []), (32, 0, 0, 0, [], []), (36, 0, 0, 0, [], []), (5, 1, 0, 1, [], []), (22, 0, 13, 0, [], []), (0, 0, 2, 0, [], []), (24, 12, 35, 283, [], []), (47, 0, 0, 0, [], [])]
def k_R_at : List ja_I0 := [(0, 0, 2, 0, [], []), (0, 1, 0, 0, [], []), (43, 240, 1, 1, [(302, 0)], []), (19, 0, 17, 0, [], []), (0, 2, 0, 0, [], []), (1, 0, 0, 0, [], []), (0, 0, 2, 0, [], []), (24, 12, 27, 268, [], []), (1, 0, 0, 1, [], []), (6, 1, 0, 0, [], []), (44, 214, 3, 1, [(229, 0)], []), (19, 0, 17, 0, [], []), (0, 0, 2, 0, [], []), (0, 1, 0, 0, [], []), (0, 2, 0, 0, [], []), (43, 242, 2, 1, [(299, 0)], []), (22, 0, 18, 0, [], []), (1, 0, 0, -1, [], []), (47, 0, 0, 0, [], [])]
def k_R_follows : List ja_I0 := [(0, 0, 2, 0, [], []), (0, 1, 0, 0, [], []), (43, 240, 1, 1, [(302, 0)], []), (19, 0, 16, 0, [], []), (0, 0, 2, 0, [], []), (0, 2, 0, 0, [], []), (43, 240, 1, 1, [(302, 0)], []), (19, 0, 16, 0, [], []), (0, 1, 0, 0, [], []), (0, 2, 0, 0, [], []), (18, 0, 16, 0, [], []), (0, 0, 2, 0, [], []), (0, 1, 0, 0, [], []), (0, 2, 0, 0, [], []), (43, 254, 2, 1, [(323, 0)], []), (22, 0, 17, 0, [], []), (1, 0, 0, -1, [], []), (47, 0, 0, 0, [], [])]
def k_R_followsOf : List ja_I0 := [(1, 0, 0, 0, [], []), (3, 3, 0, 0, [], []), (1, 0, 0, 1, [], []), (3, 4, 0, 0, [], []), (0, 4, 0, 0, [], [true, true, true, true, true]), (0, 0, 2, 0, [], []), (24, 12, 27, 268, [], []), (18, 3, 27, 0, [], []), (0, 3, 0, 0, [], []), (0, 0, 2, 0, [], []), (0, 1, 0, 0, [], []), (0, 4, 0, 0, [], []), (43, 242, 2, 1, [(299, 0)], []), (0, 0, 2, 0, [], []), (0, 2, 0, 0, [], []), (0, 4, 0, 0, [], []), (1, 0, 0, 1, [], []), (6, 1, 0, 0, [], []), (43, 242, 2, 1, [(299, 0)], []), (18, 1, 22, 0, [], []), (1, 0, 0, 1, [], []), (22, 0, 23, 0, [], []), (1, 0, 0, 0, [], []), (6, 0, 0, 0, [], []), (3, 3, 0, 0, [], []), (5, 4, 0, 1, [], []), (22, 0, 4, 0, [], []), (0, 3, 0, 0, [], []), (47, 0, 0, 0, [], [])]
def k_R_lawful : List ja_I0 := [(0, 0, 2, 0, [], []), (24, 12, 28, 271, [], []), (19, 1, 5, 0, [], []), (1, 0, 0, -1, [], []), (22, 0, 13, 0, [], []), (0, 0, 2, 0, [], []), (0, 0, 2, 0, [], []), (24, 12, 28, 271, [], []), (43, 256, 1, 1, [(329, 0)], []), (19, 0, 12, 0, [], []), (1, 0, 0, 1, [], []), (22, 0, 13, 0, [], []), (1, 0, 0, 0, [], []), (47, 0, 0, 0, [], [])]
def k_R_isLawful : List ja_I0 := [(1, 0, 0, 0, [], []), (3, 2, 0, 0, [], []), (0, 2, 0, 0, [], [true, true, true, false]), (0, 1, 0, 0, [], []), (18, 3, 31, 0, [], []), (1, 0, 0, 0, [], []), (3, 3, 0, 0, [], []), (0, 3, 0, 0, [], [true, true, true, true]), (0, 1, 0, 0, [], []), (18, 3, 29, 0, [], []), (0, 2, 0, 0, [], []), (0, 3, 0, 0, [], []), (18, 0, 27, 0, [], []), (0, 0, 2, 0, [], []), (0, 2, 0, 0, [], []), (0, 3, 0, 0, [], []), (43, 257, 2, 1, [(326, 0)], []), (19, 1, 25, 0, [], []), (0, 0, 2, 0, [], []), (0, 2, 0, 0, [], []), (0, 3, 0, 0, [], []), (43, 254, 2, 1, [(323, 0)], []), (0, 0, 2, 0, [], []), (24, 12, 29, 274, [], []), (18, 5, 27, 0, [], []), (1, 0, 0, 0, [], []), (48, 0, 0, 0, [], []), (5, 3, 0, 1, [], []), (22, 0, 7, 0, [], []), (5, 2, 0, 1, [], []), (22, 0, 2, 0, [], []), (1, 0, 0, 1, [], []), (48, 0, 0, 0, [], [])]
def k_R_doMeet : List ja_I0 := [(1, 0, 0, 0, [], []), (3, 3, 0, 0, [], []), (0, 3, 0, 0, [], [true, true, true, true]), (0, 0, 2, 0, [], []), (24, 12, 27, 268, [], []), (18, 3, 19, 0, [], []), (0, 0, 2, 0, [], []), (0, 1, 0, 0, [], []), (0, 3, 0, 0, [], []), (43, 242, 2, 1, [(299, 0)], []), (0, 0, 2, 0, [], []), (0, 2, 0, 0, [], []), (0, 3, 0, 0, [], []), (43, 242, 2, 1, [(299, 0)], []), (18, 1, 17, 0, [], []), (1, 0, 0, 1, [], []), (48, 0, 0, 0, [], []), (5, 3, 0, 1, [], []), (22, 0, 2, 0, [], []), (1, 0, 0, 0, [], []), (48, 0, 0, 0, [], [])]
def k_R_crowd : List ja_I0 := [(0, 1, 0, 0, [], []), (1, 0, 0, 0, [], []), (1, 0, 0, 2, [], []), (44, 214, 3, 1, [(229, 0)], []), (19, 1, 7, 0, [], []), (1, 0, 0, -1, [], []), (47, 0, 0, 0, [], []), (1, 0, 0, 0, [], []), (3, 2, 0, 0, [], []), (0, 2, 0, 0, [], [true, true, true, false]), (0, 0, 2, 0, [], []), (24, 12, 27, 268, [], []), (18, 3, 44, 0, [], []), (1, 0, 0, 0, [], []), (3, 3, 0, 0, [], []), (0, 3, 0, 0, [], [true, true, true, true]), (0, 0, 2, 0, [], []), (24, 12, 27, 268, [], []), (18, 3, 42, 0, [], []), (0, 0, 2, 0, [], []), (0, 2, 0, 0, [], []), (0, 3, 0, 0, [], []), (43, 259, 2, 1, [(332, 0)], []), (44, 96, 1, 1, [(335, 0)], []), (1, 0, 0, 1, [], []), (18, 5, 40, 0, [], []), (0, 1, 0, 0, [], []), (19, 1, 30, 0, [], []), (0, 2, 0, 0, [], []), (22, 0, 39, 0, [], []), (0, 1, 0, 0, [], []), (1, 0, 0, 1, [], []), (18, 1, 35, 0, [], []), (0, 3, 0, 0, [], []), (22, 0, 39, 0, [], []), (0, 0, 2, 0, [], []), (0, 2, 0, 0, [], []), (0, 3, 0, 0, [], []), (43, 259, 2, 1, [(332, 0)], []), (47, 0, 0, 0, [], []), (5, 3, 0, 1, [], []), (22, 0, 15, 0, [], []), (5, 2, 0, 1, [], []), (22, 0, 9, 0, [], []), (1, 0, 0, -1, [], []), (47, 0, 0, 0, [], [])]
def k_R_bandsAt : List ja_I0 := [(1, 0, 0, 0, [], []), (3, 3, 0, 0, [], []), (1, 0, 0, 0, [], []), (3, 4, 0, 0, [], []), (0, 4, 0, 0, [], [true, true, true, true, true]), (0, 0, 2, 0, [], []), (24, 12, 28, 271, [], []), (18, 3, 24, 0, [], []), (0, 3, 0, 0, [], []), (0, 0, 2, 0, [], []), (0, 4, 0, 0, [], []), (0, 1, 0, 0, [], []), (43, 242, 2, 1, [(299, 0)], []), (0, 2, 0, 0, [], []), (18, 1, 19, 0, [], []), (1, 0, 0, 1, [], []), (0, 4, 0, 0, [], []), (6, 6, 0, 0, [], []), (22, 0, 20, 0, [], []), (1, 0, 0, 0, [], []), (6, 4, 0, 0, [], []), (3, 3, 0, 0, [], []), (5, 4, 0, 1, [], []), (22, 0, 4, 0, [], []), (0, 3, 0, 0, [], []), (47, 0, 0, 0, [], [])]
def k_R_even : List ja_I0 := [(0, 1, 0, 0, [], []), (1, 0, 0, 2, [], []), (1, 0, 0, 400, [], []), (44, 214, 3, 1, [(229, 0)], []), (19, 0, 24, 0, [], []), (0, 1, 0, 0, [], []), (1, 0, 0, 2, [], []), (8, 0, 0, 0, [], []), (1, 0, 0, 1, [], []), (18, 0, 24, 0, [], []), (0, 2, 0, 0, [], []), (1, 0, 0, 0, [], []), (0, 1, 0, 0, [], []), (1, 0, 0, 1, [], []), (6, 1, 0, 0, [], []), (44, 214, 3, 1, [(229, 0)], []), (19, 0, 24, 0, [], []), (0, 3, 0, 0, [], []), (1, 0, 0, 0, [], []), (0, 1, 0, 0, [], []), (1, 0, 0, 1, [], []), (6, 1, 0, 0, [], []), (44, 214, 3, 1, [(229, 0)], []), (19, 1, 26, 0, [], []), (1, 0, 0, -1, [], []), (47, 0, 0, 0, [], []), (0, 3, 0, 0, [], []), (1, 0, 0, 2, [], []), (8, 0, 0, 0, [], []), (1, 0, 0, 1, [], []), (18, 1, 37, 0, [], []), (0, 3, 0, 0, [], []), (1, 0, 0, 1, [], []), (6, 0, 0, 0, [], []), (1, 0, 0, 2, [], []), (7, 0, 0, 0, [], []), (22, 0, 44, 0, [], []), (0, 1, 0, 0, [], []), (0, 3, 0, 0, [], []), (1, 0, 0, 2, [], []), (7, 0, 0, 0, [], []), (6, 1, 0, 0, [], []), (0, 1, 0, 0, [], []), (8, 0, 0, 0, [], []), (3, 4, 0, 0, [], []), (0, 2, 0, 0, [], []), (0, 4, 0, 0, [], []), (6, 0, 0, 0, [], []), (0, 1, 0, 0, [], []), (8, 0, 0, 0, [], []), (47, 0, 0, 0, [], [])]
def k_R_slips : List ja_I0 := [(0, 0, 2, 0, [], []), (24, 12, 28, 271, [], []), (19, 1, 5, 0, [], []), (1, 0, 0, -1, [], []), (47, 0, 0, 0, [], []), (1, 0, 0, 0, [], []), (3, 1, 0, 0, [], []), (1, 0, 0, 0, [], []), (3, 2, 0, 0, [], []), (0, 2, 0, 0, [], [true, true, true, false, false, false, false]), (0, 0, 2, 0, [], []), (24, 12, 27, 268, [], []), (18, 3, 69, 0, [], []), (1, 0, 0, 0, [], []), (3, 3, 0, 0, [], []), (0, 3, 0, 0, [], [true, true, true, true, false, false, false]), (0, 0, 2, 0, [], []), (24, 12, 27, 268, [], []), (18, 3, 67, 0, [], []), (1, 0, 0, 0, [], []), (3, 4, 0, 0, [], []), (1, 0, 0, 0, [], []), (3, 5, 0, 0, [], []), (0, 5, 0, 0, [], [true, true, true, true, true, true, false]), (0, 0, 2, 0, [], []), (24, 12, 28, 271, [], []), (18, 3, 57, 0, [], []), (1, 0, 0, 1, [], []), (3, 6, 0, 0, [], []), (0, 6, 0, 0, [], [true, true, true, true, true, true, true]), (0, 0, 2, 0, [], []), (24, 12, 27, 268, [], []), (18, 3, 55, 0, [], []), (0, 4, 0, 0, [], []), (19, 1, 49, 0, [], []), (0, 0, 2, 0, [], []), (0, 5, 0, 0, [], []), (0, 6, 0, 0, [], []), (1, 0, 0, 1, [], []), (6, 1, 0, 0, [], []), (43, 242, 2, 1, [(299, 0)], []), (0, 2, 0, 0, [], []), (18, 1, 51, 0, [], []), (0, 0, 2, 0, [], []), (0, 5, 0, 0, [], []), (0, 6, 0, 0, [], []), (43, 242, 2, 1, [(299, 0)], []), (0, 3, 0, 0, [], []), (18, 1, 51, 0, [], []), (1, 0, 0, 1, [], []), (22, 0, 52, 0, [], []), (1, 0, 0, 0, [], []), (3, 4, 0, 0, [], []), (5, 6, 0, 1, [], []), (22, 0, 29, 0, [], []), (5, 5, 0, 1, [], []), (22, 0, 23, 0, [], []), (0, 1, 0, 0, [], []), (0, 4, 0, 0, [], []), (19, 0, 62, 0, [], []), (1, 0, 0, 1, [], []), (22, 0, 63, 0, [], []), (1, 0, 0, 0, [], []), (6, 0, 0, 0, [], []), (3, 1, 0, 0, [], []), (5, 3, 0, 1, [], []), (22, 0, 15, 0, [], []), (5, 2, 0, 1, [], []), (22, 0, 9, 0, [], []), (0, 1, 0, 0, [], []), (47, 0, 0, 0, [], [])]
def k_R_well : List ja_I0 := [(0, 0, 2, 0, [], []), (0, 1, 0, 0, [], []), (43, 238, 1, 1, [(296, 0)], []), (19, 0, 6, 0, [], []), (0, 2, 0, 0, [], []), (19, 3, 8, 0, [], []), (1, 0, 0, -1, [], []), (47, 0, 0, 0, [], []), (1, 0, 0, 0, [], []), (3, 3, 0, 0, [], []), (1, 0, 0, 0, [], []), (3, 4, 0, 0, [], []), (0, 4, 0, 0, [], [true, true, true, true, true, false]), (0, 0, 2, 0, [], []), (24, 12, 27, 268, [], []), (18, 3, 38, 0, [], []), (1, 0, 0, 0, [], []), (3, 5, 0, 0, [], []), (0, 5, 0, 0, [], [true, true, true, true, true, true]), (0, 0, 2, 0, [], []), (24, 12, 28, 271, [], []), (18, 3, 36, 0, [], []), (0, 0, 2, 0, [], []), (0, 5, 0, 0, [], []), (0, 4, 0, 0, [], []), (43, 242, 2, 1, [(299, 0)], []), (0, 1, 0, 0, [], []), (18, 1, 34, 0, [], []), (0, 3, 0, 0, [], []), (0, 2, 0, 0, [], []), (18, 1, 33, 0, [], []), (0, 5, 0, 0, [], []), (47, 0, 0, 0, [], []), (5, 3, 0, 1, [], []), (5, 5, 0, 1, [], []), (22, 0, 18, 0, [], []), (5, 4, 0, 1, [], []), (22, 0, 12, 0, [], []), (1, 0, 0, -1, [], []), (47, 0, 0, 0, [], [])]
def k_R_sight : List ja_I0 := [(0, 0, 2, 0, [], []), (24, 12, 28, 271, [], []), (19, 1, 5, 0, [], []), (1, 0, 0, -1, [], []), (47, 0, 0, 0, [], []), (1, 0, 0, 0, [], []), (3, 1, 0, 0, [], []), (1, 0, 0, 0, [], []), (3, 2, 0, 0, [], []), (0, 2, 0, 0, [], [true, true, true, false, false, false, false]), (0, 0, 2, 0, [], []), (24, 12, 27, 268, [], []), (18, 3, 67, 0, [], []), (1, 0, 0, 0, [], []), (3, 3, 0, 0, [], []), (0, 3, 0, 0, [], [true, true, true, true, false, false, false]), (0, 0, 2, 0, [], []), (24, 12, 28, 271, [], []), (18, 3, 65, 0, [], []), (1, 0, 0, 0, [], []), (3, 4, 0, 0, [], []), (0, 4, 0, 0, [], [true, true, true, true, true, false, false]), (0, 3, 0, 0, [], []), (18, 3, 63, 0, [], []), (0, 0, 2, 0, [], []), (0, 3, 0, 0, [], []), (0, 2, 0, 0, [], []), (43, 242, 2, 1, [(299, 0)], []), (3, 5, 0, 0, [], []), (0, 0, 2, 0, [], []), (0, 4, 0, 0, [], []), (0, 2, 0, 0, [], []), (43, 242, 2, 1, [(299, 0)], []), (3, 6, 0, 0, [], []), (0, 1, 0, 0, [], []), (0, 5, 0, 0, [], []), (0, 6, 0, 0, [], []), (18, 0, 58, 0, [], []), (0, 0, 2, 0, [], []), (26, 12, 24, 49, [], []), (0, 5, 0, 0, [], []), (32, 0, 0, 0, [], []), (0, 0, 2, 0, [], []), (26, 12, 24, 49, [], []), (0, 6, 0, 0, [], []), (32, 0, 0, 0, [], []), (18, 0, 56, 0, [], []), (0, 0, 2, 0, [], []), (26, 12, 25, 52, [], []), (0, 5, 0, 0, [], []), (32, 0, 0, 0, [], []), (0, 0, 2, 0, [], []), (26, 12, 25, 52, [], []), (0, 6, 0, 0, [], []), (32, 0, 0, 0, [], []), (18, 1, 58, 0, [], []), (1, 0, 0, 1, [], []), (22, 0, 59, 0, [], []), (1, 0, 0, 0, [], []), (6, 0, 0, 0, [], []), (3, 1, 0, 0, [], []), (5, 4, 0, 1, [], []), (22, 0, 21, 0, [], []), (5, 3, 0, 1, [], []), (22, 0, 15, 0, [], []), (5, 2, 0, 1, [], []), (22, 0, 9, 0, [], []), (0, 1, 0, 0, [], []), (47, 0, 0, 0, [], [])]
def k_R_comes : List ja_I0 := [(0, 0, 2, 0, [], []), (0, 1, 0, 0, [], []), (43, 240, 1, 1, [(302, 0)], []), (19, 0, 17, 0, [], []), (0, 2, 0, 0, [], []), (1, 0, 0, 0, [], []), (0, 0, 2, 0, [], []), (24, 12, 27, 268, [], []), (1, 0, 0, 1, [], []), (6, 1, 0, 0, [], []), (44, 214, 3, 1, [(229, 0)], []), (19, 0, 17, 0, [], []), (0, 0, 2, 0, [], []), (0, 1, 0, 0, [], []), (0, 2, 0, 0, [], []), (43, 265, 2, 1, [(349, 0)], []), (22, 0, 18, 0, [], []), (1, 0, 0, -1, [], []), (47, 0, 0, 0, [], [])]
def k_R_comesAt : List ja_I0 := [(0, 0, 2, 0, [], []), (26, 12, 32, 61, [], []), (0, 1, 0, 0, [], []), (32, 0, 0, 0, [], []), (3, 3, 0, 0, [], []), (1, 0, 0, 0, [], []), (3, 4, 0, 0, [], []), (0, 4, 0, 0, [], [true, true, true, true, true]), (0, 2, 0, 0, [], []), (18, 4, 38, 0, [], []), (0, 3, 0, 0, [], []), (0, 0, 2, 0, [], []), (26, 12, 26, 55, [], []), (0, 1, 0, 0, [], []), (32, 0, 0, 0, [], []), (0, 0, 2, 0, [], []), (0, 0, 2, 0, [], []), (0, 1, 0, 0, [], []), (0, 4, 0, 0, [], []), (43, 266, 2, 1, [(343, 0)], []), (0, 0, 2, 0, [], []), (0, 1, 0, 0, [], []), (0, 4, 0, 0, [], []), (43, 242, 2, 1, [(299, 0)], []), (43, 267, 2, 1, [(346, 0)], []), (6, 2, 0, 0, [], []), (0, 4, 0, 0, [], []), (0, 2, 0, 0, [], []), (18, 3, 32, 0, [], []), (0, 0, 2, 0, [], []), (24, 12, 30, 277, [], []), (22, 0, 33, 0, [], []), (1, 0, 0, 0, [], []), (6, 0, 0, 0, [], []), (6, 0, 0, 0, [], []), (3, 3, 0, 0, [], []), (5, 4, 0, 1, [], []), (22, 0, 7, 0, [], []), (0, 3, 0, 0, [], []), (47, 0, 0, 0, [], [])]
def k_R_ahead : List ja_I0 := [(0, 2, 0, 0, [], []), (19, 1, 4, 0, [], []), (1, 0, 0, -1, [], []), (22, 0, 10, 0, [], []), (0, 0, 2, 0, [], []), (0, 1, 0, 0, [], []), (0, 2, 0, 0, [], []), (1, 0, 0, 1, [], []), (6, 1, 0, 0, [], []), (43, 242, 2, 1, [(299, 0)], []), (47, 0, 0, 0, [], [])]
def k_R_steps : List ja_I0 := [(0, 1, 0, 0, [], []), (1, 0, 0, -1, [], []), (18, 1, 5, 0, [], []), (1, 0, 0, 0, [], []), (22, 0, 9, 0, [], []), (0, 0, 2, 0, [], []), (26, 12, 24, 49, [], []), (0, 1, 0, 0, [], []), (32, 0, 0, 0, [], []), (3, 3, 0, 0, [], []), (0, 1, 0, 0, [], []), (1, 0, 0, -1, [], []), (18, 1, 15, 0, [], []), (1, 0, 0, 0, [], []), (22, 0, 19, 0, [], []), (0, 0, 2, 0, [], []), (26, 12, 25, 52, [], []), (0, 1, 0, 0, [], []), (32, 0, 0, 0, [], []), (3, 4, 0, 0, [], []), (0, 3, 0, 0, [], []), (0, 0, 2, 0, [], []), (26, 12, 24, 49, [], []), (0, 2, 0, 0, [], []), (32, 0, 0, 0, [], []), (6, 1, 0, 0, [], []), (59, 0, 0, 340, [], []), (0, 4, 0, 0, [], []), (0, 0, 2, 0, [], []), (26, 12, 25, 52, [], []), (0, 2, 0, 0, [], []), (32, 0, 0, 0, [], []), (6, 1, 0, 0, [], []), (59, 0, 0, 340, [], []), (6, 0, 0, 0, [], []), (47, 0, 0, 0, [], [])]
def k_R_home : List ja_I0 := [(0, 0, 2, 0, [], []), (0, 1, 0, 0, [], []), (43, 240, 1, 1, [(302, 0)], []), (19, 0, 8, 0, [], []), (0, 0, 2, 0, [], []), (0, 1, 0, 0, [], []), (43, 269, 1, 1, [(352, 0)], []), (22, 0, 9, 0, [], []), (1, 0, 0, -1, [], []), (47, 0, 0, 0, [], [])]
def k_R_homeOf : List ja_I0 := [(0, 0, 2, 0, [], []), (0, 1, 0, 0, [], []), (0, 0, 2, 0, [], []), (24, 12, 27, 268, [], []), (1, 0, 0, 1, [], []), (6, 1, 0, 0, [], []), (43, 242, 2, 1, [(299, 0)], []), (3, 2, 0, 0, [], []), (0, 0, 2, 0, [], []), (0, 1, 0, 0, [], []), (0, 0, 2, 0, [], []), (24, 12, 27, 268, [], []), (1, 0, 0, 1, [], []), (6, 1, 0, 0, [], []), (43, 265, 2, 1, [(349, 0)], []), (0, 0, 2, 0, [], []), (24, 12, 30, 277, [], []), (6, 0, 0, 0, [], []), (0, 0, 2, 0, [], []), (26, 12, 26, 55, [], []), (0, 1, 0, 0, [], []), (32, 0, 0, 0, [], []), (0, 0, 2, 0, [], []), (1, 0, 0, -1, [], []), (0, 2, 0, 0, [], []), (43, 267, 2, 1, [(346, 0)], []), (6, 2, 0, 0, [], []), (6, 0, 0, 0, [], []), (47, 0, 0, 0, [], [])]
def k_R_points : List ja_I0 := [(0, 0, 2, 0, [], []), (0, 1, 0, 0, [], []), (43, 240, 1, 1, [(302, 0)], []), (19, 0, 8, 0, [], []), (0, 0, 2, 0, [], []), (0, 1, 0, 0, [], []), (43, 271, 1, 1, [(358, 0)], []), (22, 0, 9, 0, [], []), (1, 361, 0, -1000000, [], []), (47, 0, 0, 0, [], [])]
def k_R_pointsOf : List ja_I0 := [(1, 0, 0, 0, [], []), (3, 2, 0, 0, [], []), (1, 0, 0, 0, [], []), (3, 3, 0, 0, [], []), (0, 3, 0, 0, [], [true, true, true, true]), (0, 0, 2, 0, [], []), (24, 12, 27, 268, [], []), (18, 3, 61, 0, [], []), (0, 0, 2, 0, [], []), (24, 12, 33, 64, [], []), (1, 0, 0, -1, [], []), (18, 0, 61, 0, [], []), (0, 0, 2, 0, [], []), (26, 12, 15, 34, [], []), (1, 0, 0, 0, [], []), (0, 3, 0, 0, [], []), (36, 0, 0, 0, [], []), (0, 0, 2, 0, [], []), (26, 12, 15, 34, [], []), (1, 0, 0, 1, [], []), (0, 0, 2, 0, [], []), (0, 1, 0, 0, [], []), (0, 3, 0, 0, [], []), (43, 242, 2, 1, [(299, 0)], []), (36, 0, 0, 0, [], []), (0, 0, 2, 0, [], []), (26, 12, 15, 34, [], []), (1, 0, 0, 2, [], []), (0, 1, 0, 0, [], []), (36, 0, 0, 0, [], []), (0, 0, 2, 0, [], []), (26, 12, 15, 34, [], []), (1, 0, 0, 3, [], []), (0, 0, 2, 0, [], []), (0, 1, 0, 0, [], []), (0, 3, 0, 0, [], []), (43, 265, 2, 1, [(349, 0)], []), (36, 0, 0, 0, [], []), (0, 0, 2, 0, [], []), (26, 12, 15, 34, [], []), (1, 0, 0, 4, [], []), (0, 0, 2, 0, [], []), (0, 0, 2, 0, [], []), (0, 1, 0, 0, [], []), (0, 3, 0, 0, [], []), (43, 266, 2, 1, [(343, 0)], []), (0, 0, 2, 0, [], []), (0, 1, 0, 0, [], []), (0, 3, 0, 0, [], []), (43, 242, 2, 1, [(299, 0)], []), (43, 267, 2, 1, [(346, 0)], []), (36, 0, 0, 0, [], []), (0, 2, 0, 0, [], []), (0, 0, 2, 0, [], []), (0, 0, 2, 0, [], []), (24, 12, 33, 64, [], []), (43, 272, 1, 1, [(355, 0)], []), (6, 0, 0, 0, [], []), (3, 2, 0, 0, [], []), (5, 3, 0, 1, [], []), (22, 0, 4, 0, [], []), (0, 2, 0, 0, [], []), (47, 0, 0, 0, [], [])]
def k_R_worthOf : List ja_I0 := [(1, 0, 0, 90, [], []), (0, 1, 0, 0, [], []), (6, 2, 0, 0, [], []), (3, 2, 0, 0, [], []), (0, 2, 0, 0, [], [true, true, true]), (1, 0, 0, 90, [], []), (0, 1, 0, 0, [], []), (6, 2, 0, 0, [], []), (0, 0, 2, 0, [], []), (26, 12, 9, 22, [], []), (0, 1, 0, 0, [], []), (32, 0, 0, 0, [], []), (6, 0, 0, 0, [], []), (18, 3, 49, 0, [], []), (0, 0, 2, 0, [], []), (26, 12, 10, 25, [], []), (0, 2, 0, 0, [], []), (32, 0, 0, 0, [], []), (0, 0, 2, 0, [], []), (26, 12, 11, 28, [], []), (0, 2, 0, 0, [], []), (32, 0, 0, 0, [], []), (18, 0, 35, 0, [], []), (0, 0, 2, 0, [], []), (0, 1, 0, 0, [], []), (0, 0, 2, 0, [], []), (26, 12, 10, 25, [], []), (0, 2, 0, 0, [], []), (32, 0, 0, 0, [], []), (0, 0, 2, 0, [], []), (26, 12, 11, 28, [], []), (0, 2, 0, 0, [], []), (32, 0, 0, 0, [], []), (43, 273, 3, 1, [(225, 0)], []), (19, 0, 47, 0, [], []), (0, 0, 2, 0, [], []), (0, 1, 0, 0, [], []), (0, 0, 2, 0, [], []), (26, 12, 11, 28, [], []), (0, 2, 0, 0, [], []), (32, 0, 0, 0, [], []), (0, 0, 2, 0, [], []), (26, 12, 12, 31, [], []), (0, 2, 0, 0, [], []), (32, 0, 0, 0, [], []), (43, 273, 3, 1, [(225, 0)], []), (47, 0, 0, 0, [], []), (5, 2, 0, 1, [], []), (22, 0, 4, 0, [], []), (1, 0, 0, 0, [], []), (47, 0, 0, 0, [], [])]
def k_R_workOut : List ja_I0 := [(1, 0, 0, 0, [], []), (3, 4, 0, 0, [], []), (1, 0, 0, 340, [], []), (0, 1, 0, 0, [], []), (6, 2, 0, 0, [], []), (0, 2, 0, 0, [], []), (6, 0, 0, 0, [], []), (3, 5, 0, 0, [], []), (0, 5, 0, 0, [], [true, true, false, true, true, true]), (1, 0, 0, 340, [], []), (0, 1, 0, 0, [], []), (6, 2, 0, 0, [], []), (0, 3, 0, 0, [], []), (6, 0, 0, 0, [], []), (18, 3, 96, 0, [], []), (0, 0, 2, 0, [], []), (26, 12, 6, 13, [], []), (0, 5, 0, 0, [], []), (32, 0, 0, 0, [], []), (19, 0, 26, 0, [], []), (0, 0, 2, 0, [], []), (26, 12, 6, 13, [], []), (0, 5, 0, 0, [], []), (32, 0, 0, 0, [], []), (1, 0, 0, 1, [], []), (18, 1, 49, 0, [], []), (0, 0, 2, 0, [], []), (26, 12, 16, 37, [], []), (0, 4, 0, 0, [], []), (0, 0, 2, 0, [], []), (26, 12, 6, 13, [], []), (0, 5, 0, 0, [], []), (32, 0, 0, 0, [], []), (19, 1, 39, 0, [], []), (0, 0, 2, 0, [], []), (26, 12, 7, 16, [], []), (0, 5, 0, 0, [], []), (32, 0, 0, 0, [], []), (22, 0, 46, 0, [], []), (0, 0, 2, 0, [], []), (26, 12, 15, 34, [], []), (0, 0, 2, 0, [], []), (26, 12, 7, 16, [], []), (0, 5, 0, 0, [], []), (32, 0, 0, 0, [], []), (32, 0, 0, 0, [], []), (36, 0, 0, 0, [], []), (5, 4, 0, 1, [], []), (22, 0, 94, 0, [], []), (0, 0, 2, 0, [], []), (26, 12, 6, 13, [], []), (0, 5, 0, 0, [], []), (32, 0, 0, 0, [], []), (1, 0, 0, 9, [], []), (18, 1, 70, 0, [], []), (0, 0, 2, 0, [], []), (26, 12, 16, 37, [], []), (0, 4, 0, 0, [], []), (1, 0, 0, 1, [], []), (6, 1, 0, 0, [], []), (1, 0, 0, 1, [], []), (0, 0, 2, 0, [], []), (26, 12, 16, 37, [], []), (0, 4, 0, 0, [], []), (1, 0, 0, 1, [], []), (6, 1, 0, 0, [], []), (32, 0, 0, 0, [], []), (6, 1, 0, 0, [], []), (36, 0, 0, 0, [], []), (22, 0, 94, 0, [], []), (5, 4, 0, -1, [], []), (0, 0, 2, 0, [], []), (26, 12, 16, 37, [], []), (0, 4, 0, 0, [], []), (1, 0, 0, 1, [], []), (6, 1, 0, 0, [], []), (0, 0, 2, 0, [], []), (26, 12, 6, 13, [], []), (0, 5, 0, 0, [], []), (32, 0, 0, 0, [], []), (0, 0, 2, 0, [], []), (26, 12, 16, 37, [], []), (0, 4, 0, 0, [], []), (1, 0, 0, 1, [], []), (6, 1, 0, 0, [], []), (32, 0, 0, 0, [], []), (15, 0, 0, 0, [], []), (0, 0, 2, 0, [], []), (26, 12, 16, 37, [], []), (0, 4, 0, 0, [], []), (32, 0, 0, 0, [], []), (15, 0, 0, 0, [], []), (44, 274, 3, 1, [(221, 0)], []), (36, 0, 0, 0, [], []), (5, 5, 0, 1, [], []), (22, 0, 8, 0, [], []), (0, 0, 2, 0, [], []), (26, 12, 16, 37, [], []), (1, 0, 0, 0, [], []), (32, 0, 0, 0, [], []), (47, 0, 0, 0, [], [])]
def k_R_worked : List ja_I0 := [(0, 0, 0, 0, [], []), (23, 0, 64, 0, [(2, 2), (3, 7), (4, 12), (5, 17), (6, 28), (7, 36), (8, 44), (9, 64), (10, 52)], []), (0, 1, 1, 0, [], []), (0, 3, 1, 0, [], []), (10, 0, 0, 0, [], []), (44, 275, 1, 1, [(217, 0)], []), (47, 0, 0, 0, [], []), (0, 1, 1, 0, [], []), (0, 3, 1, 0, [], []), (10, 1, 0, 0, [], []), (44, 275, 1, 1, [(217, 0)], []), (47, 0, 0, 0, [], []), (0, 1, 1, 0, [], []), (0, 3, 1, 0, [], []), (10, 2, 0, 0, [], []), (44, 275, 1, 1, [(217, 0)], []), (47, 0, 0, 0, [], []), (0, 3, 1, 0, [], []), (2, 0, 0, 0, [], []), (17, 0, 0, 0, [], []), (19, 1, 23, 0, [], []), (1, 0, 0, 0, [], []), (22, 0, 27, 0, [], []), (0, 1, 1, 0, [], []), (0, 3, 1, 0, [], []), (11, 0, 0, 0, [], []), (44, 275, 1, 1, [(217, 0)], []), (47, 0, 0, 0, [], []), (0, 1, 1, 0, [], []), (0, 3, 1, 0, [], []), (17, 0, 0, 0, [], []), (19, 1, 34, 0, [], []), (1, 0, 0, 1, [], []), (22, 0, 35, 0, [], []), (1, 0, 0, 0, [], []), (47, 0, 0, 0, [], []), (0, 1, 1, 0, [], []), (0, 3, 1, 0, [], []), (17, 0, 0, 0, [], []), (19, 3, 42, 0, [], []), (1, 0, 0, 1, [], []), (22, 0, 43, 0, [], []), (1, 0, 0, 0, [], []), (47, 0, 0, 0, [], []), (0, 1, 1, 0, [], []), (0, 3, 1, 0, [], []), (17, 0, 0, 0, [], []), (19, 5, 50, 0, [], []), (1, 0, 0, 1, [], []), (22, 0, 51, 0, [], []), (1, 0, 0, 0, [], []), (47, 0, 0, 0, [], []), (0, 1, 1, 0, [], []), (2, 0, 0, 0, [], []), (17, 0, 0, 0, [], []), (19, 0, 62, 0, [], []), (0, 3, 1, 0, [], []), (2, 0, 0, 0, [], []), (17, 0, 0, 0, [], []), (19, 0, 62, 0, [], []), (1, 0, 0, 1, [], []), (22, 0, 63, 0, [], []), (1, 0, 0, 0, [], []), (47, 0, 0, 0, [], []), (0, 1, 1, 0, [], []), (2, 0, 0, 0, [], []), (17, 0, 0, 0, [], []), (19, 1, 72, 0, [], []), (0, 3, 1, 0, [], []), (2, 0, 0, 0, [], []), (17, 0, 0, 0, [], []), (19, 0, 74, 0, [], []), (1, 0, 0, 1, [], []), (22, 0, 75, 0, [], []), (1, 0, 0, 0, [], []), (47, 0, 0, 0, [], [])]
def k_R_bounded : List ja_I0 := [(2, 204, 0, -1000000, [], []), (2, 206, 0, 1000000, [], []), (0, 0, 1, 0, [], []), (61, 0, 0, 208, [], []), (60, 0, 0, 214, [], []), (16, 0, 0, 0, [], []), (47, 0, 0, 0, [], [])]
def k_R_clashes : List ja_I0 := [(0, 0, 2, 0, [], []), (24, 12, 28, 271, [], []), (19, 0, 8, 0, [], []), (0, 1, 0, 0, [], []), (1, 0, 0, 0, [], []), (1, 0, 0, 1, [], []), (44, 214, 3, 1, [(229, 0)], []), (19, 1, 10, 0, [], []), (1, 361, 0, -1000000, [], []), (47, 0, 0, 0, [], []), (1, 0, 0, 0, [], []), (3, 2, 0, 0, [], []), (1, 0, 0, -1, [], []), (3, 3, 0, 0, [], []), (1, 0, 0, 0, [], []), (3, 4, 0, 0, [], []), (0, 4, 0, 0, [], [true, true, true, true, true, false, false]), (0, 0, 2, 0, [], []), (24, 12, 28, 271, [], []), (18, 3, 56, 0, [], []), (1, 0, 0, 0, [], []), (3, 5, 0, 0, [], []), (0, 5, 0, 0, [], [true, true, true, true, true, true, false]), (0, 4, 0, 0, [], []), (18, 3, 54, 0, [], []), (0, 0, 2, 0, [], []), (0, 4, 0, 0, [], []), (0, 5, 0, 0, [], []), (43, 277, 2, 1, [(366, 0)], []), (3, 6, 0, 0, [], []), (0, 2, 0, 0, [], []), (0, 6, 0, 0, [], []), (1, 0, 0, -1, [], []), (18, 0, 36, 0, [], []), (1, 0, 0, 1, [], []), (22, 0, 37, 0, [], []), (1, 0, 0, 0, [], []), (6, 0, 0, 0, [], []), (3, 2, 0, 0, [], []), (0, 6, 0, 0, [], []), (1, 0, 0, -1, [], []), (18, 0, 50, 0, [], []), (0, 3, 0, 0, [], []), (1, 0, 0, -1, [], []), (18, 0, 48, 0, [], []), (0, 6, 0, 0, [], []), (0, 3, 0, 0, [], []), (18, 3, 50, 0, [], []), (0, 6, 0, 0, [], []), (22, 0, 51, 0, [], []), (0, 3, 0, 0, [], []), (3, 3, 0, 0, [], []), (5, 5, 0, 1, [], []), (22, 0, 22, 0, [], []), (5, 4, 0, 1, [], []), (22, 0, 16, 0, [], []), (0, 1, 0, 0, [], []), (19, 1, 60, 0, [], []), (0, 2, 0, 0, [], []), (22, 0, 61, 0, [], []), (0, 3, 0, 0, [], []), (47, 0, 0, 0, [], [])]
def k_R_clashOf : List ja_I0 := [(1, 0, 0, -1, [], []), (3, 3, 0, 0, [], []), (1, 0, 0, 0, [], []), (3, 4, 0, 0, [], []), (0, 4, 0, 0, [], [true, true, true, true, true, false, false, false]), (0, 0, 2, 0, [], []), (24, 12, 27, 268, [], []), (18, 3, 63, 0, [], []), (1, 0, 0, 0, [], []), (3, 5, 0, 0, [], []), (0, 5, 0, 0, [], [true, true, true, true, true, true, false, false]), (0, 0, 2, 0, [], []), (24, 12, 27, 268, [], []), (18, 3, 61, 0, [], []), (0, 0, 2, 0, [], []), (0, 1, 0, 0, [], []), (0, 4, 0, 0, [], []), (43, 265, 2, 1, [(349, 0)], []), (0, 0, 2, 0, [], []), (0, 2, 0, 0, [], []), (0, 5, 0, 0, [], []), (43, 265, 2, 1, [(349, 0)], []), (57, 0, 0, 362, [], []), (3, 6, 0, 0, [], []), (0, 0, 2, 0, [], []), (0, 1, 0, 0, [], []), (0, 4, 0, 0, [], []), (43, 265, 2, 1, [(349, 0)], []), (0, 0, 2, 0, [], []), (0, 2, 0, 0, [], []), (0, 5, 0, 0, [], []), (43, 265, 2, 1, [(349, 0)], []), (58, 0, 0, 364, [], []), (0, 0, 2, 0, [], []), (24, 12, 30, 277, [], []), (6, 0, 0, 0, [], []), (3, 7, 0, 0, [], []), (0, 0, 2, 0, [], []), (0, 1, 0, 0, [], []), (0, 4, 0, 0, [], []), (43, 242, 2, 1, [(299, 0)], []), (0, 0, 2, 0, [], []), (0, 2, 0, 0, [], []), (0, 5, 0, 0, [], []), (43, 242, 2, 1, [(299, 0)], []), (18, 1, 57, 0, [], []), (0, 6, 0, 0, [], []), (0, 7, 0, 0, [], []), (18, 3, 57, 0, [], []), (0, 3, 0, 0, [], []), (1, 0, 0, -1, [], []), (18, 0, 55, 0, [], []), (0, 6, 0, 0, [], []), (0, 3, 0, 0, [], []), (18, 3, 57, 0, [], []), (0, 6, 0, 0, [], []), (22, 0, 58, 0, [], []), (0, 3, 0, 0, [], []), (3, 3, 0, 0, [], []), (5, 5, 0, 1, [], []), (22, 0, 10, 0, [], []), (5, 4, 0, 1, [], []), (22, 0, 4, 0, [], []), (0, 3, 0, 0, [], []), (47, 0, 0, 0, [], [])]
def k_R_starts : List ja_I0 := [(0, 0, 2, 0, [], []), (24, 12, 28, 271, [], []), (19, 0, 13, 0, [], []), (0, 1, 0, 0, [], []), (1, 0, 0, 0, [], []), (1, 0, 0, 9, [], []), (44, 214, 3, 1, [(229, 0)], []), (19, 0, 13, 0, [], []), (0, 2, 0, 0, [], []), (1, 0, 0, 0, [], []), (1, 0, 0, 1, [], []), (44, 214, 3, 1, [(229, 0)], []), (19, 1, 15, 0, [], []), (1, 0, 0, -1, [], []), (47, 0, 0, 0, [], []), (0, 0, 2, 0, [], []), (24, 12, 28, 271, [], []), (1, 0, 0, 4, [], []), (18, 5, 21, 0, [], []), (1, 361, 0, -1000000, [], []), (47, 0, 0, 0, [], []), (1, 0, 0, 1, [], []), (3, 3, 0, 0, [], []), (1, 0, 0, 0, [], []), (3, 4, 0, 0, [], []), (0, 4, 0, 0, [], [true, true, true, true, true, false, false, false, false, false, false, false]), (1, 0, 0, 6, [], []), (18, 3, 50, 0, [], []), (0, 0, 2, 0, [], []), (26, 12, 36, 71, [], []), (0, 4, 0, 0, [], []), (0, 0, 2, 0, [], []), (26, 12, 32, 61, [], []), (0, 4, 0, 0, [], []), (32, 0, 0, 0, [], []), (36, 0, 0, 0, [], []), (0, 3, 0, 0, [], []), (0, 4, 0, 0, [], []), (0, 0, 2, 0, [], []), (24, 12, 28, 271, [], []), (18, 3, 45, 0, [], []), (0, 1, 0, 0, [], []), (1, 0, 0, 1, [], []), (6, 0, 0, 0, [], []), (22, 0, 46, 0, [], []), (1, 0, 0, 1, [], []), (6, 2, 0, 0, [], []), (3, 3, 0, 0, [], []), (5, 4, 0, 1, [], []), (22, 0, 25, 0, [], []), (1, 0, 0, -1, [], []), (3, 4, 0, 0, [], []), (1, 0, 0, 0, [], []), (3, 5, 0, 0, [], []), (1, 0, 0, 0, [], []), (3, 6, 0, 0, [], []), (0, 6, 0, 0, [], [true, true, true, true, true, true, true, false, false, false, false, false]), (0, 3, 0, 0, [], []), (18, 3, 127, 0, [], []), (0, 6, 0, 0, [], []), (3, 7, 0, 0, [], []), (1, 0, 0, 0, [], []), (3, 8, 0, 0, [], []), (1, 0, 0, 0, [], []), (3, 9, 0, 0, [], []), (1, 0, 0, 1, [], []), (3, 10, 0, 0, [], []), (0, 0, 2, 0, [], []), (24, 12, 28, 271, [], []), (1, 0, 0, 1, [], []), (6, 1, 0, 0, [], []), (3, 11, 0, 0, [], []), (0, 11, 0, 0, [], [true, true, true, true, true, true, true, true, true, true, true, true]), (19, 2, 111, 0, [], []), (0, 0, 2, 0, [], []), (26, 12, 32, 61, [], []), (0, 11, 0, 0, [], []), (0, 7, 0, 0, [], []), (0, 1, 0, 0, [], []), (1, 0, 0, 1, [], []), (6, 0, 0, 0, [], []), (8, 0, 0, 0, [], []), (36, 0, 0, 0, [], []), (0, 8, 0, 0, [], []), (0, 0, 2, 0, [], []), (26, 12, 32, 61, [], []), (0, 11, 0, 0, [], []), (32, 0, 0, 0, [], []), (6, 0, 0, 0, [], []), (3, 8, 0, 0, [], []), (0, 9, 0, 0, [], []), (0, 10, 0, 0, [], []), (0, 0, 2, 0, [], []), (26, 12, 32, 61, [], []), (0, 11, 0, 0, [], []), (32, 0, 0, 0, [], []), (6, 2, 0, 0, [], []), (6, 0, 0, 0, [], []), (3, 9, 0, 0, [], []), (0, 10, 0, 0, [], []), (1, 0, 0, 10, [], []), (6, 2, 0, 0, [], []), (3, 10, 0, 0, [], []), (0, 7, 0, 0, [], []), (0, 1, 0, 0, [], []), (1, 0, 0, 1, [], []), (6, 0, 0, 0, [], []), (7, 0, 0, 0, [], []), (3, 7, 0, 0, [], []), (5, 11, 0, -1, [], []), (22, 0, 72, 0, [], []), (0, 4, 0, 0, [], []), (1, 0, 0, -1, [], []), (18, 0, 117, 0, [], []), (0, 8, 0, 0, [], []), (0, 5, 0, 0, [], []), (18, 3, 125, 0, [], []), (0, 0, 2, 0, [], []), (1, 0, 0, 0, [], []), (43, 276, 1, 1, [(369, 0)], []), (19, 1, 125, 0, [], []), (0, 9, 0, 0, [], []), (3, 4, 0, 0, [], []), (0, 8, 0, 0, [], []), (3, 5, 0, 0, [], []), (5, 6, 0, 1, [], []), (22, 0, 56, 0, [], []), (1, 0, 0, 0, [], []), (3, 6, 0, 0, [], []), (0, 6, 0, 0, [], [true, false, true, false, true, true, true, false, false, false, false, false]), (1, 0, 0, 6, [], []), (18, 3, 142, 0, [], []), (0, 0, 2, 0, [], []), (26, 12, 32, 61, [], []), (0, 6, 0, 0, [], []), (0, 0, 2, 0, [], []), (26, 12, 36, 71, [], []), (0, 6, 0, 0, [], []), (32, 0, 0, 0, [], []), (36, 0, 0, 0, [], []), (5, 6, 0, 1, [], []), (22, 0, 129, 0, [], []), (0, 4, 0, 0, [], []), (1, 0, 0, -1, [], []), (18, 0, 148, 0, [], []), (0, 2, 0, 0, [], []), (1, 0, 0, 1, [], []), (18, 1, 150, 0, [], []), (0, 4, 0, 0, [], []), (22, 0, 151, 0, [], []), (0, 5, 0, 0, [], []), (47, 0, 0, 0, [], [])]
def k_R_soonest : List ja_I0 := [(0, 0, 2, 0, [], []), (0, 1, 0, 0, [], []), (43, 240, 1, 1, [(302, 0)], []), (19, 0, 9, 0, [], []), (0, 2, 0, 0, [], []), (1, 0, 0, 0, [], []), (1, 0, 0, 1, [], []), (44, 214, 3, 1, [(229, 0)], []), (19, 1, 11, 0, [], []), (1, 0, 0, -1, [], []), (47, 0, 0, 0, [], []), (0, 0, 2, 0, [], []), (43, 280, 0, 0, [(378, 0)], []), (0, 0, 2, 0, [], []), (0, 1, 0, 0, [], []), (43, 241, 1, 1, [(305, 0)], []), (3, 3, 0, 0, [], []), (1, 0, 0, -1, [], []), (3, 4, 0, 0, [], []), (1, 0, 0, 0, [], []), (3, 5, 0, 0, [], []), (1, 0, 0, 0, [], []), (3, 6, 0, 0, [], []), (0, 6, 0, 0, [], [true, true, true, true, true, true, true, false]), (0, 0, 2, 0, [], []), (24, 12, 38, 372, [], []), (18, 3, 57, 0, [], []), (0, 0, 2, 0, [], []), (0, 1, 0, 0, [], []), (0, 0, 2, 0, [], []), (26, 12, 37, 74, [], []), (0, 6, 0, 0, [], []), (32, 0, 0, 0, [], []), (43, 248, 2, 0, [(320, 0)], []), (0, 0, 2, 0, [], []), (0, 1, 0, 0, [], []), (43, 269, 1, 1, [(352, 0)], []), (3, 7, 0, 0, [], []), (0, 4, 0, 0, [], []), (1, 0, 0, -1, [], []), (18, 0, 44, 0, [], []), (0, 7, 0, 0, [], []), (0, 5, 0, 0, [], []), (18, 3, 55, 0, [], []), (0, 0, 2, 0, [], []), (0, 1, 0, 0, [], []), (43, 282, 1, 1, [(381, 0)], []), (19, 1, 55, 0, [], []), (0, 0, 2, 0, [], []), (26, 12, 37, 74, [], []), (0, 6, 0, 0, [], []), (32, 0, 0, 0, [], []), (3, 4, 0, 0, [], []), (0, 7, 0, 0, [], []), (3, 5, 0, 0, [], []), (5, 6, 0, 1, [], []), (22, 0, 23, 0, [], []), (0, 0, 2, 0, [], []), (0, 1, 0, 0, [], []), (0, 3, 0, 0, [], []), (43, 248, 2, 0, [(320, 0)], []), (0, 4, 0, 0, [], []), (1, 0, 0, -1, [], []), (18, 0, 66, 0, [], []), (0, 2, 0, 0, [], []), (19, 1, 68, 0, [], []), (0, 4, 0, 0, [], []), (22, 0, 69, 0, [], []), (0, 5, 0, 0, [], []), (47, 0, 0, 0, [], [])]
def k_R_layOrders : List ja_I0 := [(0, 0, 2, 0, [], []), (1, 0, 0, 0, [], []), (27, 12, 38, 372, [], []), (0, 0, 2, 0, [], []), (1, 0, 0, 0, [], []), (1, 0, 0, 1, [], []), (0, 0, 2, 0, [], []), (24, 12, 27, 268, [], []), (6, 6, 0, 0, [], []), (1, 0, 0, 1, [], []), (6, 1, 0, 0, [], []), (43, 281, 2, 0, [(375, 0)], []), (51, 0, 0, 0, [], [])]
def k_R_build : List ja_I0 := [(0, 2, 0, 0, [], []), (19, 1, 15, 0, [], []), (0, 0, 2, 0, [], []), (26, 12, 37, 74, [], []), (0, 0, 2, 0, [], []), (24, 12, 38, 372, [], []), (0, 1, 0, 0, [], []), (36, 0, 0, 0, [], []), (0, 0, 2, 0, [], []), (52, 0, 0, 0, [], []), (24, 12, 38, 372, [], []), (1, 0, 0, 1, [], []), (6, 0, 0, 0, [], []), (27, 12, 38, 372, [], []), (51, 0, 0, 0, [], []), (1, 0, 0, 0, [], []), (3, 3, 0, 0, [], []), (0, 3, 0, 0, [], [true, true, true, true]), (0, 0, 2, 0, [], []), (24, 12, 27, 268, [], []), (18, 3, 41, 0, [], []), (0, 2, 0, 0, [], []), (0, 3, 0, 0, [], []), (44, 210, 2, 1, [(236, 0)], []), (19, 0, 39, 0, [], []), (0, 0, 2, 0, [], []), (1, 0, 0, 10, [], []), (0, 1, 0, 0, [], []), (6, 2, 0, 0, [], []), (0, 3, 0, 0, [], []), (6, 0, 0, 0, [], []), (0, 2, 0, 0, [], []), (1, 0, 0, 1, [], []), (0, 3, 0, 0, [], []), (6, 6, 0, 0, [], []), (1, 0, 0, -1, [], []), (6, 5, 0, 0, [], []), (6, 3, 0, 0, [], []), (43, 281, 2, 0, [(375, 0)], []), (5, 3, 0, 1, [], []), (22, 0, 17, 0, [], []), (51, 0, 0, 0, [], [])]
def k_R_doesClash : List ja_I0 := [(1, 0, 0, 0, [], []), (3, 2, 0, 0, [], []), (0, 2, 0, 0, [], [true, true, true]), (0, 0, 2, 0, [], []), (24, 12, 28, 271, [], []), (18, 3, 19, 0, [], []), (0, 2, 0, 0, [], []), (0, 1, 0, 0, [], []), (18, 0, 17, 0, [], []), (0, 0, 2, 0, [], []), (0, 1, 0, 0, [], []), (0, 2, 0, 0, [], []), (43, 277, 2, 1, [(366, 0)], []), (1, 0, 0, -1, [], []), (18, 0, 17, 0, [], []), (1, 0, 0, 1, [], []), (48, 0, 0, 0, [], []), (5, 2, 0, 1, [], []), (22, 0, 2, 0, [], []), (1, 0, 0, 0, [], []), (48, 0, 0, 0, [], [])]
def k_R_rich : List ja_I0 := [(0, 0, 2, 0, [], []), (0, 1, 0, 0, [], []), (43, 240, 1, 1, [(302, 0)], []), (19, 0, 9, 0, [], []), (0, 2, 0, 0, [], []), (1, 0, 0, 0, [], []), (1, 0, 0, 1, [], []), (44, 214, 3, 1, [(229, 0)], []), (19, 1, 11, 0, [], []), (1, 361, 0, -1000000, [], []), (47, 0, 0, 0, [], []), (0, 0, 2, 0, [], []), (43, 280, 0, 0, [(378, 0)], []), (0, 0, 2, 0, [], []), (0, 1, 0, 0, [], []), (43, 241, 1, 1, [(305, 0)], []), (3, 3, 0, 0, [], []), (1, 0, 0, -1, [], []), (3, 4, 0, 0, [], []), (1, 0, 0, 0, [], []), (3, 5, 0, 0, [], []), (1, 0, 0, 0, [], []), (3, 6, 0, 0, [], []), (0, 6, 0, 0, [], [true, true, true, true, true, true, true, false]), (0, 0, 2, 0, [], []), (24, 12, 38, 372, [], []), (18, 3, 57, 0, [], []), (0, 0, 2, 0, [], []), (0, 1, 0, 0, [], []), (0, 0, 2, 0, [], []), (26, 12, 37, 74, [], []), (0, 6, 0, 0, [], []), (32, 0, 0, 0, [], []), (43, 248, 2, 0, [(320, 0)], []), (0, 0, 2, 0, [], []), (0, 1, 0, 0, [], []), (43, 271, 1, 1, [(358, 0)], []), (3, 7, 0, 0, [], []), (0, 4, 0, 0, [], []), (1, 0, 0, -1, [], []), (18, 0, 44, 0, [], []), (0, 7, 0, 0, [], []), (0, 5, 0, 0, [], []), (18, 5, 55, 0, [], []), (0, 0, 2, 0, [], []), (0, 1, 0, 0, [], []), (43, 284, 1, 1, [(384, 0)], []), (19, 1, 55, 0, [], []), (0, 0, 2, 0, [], []), (26, 12, 37, 74, [], []), (0, 6, 0, 0, [], []), (32, 0, 0, 0, [], []), (3, 4, 0, 0, [], []), (0, 7, 0, 0, [], []), (3, 5, 0, 0, [], []), (5, 6, 0, 1, [], []), (22, 0, 23, 0, [], []), (0, 0, 2, 0, [], []), (0, 1, 0, 0, [], []), (0, 3, 0, 0, [], []), (43, 248, 2, 0, [(320, 0)], []), (0, 4, 0, 0, [], []), (1, 0, 0, -1, [], []), (18, 1, 66, 0, [], []), (1, 361, 0, -1000000, [], []), (22, 0, 71, 0, [], []), (0, 2, 0, 0, [], []), (19, 1, 70, 0, [], []), (0, 4, 0, 0, [], []), (22, 0, 71, 0, [], []), (0, 5, 0, 0, [], []), (47, 0, 0, 0, [], [])]
def k_R_meetsAny : List ja_I0 := [(1, 0, 0, 0, [], []), (3, 2, 0, 0, [], []), (0, 2, 0, 0, [], [true, true, true]), (0, 0, 2, 0, [], []), (24, 12, 28, 271, [], []), (18, 3, 18, 0, [], []), (0, 2, 0, 0, [], []), (0, 1, 0, 0, [], []), (18, 0, 16, 0, [], []), (0, 0, 2, 0, [], []), (0, 1, 0, 0, [], []), (0, 2, 0, 0, [], []), (43, 257, 2, 1, [(326, 0)], []), (19, 0, 16, 0, [], []), (1, 0, 0, 1, [], []), (48, 0, 0, 0, [], []), (5, 2, 0, 1, [], []), (22, 0, 2, 0, [], []), (1, 0, 0, 0, [], []), (48, 0, 0, 0, [], [])]
def k_R_find : List ja_I0 := [(0, 0, 2, 0, [], []), (0, 1, 0, 0, [], []), (43, 240, 1, 1, [(302, 0)], []), (19, 0, 20, 0, [], []), (0, 2, 0, 0, [], []), (1, 0, 0, 0, [], []), (0, 0, 2, 0, [], []), (24, 12, 27, 268, [], []), (1, 0, 0, 1, [], []), (6, 1, 0, 0, [], []), (44, 214, 3, 1, [(229, 0)], []), (19, 0, 20, 0, [], []), (0, 0, 2, 0, [], []), (0, 3, 0, 0, [], []), (43, 238, 1, 1, [(296, 0)], []), (19, 0, 20, 0, [], []), (0, 0, 2, 0, [], []), (24, 12, 43, 280, [], []), (1, 0, 0, 20, [], []), (18, 1, 22, 0, [], []), (1, 0, 0, -1, [], []), (47, 0, 0, 0, [], []), (0, 0, 2, 0, [], []), (26, 12, 39, 77, [], []), (0, 0, 2, 0, [], []), (24, 12, 43, 280, [], []), (0, 1, 0, 0, [], []), (36, 0, 0, 0, [], []), (0, 0, 2, 0, [], []), (26, 12, 40, 80, [], []), (0, 0, 2, 0, [], []), (24, 12, 43, 280, [], []), (0, 2, 0, 0, [], []), (36, 0, 0, 0, [], []), (0, 0, 2, 0, [], []), (26, 12, 41, 83, [], []), (0, 0, 2, 0, [], []), (24, 12, 43, 280, [], []), (0, 3, 0, 0, [], []), (36, 0, 0, 0, [], []), (0, 0, 2, 0, [], []), (26, 12, 42, 86, [], []), (0, 0, 2, 0, [], []), (24, 12, 43, 280, [], []), (0, 4, 0, 0, [], []), (37, 0, 0, 0, [], []), (0, 0, 2, 0, [], []), (52, 0, 0, 0, [], []), (24, 12, 43, 280, [], []), (1, 0, 0, 1, [], []), (6, 0, 0, 0, [], []), (27, 12, 43, 280, [], []), (0, 0, 2, 0, [], []), (24, 12, 43, 280, [], []), (47, 0, 0, 0, [], [])]
def k_R_fits : List ja_I0 := [(0, 0, 2, 0, [], []), (0, 1, 0, 0, [], []), (43, 240, 1, 1, [(302, 0)], []), (19, 1, 6, 0, [], []), (1, 0, 0, -1, [], []), (47, 0, 0, 0, [], []), (0, 0, 2, 0, [], []), (43, 280, 0, 0, [(378, 0)], []), (1, 0, 0, 0, [], []), (3, 2, 0, 0, [], []), (1, 0, 0, 0, [], []), (3, 3, 0, 0, [], []), (0, 3, 0, 0, [], [true, true, true, true]), (0, 0, 2, 0, [], []), (24, 12, 38, 372, [], []), (18, 3, 32, 0, [], []), (0, 2, 0, 0, [], []), (0, 0, 2, 0, [], []), (0, 1, 0, 0, [], []), (0, 0, 2, 0, [], []), (26, 12, 37, 74, [], []), (0, 3, 0, 0, [], []), (32, 0, 0, 0, [], []), (43, 287, 2, 1, [(387, 0)], []), (19, 0, 27, 0, [], []), (1, 0, 0, 1, [], []), (22, 0, 28, 0, [], []), (1, 0, 0, 0, [], []), (6, 0, 0, 0, [], []), (3, 2, 0, 0, [], []), (5, 3, 0, 1, [], []), (22, 0, 12, 0, [], []), (0, 2, 0, 0, [], []), (47, 0, 0, 0, [], [])]
def k_R_agrees : List ja_I0 := [(1, 0, 0, 0, [], []), (3, 3, 0, 0, [], []), (0, 3, 0, 0, [], [true, true, true, true]), (0, 0, 2, 0, [], []), (24, 12, 43, 280, [], []), (18, 3, 36, 0, [], []), (0, 0, 2, 0, [], []), (26, 12, 39, 77, [], []), (0, 3, 0, 0, [], []), (32, 0, 0, 0, [], []), (0, 1, 0, 0, [], []), (18, 1, 34, 0, [], []), (0, 0, 2, 0, [], []), (0, 2, 0, 0, [], []), (0, 0, 2, 0, [], []), (26, 12, 40, 80, [], []), (0, 3, 0, 0, [], []), (32, 0, 0, 0, [], []), (43, 245, 2, 1, [(311, 0)], []), (0, 0, 2, 0, [], []), (26, 12, 41, 83, [], []), (0, 3, 0, 0, [], []), (32, 0, 0, 0, [], []), (18, 1, 26, 0, [], []), (1, 0, 0, 1, [], []), (22, 0, 27, 0, [], []), (1, 0, 0, 0, [], []), (0, 0, 2, 0, [], []), (26, 12, 42, 86, [], []), (0, 3, 0, 0, [], []), (33, 0, 0, 0, [], []), (18, 0, 34, 0, [], []), (1, 0, 0, 0, [], []), (48, 0, 0, 0, [], []), (5, 3, 0, 1, [], []), (22, 0, 2, 0, [], []), (1, 0, 0, 1, [], []), (48, 0, 0, 0, [], [])]
def k_R_tables : List ja_I0 := [(0, 0, 2, 0, [], []), (24, 12, 28, 271, [], []), (19, 0, 11, 0, [], []), (0, 0, 2, 0, [], []), (24, 12, 28, 271, [], []), (1, 0, 0, 5, [], []), (18, 4, 11, 0, [], []), (0, 0, 2, 0, [], []), (24, 12, 27, 268, [], []), (1, 0, 0, 5, [], []), (18, 5, 13, 0, [], []), (1, 361, 0, -1000000, [], []), (47, 0, 0, 0, [], []), (0, 1, 0, 0, [], []), (1, 0, 0, -1, [], []), (18, 2, 23, 0, [], []), (0, 1, 0, 0, [], []), (1, 0, 0, -1, [], []), (18, 0, 25, 0, [], []), (0, 0, 2, 0, [], []), (0, 2, 0, 0, [], []), (43, 240, 1, 1, [(302, 0)], []), (19, 1, 25, 0, [], []), (1, 0, 0, -1, [], []), (47, 0, 0, 0, [], []), (0, 0, 2, 0, [], []), (43, 280, 0, 0, [(378, 0)], []), (1, 0, 0, 0, [], []), (3, 3, 0, 0, [], []), (0, 3, 0, 0, [], [true, true, true, true]), (1, 0, 0, 36, [], []), (18, 3, 42, 0, [], []), (0, 0, 2, 0, [], []), (26, 12, 48, 90, [], []), (0, 3, 0, 0, [], []), (0, 0, 2, 0, [], []), (26, 12, 31, 58, [], []), (0, 3, 0, 0, [], []), (32, 0, 0, 0, [], []), (36, 0, 0, 0, [], []), (5, 3, 0, 1, [], []), (22, 0, 29, 0, [], []), (0, 0, 2, 0, [], []), (1, 0, 0, 0, [], []), (27, 12, 44, 390, [], []), (0, 0, 2, 0, [], []), (0, 1, 0, 0, [], []), (27, 12, 45, 393, [], []), (0, 0, 2, 0, [], []), (0, 0, 2, 0, [], []), (0, 2, 0, 0, [], []), (43, 240, 1, 1, [(302, 0)], []), (19, 0, 55, 0, [], []), (0, 2, 0, 0, [], []), (22, 0, 56, 0, [], []), (1, 0, 0, 0, [], []), (27, 12, 46, 396, [], []), (0, 0, 2, 0, [], []), (1, 0, 0, -1, [], []), (27, 12, 47, 399, [], []), (0, 0, 2, 0, [], []), (1, 0, 0, 0, [], []), (43, 289, 1, 0, [(405, 0)], []), (1, 0, 0, 0, [], []), (3, 3, 0, 0, [], []), (0, 3, 0, 0, [], [true, true, false, true]), (1, 0, 0, 36, [], []), (18, 3, 78, 0, [], []), (0, 0, 2, 0, [], []), (26, 12, 31, 58, [], []), (0, 3, 0, 0, [], []), (0, 0, 2, 0, [], []), (26, 12, 48, 90, [], []), (0, 3, 0, 0, [], []), (32, 0, 0, 0, [], []), (36, 0, 0, 0, [], []), (5, 3, 0, 1, [], []), (22, 0, 65, 0, [], []), (0, 1, 0, 0, [], []), (1, 0, 0, -1, [], []), (18, 1, 84, 0, [], []), (0, 0, 2, 0, [], []), (24, 12, 44, 390, [], []), (22, 0, 86, 0, [], []), (0, 0, 2, 0, [], []), (24, 12, 47, 399, [], []), (47, 0, 0, 0, [], [])]
def k_R_tablesFrom : List ja_I0 := [(0, 1, 0, 0, [], []), (0, 0, 2, 0, [], []), (24, 12, 28, 271, [], []), (18, 1, 25, 0, [], []), (0, 0, 2, 0, [], []), (0, 0, 2, 0, [], []), (24, 12, 44, 390, [], []), (0, 0, 2, 0, [], []), (24, 12, 45, 393, [], []), (18, 1, 15, 0, [], []), (0, 0, 2, 0, [], []), (0, 0, 2, 0, [], []), (24, 12, 46, 396, [], []), (43, 241, 1, 1, [(305, 0)], []), (22, 0, 17, 0, [], []), (0, 0, 2, 0, [], []), (24, 12, 47, 399, [], []), (27, 12, 47, 399, [], []), (0, 0, 2, 0, [], []), (52, 0, 0, 0, [], []), (24, 12, 44, 390, [], []), (1, 0, 0, 1, [], []), (6, 0, 0, 0, [], []), (27, 12, 44, 390, [], []), (51, 0, 0, 0, [], []), (1, 0, 0, 0, [], []), (3, 2, 0, 0, [], []), (0, 2, 0, 0, [], [true, true, true]), (0, 0, 2, 0, [], []), (24, 12, 38, 372, [], []), (18, 3, 61, 0, [], []), (0, 0, 2, 0, [], []), (24, 12, 44, 390, [], []), (1, 0, 0, 1000, [], []), (18, 3, 61, 0, [], []), (0, 0, 2, 0, [], []), (0, 1, 0, 0, [], []), (0, 0, 2, 0, [], []), (26, 12, 37, 74, [], []), (0, 2, 0, 0, [], []), (32, 0, 0, 0, [], []), (43, 287, 2, 1, [(387, 0)], []), (19, 0, 59, 0, [], []), (0, 0, 2, 0, [], []), (0, 1, 0, 0, [], []), (0, 0, 2, 0, [], []), (26, 12, 37, 74, [], []), (0, 2, 0, 0, [], []), (32, 0, 0, 0, [], []), (43, 248, 2, 0, [(320, 0)], []), (0, 0, 2, 0, [], []), (0, 1, 0, 0, [], []), (43, 290, 1, 1, [(402, 0)], []), (19, 0, 59, 0, [], []), (0, 0, 2, 0, [], []), (0, 1, 0, 0, [], []), (1, 0, 0, 1, [], []), (6, 0, 0, 0, [], []), (43, 289, 1, 0, [(405, 0)], []), (5, 2, 0, 1, [], []), (22, 0, 27, 0, [], []), (51, 0, 0, 0, [], [])]
def k_R_goesWith : List ja_I0 := [(1, 0, 0, 0, [], []), (3, 2, 0, 0, [], []), (0, 2, 0, 0, [], [true, true, true]), (0, 1, 0, 0, [], []), (18, 3, 28, 0, [], []), (0, 0, 2, 0, [], []), (0, 1, 0, 0, [], []), (0, 2, 0, 0, [], []), (43, 257, 2, 1, [(326, 0)], []), (19, 1, 24, 0, [], []), (0, 0, 2, 0, [], []), (0, 1, 0, 0, [], []), (0, 2, 0, 0, [], []), (43, 254, 2, 1, [(323, 0)], []), (0, 0, 2, 0, [], []), (24, 12, 29, 274, [], []), (18, 4, 24, 0, [], []), (0, 0, 2, 0, [], []), (0, 2, 0, 0, [], []), (0, 1, 0, 0, [], []), (43, 254, 2, 1, [(323, 0)], []), (0, 0, 2, 0, [], []), (24, 12, 29, 274, [], []), (18, 5, 26, 0, [], []), (1, 0, 0, 0, [], []), (48, 0, 0, 0, [], []), (5, 2, 0, 1, [], []), (22, 0, 2, 0, [], []), (1, 0, 0, 1, [], []), (48, 0, 0, 0, [], [])]
def k_R_wrong : List ja_I0 := [(0, 0, 2, 0, [], []), (0, 1, 0, 0, [], []), (43, 240, 1, 1, [(302, 0)], []), (19, 0, 27, 0, [], []), (0, 2, 0, 0, [], []), (1, 0, 0, 0, [], []), (0, 0, 2, 0, [], []), (24, 12, 27, 268, [], []), (1, 0, 0, 1, [], []), (6, 1, 0, 0, [], []), (44, 214, 3, 1, [(229, 0)], []), (19, 0, 27, 0, [], []), (0, 0, 2, 0, [], []), (0, 3, 0, 0, [], []), (43, 238, 1, 1, [(296, 0)], []), (19, 0, 27, 0, [], []), (0, 4, 0, 0, [], []), (1, 0, 0, 0, [], []), (1, 0, 0, 1, [], []), (44, 214, 3, 1, [(229, 0)], []), (19, 0, 27, 0, [], []), (0, 0, 2, 0, [], []), (0, 1, 0, 0, [], []), (0, 2, 0, 0, [], []), (43, 242, 2, 1, [(299, 0)], []), (0, 3, 0, 0, [], []), (18, 1, 29, 0, [], []), (1, 0, 0, -1, [], []), (47, 0, 0, 0, [], []), (0, 0, 2, 0, [], []), (0, 1, 0, 0, [], []), (0, 2, 0, 0, [], []), (43, 242, 2, 1, [(299, 0)], []), (3, 5, 0, 0, [], []), (0, 0, 2, 0, [], []), (26, 12, 31, 58, [], []), (1, 0, 0, 6, [], []), (0, 1, 0, 0, [], []), (6, 2, 0, 0, [], []), (0, 2, 0, 0, [], []), (6, 0, 0, 0, [], []), (0, 3, 0, 0, [], []), (36, 0, 0, 0, [], []), (0, 0, 2, 0, [], []), (0, 2, 0, 0, [], []), (0, 3, 0, 0, [], []), (43, 259, 2, 1, [(332, 0)], []), (1, 0, 0, 1, [], []), (0, 1, 0, 0, [], []), (6, 6, 0, 0, [], []), (1, 0, 0, -1, [], []), (6, 5, 0, 0, [], []), (6, 3, 0, 0, [], []), (3, 6, 0, 0, [], []), (1, 0, 0, 0, [], []), (3, 7, 0, 0, [], []), (1, 0, 0, 0, [], []), (3, 8, 0, 0, [], []), (0, 8, 0, 0, [], [true, true, true, false, true, true, true, true, true]), (0, 0, 2, 0, [], []), (24, 12, 28, 271, [], []), (18, 3, 76, 0, [], []), (0, 7, 0, 0, [], []), (0, 8, 0, 0, [], []), (0, 1, 0, 0, [], []), (18, 0, 71, 0, [], []), (0, 0, 2, 0, [], []), (0, 1, 0, 0, [], []), (0, 8, 0, 0, [], []), (43, 254, 2, 1, [(323, 0)], []), (22, 0, 72, 0, [], []), (1, 0, 0, 0, [], []), (6, 0, 0, 0, [], []), (3, 7, 0, 0, [], []), (5, 8, 0, 1, [], []), (22, 0, 58, 0, [], []), (0, 0, 2, 0, [], []), (26, 12, 31, 58, [], []), (1, 0, 0, 6, [], []), (0, 1, 0, 0, [], []), (6, 2, 0, 0, [], []), (0, 2, 0, 0, [], []), (6, 0, 0, 0, [], []), (0, 5, 0, 0, [], []), (36, 0, 0, 0, [], []), (0, 4, 0, 0, [], []), (19, 1, 89, 0, [], []), (0, 6, 0, 0, [], []), (22, 0, 90, 0, [], []), (0, 7, 0, 0, [], []), (47, 0, 0, 0, [], [])]
def k_R_helpers : List ja_I0 := [(0, 0, 2, 0, [], []), (24, 12, 28, 271, [], []), (19, 0, 8, 0, [], []), (0, 1, 0, 0, [], []), (1, 0, 0, 0, [], []), (1, 0, 0, 40, [], []), (44, 214, 3, 1, [(229, 0)], []), (19, 1, 10, 0, [], []), (1, 0, 0, -1, [], []), (47, 0, 0, 0, [], []), (0, 0, 2, 0, [], []), (1, 0, 0, 0, [], []), (27, 12, 51, 408, [], []), (1, 0, 0, 0, [], []), (3, 2, 0, 0, [], []), (0, 2, 0, 0, [], [true, true, true, false, false]), (0, 0, 2, 0, [], []), (24, 12, 27, 268, [], []), (18, 3, 52, 0, [], []), (1, 0, 0, 0, [], []), (3, 3, 0, 0, [], []), (0, 3, 0, 0, [], [true, true, true, true, false]), (0, 0, 2, 0, [], []), (24, 12, 27, 268, [], []), (18, 3, 50, 0, [], []), (0, 0, 2, 0, [], []), (0, 2, 0, 0, [], []), (0, 3, 0, 0, [], []), (43, 259, 2, 1, [(332, 0)], []), (19, 0, 48, 0, [], []), (0, 0, 2, 0, [], []), (26, 12, 49, 93, [], []), (0, 0, 2, 0, [], []), (24, 12, 51, 408, [], []), (0, 2, 0, 0, [], []), (36, 0, 0, 0, [], []), (0, 0, 2, 0, [], []), (26, 12, 50, 96, [], []), (0, 0, 2, 0, [], []), (24, 12, 51, 408, [], []), (0, 3, 0, 0, [], []), (36, 0, 0, 0, [], []), (0, 0, 2, 0, [], []), (52, 0, 0, 0, [], []), (24, 12, 51, 408, [], []), (1, 0, 0, 1, [], []), (6, 0, 0, 0, [], []), (27, 12, 51, 408, [], []), (5, 3, 0, 1, [], []), (22, 0, 21, 0, [], []), (5, 2, 0, 1, [], []), (22, 0, 15, 0, [], []), (1, 0, 0, 0, [], []), (3, 2, 0, 0, [], []), (0, 2, 0, 0, [], [true, true, true, false, false]), (0, 0, 2, 0, [], []), (24, 12, 51, 408, [], []), (18, 3, 107, 0, [], []), (1, 0, 0, 0, [], []), (3, 3, 0, 0, [], []), (0, 3, 0, 0, [], [true, true, true, true, false]), (0, 0, 2, 0, [], []), (24, 12, 51, 408, [], []), (18, 3, 105, 0, [], []), (0, 0, 2, 0, [], []), (26, 12, 49, 93, [], []), (0, 3, 0, 0, [], []), (32, 0, 0, 0, [], []), (0, 0, 2, 0, [], []), (26, 12, 49, 93, [], []), (0, 2, 0, 0, [], []), (32, 0, 0, 0, [], []), (6, 1, 0, 0, [], []), (3, 4, 0, 0, [], []), (0, 0, 2, 0, [], []), (26, 12, 52, 99, [], []), (1, 0, 0, 36, [], []), (0, 2, 0, 0, [], []), (6, 2, 0, 0, [], []), (0, 3, 0, 0, [], []), (6, 0, 0, 0, [], []), (0, 4, 0, 0, [], []), (19, 5, 101, 0, [], []), (0, 0, 2, 0, [], []), (1, 0, 0, 1, [], []), (0, 0, 2, 0, [], []), (26, 12, 50, 96, [], []), (0, 2, 0, 0, [], []), (32, 0, 0, 0, [], []), (6, 6, 0, 0, [], []), (0, 1, 0, 0, [], []), (0, 4, 0, 0, [], []), (43, 293, 3, 1, [(414, 0)], []), (0, 0, 2, 0, [], []), (26, 12, 50, 96, [], []), (0, 3, 0, 0, [], []), (32, 0, 0, 0, [], []), (44, 210, 2, 1, [(236, 0)], []), (19, 0, 101, 0, [], []), (1, 0, 0, 1, [], []), (22, 0, 102, 0, [], []), (1, 0, 0, 0, [], []), (37, 0, 0, 0, [], []), (5, 3, 0, 1, [], []), (22, 0, 60, 0, [], []), (5, 2, 0, 1, [], []), (22, 0, 54, 0, [], []), (1, 0, 0, 0, [], []), (3, 2, 0, 0, [], []), (1, 0, 0, 0, [], []), (3, 3, 0, 0, [], []), (0, 3, 0, 0, [], [true, false, true, true, false]), (0, 0, 2, 0, [], []), (24, 12, 51, 408, [], []), (18, 3, 122, 0, [], []), (0, 0, 2, 0, [], []), (26, 12, 53, 102, [], []), (0, 3, 0, 0, [], []), (1, 0, 0, -1, [], []), (36, 0, 0, 0, [], []), (5, 3, 0, 1, [], []), (22, 0, 111, 0, [], []), (1, 0, 0, 0, [], []), (3, 3, 0, 0, [], []), (0, 3, 0, 0, [], [true, false, true, true, false]), (0, 0, 2, 0, [], []), (24, 12, 51, 408, [], []), (18, 3, 153, 0, [], []), (1, 0, 0, 0, [], []), (3, 4, 0, 0, [], []), (0, 4, 0, 0, [], [true, false, true, true, true]), (0, 0, 2, 0, [], []), (24, 12, 51, 408, [], []), (18, 3, 141, 0, [], []), (0, 0, 2, 0, [], []), (26, 12, 54, 105, [], []), (0, 4, 0, 0, [], []), (1, 0, 0, 0, [], []), (37, 0, 0, 0, [], []), (5, 4, 0, 1, [], []), (22, 0, 130, 0, [], []), (0, 2, 0, 0, [], []), (0, 0, 2, 0, [], []), (0, 3, 0, 0, [], []), (43, 294, 1, 1, [(411, 0)], []), (19, 0, 148, 0, [], []), (1, 0, 0, 1, [], []), (22, 0, 149, 0, [], []), (1, 0, 0, 0, [], []), (6, 0, 0, 0, [], []), (3, 2, 0, 0, [], []), (5, 3, 0, 1, [], []), (22, 0, 124, 0, [], []), (0, 0, 2, 0, [], []), (24, 12, 51, 408, [], []), (0, 2, 0, 0, [], []), (6, 1, 0, 0, [], []), (47, 0, 0, 0, [], [])]
def k_R_hop : List ja_I0 := [(0, 1, 0, 0, [], []), (3, 4, 0, 0, [], []), (1, 0, 0, 0, [], []), (3, 5, 0, 0, [], []), (0, 5, 0, 0, [], [true, false, true, true, true, true, false, false, false]), (0, 3, 0, 0, [], []), (18, 3, 47, 0, [], []), (1, 0, 0, 0, [], []), (3, 6, 0, 0, [], []), (1, 0, 0, 0, [], []), (3, 7, 0, 0, [], []), (0, 7, 0, 0, [], [true, false, true, true, true, true, true, true, false]), (0, 0, 2, 0, [], []), (24, 12, 27, 268, [], []), (18, 3, 43, 0, [], []), (1, 0, 0, 0, [], []), (3, 8, 0, 0, [], []), (0, 8, 0, 0, [], [true, false, true, true, true, true, true, true, true]), (0, 0, 2, 0, [], []), (24, 12, 27, 268, [], []), (18, 3, 41, 0, [], []), (0, 6, 0, 0, [], []), (0, 4, 0, 0, [], []), (0, 7, 0, 0, [], []), (44, 210, 2, 1, [(236, 0)], []), (19, 0, 36, 0, [], []), (0, 0, 2, 0, [], []), (0, 7, 0, 0, [], []), (0, 8, 0, 0, [], []), (43, 267, 2, 1, [(346, 0)], []), (0, 2, 0, 0, [], []), (18, 4, 36, 0, [], []), (1, 0, 0, 1, [], []), (0, 8, 0, 0, [], []), (6, 6, 0, 0, [], []), (22, 0, 37, 0, [], []), (1, 0, 0, 0, [], []), (6, 4, 0, 0, [], []), (3, 6, 0, 0, [], []), (5, 8, 0, 1, [], []), (22, 0, 17, 0, [], []), (5, 7, 0, 1, [], []), (22, 0, 11, 0, [], []), (0, 6, 0, 0, [], []), (3, 4, 0, 0, [], []), (5, 5, 0, 1, [], []), (22, 0, 4, 0, [], []), (0, 4, 0, 0, [], []), (47, 0, 0, 0, [], [])]
def k_R_match : List ja_I0 := [(1, 0, 0, 0, [], []), (3, 2, 0, 0, [], []), (0, 2, 0, 0, [], [true, true, true]), (0, 0, 2, 0, [], []), (24, 12, 51, 408, [], []), (18, 3, 47, 0, [], []), (0, 0, 2, 0, [], []), (26, 12, 52, 99, [], []), (1, 0, 0, 36, [], []), (0, 1, 0, 0, [], []), (6, 2, 0, 0, [], []), (0, 2, 0, 0, [], []), (6, 0, 0, 0, [], []), (33, 0, 0, 0, [], []), (19, 0, 45, 0, [], []), (0, 0, 2, 0, [], []), (26, 12, 54, 105, [], []), (0, 2, 0, 0, [], []), (33, 0, 0, 0, [], []), (19, 1, 45, 0, [], []), (0, 0, 2, 0, [], []), (26, 12, 54, 105, [], []), (0, 2, 0, 0, [], []), (1, 0, 0, 1, [], []), (37, 0, 0, 0, [], []), (0, 0, 2, 0, [], []), (26, 12, 53, 102, [], []), (0, 2, 0, 0, [], []), (32, 0, 0, 0, [], []), (1, 0, 0, -1, [], []), (18, 0, 38, 0, [], []), (0, 0, 2, 0, [], []), (0, 0, 2, 0, [], []), (26, 12, 53, 102, [], []), (0, 2, 0, 0, [], []), (32, 0, 0, 0, [], []), (43, 294, 1, 1, [(411, 0)], []), (19, 0, 45, 0, [], []), (0, 0, 2, 0, [], []), (26, 12, 53, 102, [], []), (0, 2, 0, 0, [], []), (0, 1, 0, 0, [], []), (36, 0, 0, 0, [], []), (1, 0, 0, 1, [], []), (48, 0, 0, 0, [], []), (5, 2, 0, 1, [], []), (22, 0, 2, 0, [], []), (1, 0, 0, 0, [], []), (48, 0, 0, 0, [], [])]
def k_R_pieces : List ja_I0 := [(0, 1, 0, 0, [], []), (1, 0, 0, 1, [], []), (1, 0, 0, 10, [], []), (44, 214, 3, 1, [(229, 0)], []), (19, 0, 12, 0, [], []), (0, 2, 0, 0, [], []), (1, 0, 0, 1, [], []), (0, 1, 0, 0, [], []), (44, 214, 3, 1, [(229, 0)], []), (19, 0, 12, 0, [], []), (0, 3, 0, 0, [], []), (19, 3, 14, 0, [], []), (1, 0, 0, -1, [], []), (47, 0, 0, 0, [], []), (0, 3, 0, 0, [], []), (1, 0, 0, 2, [], []), (18, 3, 33, 0, [], []), (0, 3, 0, 0, [], []), (19, 1, 25, 0, [], []), (0, 1, 0, 0, [], []), (0, 2, 0, 0, [], []), (1, 0, 0, 1, [], []), (6, 1, 0, 0, [], []), (44, 296, 2, 1, [(417, 0)], []), (22, 0, 32, 0, [], []), (0, 1, 0, 0, [], []), (1, 0, 0, 1, [], []), (6, 1, 0, 0, [], []), (0, 2, 0, 0, [], []), (1, 0, 0, 1, [], []), (6, 1, 0, 0, [], []), (44, 296, 2, 1, [(417, 0)], []), (47, 0, 0, 0, [], []), (1, 0, 0, 0, [], []), (3, 4, 0, 0, [], []), (1, 0, 0, 0, [], []), (3, 5, 0, 0, [], []), (0, 5, 0, 0, [], [false, true, true, true, true, true]), (1, 0, 0, 1, [], []), (0, 1, 0, 0, [], []), (6, 6, 0, 0, [], []), (18, 3, 66, 0, [], []), (0, 5, 0, 0, [], []), (44, 96, 1, 1, [(335, 0)], []), (0, 2, 0, 0, [], []), (1, 0, 0, 1, [], []), (6, 1, 0, 0, [], []), (18, 1, 64, 0, [], []), (0, 4, 0, 0, [], []), (0, 3, 0, 0, [], []), (1, 0, 0, 2, [], []), (6, 1, 0, 0, [], []), (18, 1, 63, 0, [], []), (1, 0, 0, 1, [], []), (0, 1, 0, 0, [], []), (6, 6, 0, 0, [], []), (1, 0, 0, 1, [], []), (6, 1, 0, 0, [], []), (0, 5, 0, 0, [], []), (1, 0, 0, -1, [], []), (6, 5, 0, 0, [], []), (6, 3, 0, 0, [], []), (47, 0, 0, 0, [], []), (5, 4, 0, 1, [], []), (5, 5, 0, 1, [], []), (22, 0, 37, 0, [], []), (1, 0, 0, -1, [], []), (47, 0, 0, 0, [], [])]
def k_R_choose : List ja_I0 := [(1, 0, 0, 1, [], []), (3, 2, 0, 0, [], []), (1, 0, 0, 0, [], []), (3, 3, 0, 0, [], []), (0, 3, 0, 0, [], [true, true, true, true]), (0, 1, 0, 0, [], []), (18, 3, 19, 0, [], []), (0, 2, 0, 0, [], []), (0, 0, 0, 0, [], []), (0, 3, 0, 0, [], []), (6, 1, 0, 0, [], []), (6, 2, 0, 0, [], []), (0, 3, 0, 0, [], []), (1, 0, 0, 1, [], []), (6, 0, 0, 0, [], []), (7, 0, 0, 0, [], []), (3, 2, 0, 0, [], []), (5, 3, 0, 1, [], []), (22, 0, 4, 0, [], []), (0, 1, 0, 0, [], []), (0, 0, 0, 0, [], []), (18, 5, 24, 0, [], []), (1, 0, 0, 0, [], []), (22, 0, 25, 0, [], []), (0, 2, 0, 0, [], []), (47, 0, 0, 0, [], [])]
def k_R_drawn : List ja_I0 := [(0, 0, 2, 0, [], []), (24, 12, 28, 271, [], []), (19, 1, 5, 0, [], []), (1, 0, 0, -1, [], []), (47, 0, 0, 0, [], []), (0, 0, 2, 0, [], []), (43, 247, 0, 0, [(317, 0)], []), (0, 1, 1, 0, [], []), (4, 3, 0, 0, [], []), (1, 0, 0, 0, [], []), (3, 5, 0, 0, [], []), (0, 5, 0, 0, [], [true, false, false, true, false, true, false, false, false]), (0, 0, 2, 0, [], []), (24, 12, 28, 271, [], []), (18, 3, 93, 0, [], []), (1, 0, 0, 0, [], []), (3, 6, 0, 0, [], []), (0, 6, 0, 0, [], [true, false, false, true, false, true, true, false, false]), (0, 0, 2, 0, [], []), (24, 12, 27, 268, [], []), (18, 3, 32, 0, [], []), (0, 0, 2, 0, [], []), (26, 12, 31, 58, [], []), (1, 0, 0, 6, [], []), (0, 5, 0, 0, [], []), (6, 2, 0, 0, [], []), (0, 6, 0, 0, [], []), (6, 0, 0, 0, [], []), (0, 6, 0, 0, [], []), (36, 0, 0, 0, [], []), (5, 6, 0, 1, [], []), (22, 0, 17, 0, [], []), (0, 0, 2, 0, [], []), (24, 12, 27, 268, [], []), (1, 0, 0, 1, [], []), (6, 1, 0, 0, [], []), (3, 6, 0, 0, [], []), (0, 6, 0, 0, [], [true, false, false, true, false, true, true, false, false]), (19, 5, 91, 0, [], []), (0, 3, 1, 0, [], []), (2, 420, 0, 6364136223846793005, [], []), (10, 2, 0, 0, [], []), (2, 422, 0, 1442695040888963407, [], []), (10, 0, 0, 0, [], []), (4, 3, 0, 0, [], []), (0, 3, 1, 0, [], []), (1, 0, 0, 33, [], []), (14, 0, 0, 0, [], []), (0, 6, 0, 0, [], []), (1, 0, 0, 1, [], []), (6, 0, 0, 0, [], []), (15, 0, 0, 0, [], []), (12, 0, 0, 0, [], []), (16, 0, 0, 0, [], []), (3, 7, 0, 0, [], []), (0, 0, 2, 0, [], []), (26, 12, 31, 58, [], []), (1, 0, 0, 6, [], []), (0, 5, 0, 0, [], []), (6, 2, 0, 0, [], []), (0, 6, 0, 0, [], []), (6, 0, 0, 0, [], []), (32, 0, 0, 0, [], []), (3, 8, 0, 0, [], []), (0, 0, 2, 0, [], []), (26, 12, 31, 58, [], []), (1, 0, 0, 6, [], []), (0, 5, 0, 0, [], []), (6, 2, 0, 0, [], []), (0, 6, 0, 0, [], []), (6, 0, 0, 0, [], []), (0, 0, 2, 0, [], []), (26, 12, 31, 58, [], []), (1, 0, 0, 6, [], []), (0, 5, 0, 0, [], []), (6, 2, 0, 0, [], []), (0, 7, 0, 0, [], []), (6, 0, 0, 0, [], []), (32, 0, 0, 0, [], []), (36, 0, 0, 0, [], []), (0, 0, 2, 0, [], []), (26, 12, 31, 58, [], []), (1, 0, 0, 6, [], []), (0, 5, 0, 0, [], []), (6, 2, 0, 0, [], []), (0, 7, 0, 0, [], []), (6, 0, 0, 0, [], []), (0, 8, 0, 0, [], []), (36, 0, 0, 0, [], []), (5, 6, 0, -1, [], []), (22, 0, 37, 0, [], []), (5, 5, 0, 1, [], []), (22, 0, 11, 0, [], []), (0, 0, 2, 0, [], []), (24, 12, 35, 283, [], []), (47, 0, 0, 0, [], [])]
def k_R_image : List ja_I0 := [(0, 0, 2, 0, [], []), (24, 12, 28, 271, [], []), (19, 1, 5, 0, [], []), (1, 0, 0, -1, [], []), (47, 0, 0, 0, [], []), (1, 0, 0, 0, [], []), (3, 1, 0, 0, [], []), (0, 1, 0, 0, [], [true, true]), (1, 0, 0, 36, [], []), (18, 3, 20, 0, [], []), (0, 0, 2, 0, [], []), (26, 12, 55, 108, [], []), (0, 1, 0, 0, [], []), (0, 0, 2, 0, [], []), (26, 12, 31, 58, [], []), (0, 1, 0, 0, [], []), (32, 0, 0, 0, [], []), (36, 0, 0, 0, [], []), (5, 1, 0, 1, [], []), (22, 0, 7, 0, [], []), (1, 0, 0, 0, [], []), (3, 1, 0, 0, [], []), (0, 1, 0, 0, [], [true, true]), (1, 0, 0, 6, [], []), (18, 3, 35, 0, [], []), (0, 0, 2, 0, [], []), (26, 12, 56, 111, [], []), (0, 1, 0, 0, [], []), (0, 0, 2, 0, [], []), (26, 12, 32, 61, [], []), (0, 1, 0, 0, [], []), (32, 0, 0, 0, [], []), (36, 0, 0, 0, [], []), (5, 1, 0, 1, [], []), (22, 0, 22, 0, [], []), (0, 0, 2, 0, [], []), (1, 0, 0, 1, [], []), (28, 12, 57, 286, [], []), (0, 0, 2, 0, [], []), (24, 12, 35, 283, [], []), (47, 0, 0, 0, [], [])]
def k_R_back : List ja_I0 := [(0, 0, 2, 0, [], []), (24, 12, 57, 286, [], []), (19, 1, 5, 0, [], []), (1, 0, 0, -1, [], []), (47, 0, 0, 0, [], []), (1, 0, 0, 0, [], []), (3, 1, 0, 0, [], []), (0, 1, 0, 0, [], [true, true]), (1, 0, 0, 36, [], []), (18, 3, 20, 0, [], []), (0, 0, 2, 0, [], []), (26, 12, 31, 58, [], []), (0, 1, 0, 0, [], []), (0, 0, 2, 0, [], []), (26, 12, 55, 108, [], []), (0, 1, 0, 0, [], []), (32, 0, 0, 0, [], []), (36, 0, 0, 0, [], []), (5, 1, 0, 1, [], []), (22, 0, 7, 0, [], []), (1, 0, 0, 0, [], []), (3, 1, 0, 0, [], []), (0, 1, 0, 0, [], [true, true]), (1, 0, 0, 6, [], []), (18, 3, 35, 0, [], []), (0, 0, 2, 0, [], []), (26, 12, 32, 61, [], []), (0, 1, 0, 0, [], []), (0, 0, 2, 0, [], []), (26, 12, 56, 111, [], []), (0, 1, 0, 0, [], []), (32, 0, 0, 0, [], []), (36, 0, 0, 0, [], []), (5, 1, 0, 1, [], []), (22, 0, 22, 0, [], []), (0, 0, 2, 0, [], []), (1, 0, 0, 0, [], []), (27, 12, 35, 283, [], []), (1, 0, 0, 0, [], []), (47, 0, 0, 0, [], [])]
def k_R_again : List ja_I0 := [(0, 0, 2, 0, [], []), (24, 12, 57, 286, [], []), (19, 1, 5, 0, [], []), (1, 0, 0, -1, [], []), (47, 0, 0, 0, [], []), (1, 0, 0, 0, [], []), (3, 1, 0, 0, [], []), (1, 0, 0, 0, [], []), (3, 2, 0, 0, [], []), (0, 2, 0, 0, [], [true, true, true, false]), (0, 0, 2, 0, [], []), (24, 12, 28, 271, [], []), (18, 3, 42, 0, [], []), (1, 0, 0, 0, [], []), (3, 3, 0, 0, [], []), (0, 3, 0, 0, [], [true, true, true, true]), (0, 0, 2, 0, [], []), (24, 12, 27, 268, [], []), (18, 3, 40, 0, [], []), (0, 1, 0, 0, [], []), (0, 0, 2, 0, [], []), (0, 2, 0, 0, [], []), (0, 3, 0, 0, [], []), (43, 242, 2, 1, [(299, 0)], []), (0, 0, 2, 0, [], []), (26, 12, 55, 108, [], []), (1, 0, 0, 6, [], []), (0, 2, 0, 0, [], []), (6, 2, 0, 0, [], []), (0, 3, 0, 0, [], []), (6, 0, 0, 0, [], []), (32, 0, 0, 0, [], []), (18, 1, 35, 0, [], []), (1, 0, 0, 1, [], []), (22, 0, 36, 0, [], []), (1, 0, 0, 0, [], []), (6, 0, 0, 0, [], []), (3, 1, 0, 0, [], []), (5, 3, 0, 1, [], []), (22, 0, 15, 0, [], []), (5, 2, 0, 1, [], []), (22, 0, 9, 0, [], []), (0, 1, 0, 0, [], []), (47, 0, 0, 0, [], [])]
def k_R_count : List ja_I0 := [(0, 1, 0, 0, [], []), (23, 0, 29, 0, [(0, 2), (1, 5), (2, 8), (3, 11), (4, 14), (5, 17), (6, 20), (7, 23), (8, 26)], []), (0, 0, 2, 0, [], []), (24, 12, 27, 268, [], []), (47, 0, 0, 0, [], []), (0, 0, 2, 0, [], []), (24, 12, 28, 271, [], []), (47, 0, 0, 0, [], []), (0, 0, 2, 0, [], []), (24, 12, 13, 293, [], []), (47, 0, 0, 0, [], []), (0, 0, 2, 0, [], []), (24, 12, 2, 121, [], []), (47, 0, 0, 0, [], []), (0, 0, 2, 0, [], []), (24, 12, 29, 274, [], []), (47, 0, 0, 0, [], []), (0, 0, 2, 0, [], []), (24, 12, 30, 277, [], []), (47, 0, 0, 0, [], []), (0, 0, 2, 0, [], []), (24, 12, 33, 64, [], []), (47, 0, 0, 0, [], []), (0, 0, 2, 0, [], []), (24, 12, 43, 280, [], []), (47, 0, 0, 0, [], []), (0, 0, 2, 0, [], []), (24, 12, 35, 283, [], []), (47, 0, 0, 0, [], []), (1, 361, 0, -1000000, [], []), (47, 0, 0, 0, [], [])]
def k_Law_law : List ja_I0 := [(40, 11, 11, 8, [], []), (52, 0, 0, 0, [], []), (45, 0, 0, 0, [(15, 0)], []), (3, 1, 2, 0, [], []), (40, 12, 58, 16, [], []), (52, 0, 0, 0, [], []), (45, 200, 0, 0, [(18, 0)], []), (3, 2, 2, 0, [], []), (1, 0, 0, 1, [], []), (41, 102, 0, 0, [], []), (3, 3, 2, 0, [], []), (1, 0, 0, 0, [], []), (3, 4, 0, 0, [], []), (0, 4, 0, 0, [], [true, true, true, true, true, false, false]), (0, 0, 2, 0, [], []), (39, 0, 0, 0, [], []), (1, 0, 0, 6, [], []), (6, 1, 0, 0, [], []), (18, 4, 879, 0, [], []), (0, 0, 2, 0, [], []), (0, 4, 0, 0, [], []), (32, 0, 0, 0, [], []), (1, 0, 0, 63, [], []), (6, 3, 0, 0, [], []), (23, 0, 877, 0, [(0, 25), (1, 82), (2, 99), (3, 116), (4, 133), (5, 178), (6, 205), (7, 232), (8, 259), (9, 276), (10, 283), (11, 310), (12, 337), (13, 344), (14, 361), (15, 398), (16, 405), (17, 432), (18, 439), (19, 456), (20, 483), (21, 500), (22, 517), (23, 544), (24, 571), (25, 598), (26, 653), (27, 670), (28, 697), (29, 744), (30, 761), (31, 798), (32, 839), (33, 846), (34, 853), (35, 860)], []), (0, 1, 2, 0, [], []), (0, 0, 2, 0, [], []), (0, 4, 0, 0, [], []), (1, 0, 0, 1, [], []), (6, 0, 0, 0, [], []), (32, 0, 0, 0, [], []), (0, 0, 2, 0, [], []), (0, 4, 0, 0, [], []), (1, 0, 0, 2, [], []), (6, 0, 0, 0, [], []), (32, 0, 0, 0, [], []), (0, 0, 2, 0, [], []), (0, 4, 0, 0, [], []), (1, 0, 0, 3, [], []), (6, 0, 0, 0, [], []), (32, 0, 0, 0, [], []), (0, 0, 2, 0, [], []), (0, 4, 0, 0, [], []), (1, 0, 0, 4, [], []), (6, 0, 0, 0, [], []), (32, 0, 0, 0, [], []), (0, 0, 2, 0, [], []), (0, 4, 0, 0, [], []), (1, 0, 0, 5, [], []), (6, 0, 0, 0, [], []), (32, 0, 0, 0, [], []), (43, 12, 5, 1, [(19, 0)], []), (0, 2, 2, 0, [], []), (0, 0, 2, 0, [], []), (0, 4, 0, 0, [], []), (1, 0, 0, 1, [], []), (6, 0, 0, 0, [], []), (32, 0, 0, 0, [], []), (0, 0, 2, 0, [], []), (0, 4, 0, 0, [], []), (1, 0, 0, 2, [], []), (6, 0, 0, 0, [], []), (32, 0, 0, 0, [], []), (0, 0, 2, 0, [], []), (0, 4, 0, 0, [], []), (1, 0, 0, 3, [], []), (6, 0, 0, 0, [], []), (32, 0, 0, 0, [], []), (0, 0, 2, 0, [], []), (0, 4, 0, 0, [], []), (1, 0, 0, 4, [], []), (6, 0, 0, 0, [], []), (32, 0, 0, 0, [], []), (0, 0, 2, 0, [], []), (0, 4, 0, 0, [], []), (1, 0, 0, 5, [], []), (6, 0, 0, 0, [], []), (32, 0, 0, 0, [], []), (43, 202, 5, 1, [(23, 0)], []), (18, 0, 877, 0, [], []), (1, 0, 0, 0, [], []), (48, 0, 0, 0, [], []), (0, 1, 2, 0, [], []), (0, 0, 2, 0, [], []), (0, 4, 0, 0, [], []), (1, 0, 0, 1, [], []), (6, 0, 0, 0, [], []), (32, 0, 0, 0, [], []), (43, 17, 1, 1, [(24, 0)], []), (0, 2, 2, 0, [], []), (0, 0, 2, 0, [], []), (0, 4, 0, 0, [], []), (1, 0, 0, 1, [], []), (6, 0, 0, 0, [], []), (32, 0, 0, 0, [], []), (43, 204, 1, 1, [(28, 0)], []), (18, 0, 877, 0, [], []), (1, 0, 0, 0, [], []), (48, 0, 0, 0, [], []), (0, 1, 2, 0, [], []), (0, 0, 2, 0, [], []), (0, 4, 0, 0, [], []), (1, 0, 0, 1, [], []), (6, 0, 0, 0, [], []), (32, 0, 0, 0, [], []), (43, 19, 1, 1, [(29, 0)], []), (0, 2, 2, 0, [], []), (0, 0, 2, 0, [], []), (0, 4, 0, 0, [], []), (1, 0, 0, 1, [], []), (6, 0, 0, 0, [], []), (32, 0, 0, 0, [], []), (43, 205, 1, 1, [(33, 0)], []), (18, 0, 877, 0, [], []), (1, 0, 0, 0, [], []), (48, 0, 0, 0, [], []), (0, 1, 2, 0, [], []), (0, 0, 2, 0, [], []), (0, 4, 0, 0, [], []), (1, 0, 0, 1, [], []), (6, 0, 0, 0, [], []), (32, 0, 0, 0, [], []), (43, 54, 1, 1, [(34, 0)], []), (0, 2, 2, 0, [], []), (0, 0, 2, 0, [], []), (0, 4, 0, 0, [], []), (1, 0, 0, 1, [], []), (6, 0, 0, 0, [], []), (32, 0, 0, 0, [], []), (43, 235, 1, 1, [(37, 0)], []), (18, 0, 877, 0, [], []), (1, 0, 0, 0, [], []), (48, 0, 0, 0, [], []), (0, 1, 2, 0, [], []), (0, 0, 2, 0, [], []), (0, 4, 0, 0, [], []), (1, 0, 0, 1, [], []), (6, 0, 0, 0, [], []), (32, 0, 0, 0, [], []), (0, 0, 2, 0, [], []), (0, 4, 0, 0, [], []), (1, 0, 0, 2, [], []), (6, 0, 0, 0, [], []), (32, 0, 0, 0, [], []), (0, 3, 2, 0, [], []), (56, 0, 0, 38, [], []), (3, 5, 0, 0, [], []), (0, 2, 2, 0, [], []), (0, 0, 2, 0, [], []), (0, 4, 0, 0, [], []), (1, 0, 0, 1, [], []), (6, 0, 0, 0, [], []), (32, 0, 0, 0, [], []), (0, 0, 2, 0, [], []), (0, 4, 0, 0, [], []), (1, 0, 0, 2, [], []), (6, 0, 0, 0, [], []), (32, 0, 0, 0, [], []), (43, 237, 2, 1, [(43, 0)], []), (3, 6, 0, 0, [], []), (0, 2, 2, 0, [], []), (43, 201, 0, 1, [(44, 0)], []), (0, 5, 0, 0, [], []), (18, 0, 166, 0, [], []), (1, 0, 0, 0, [], []), (48, 0, 0, 0, [], []), (0, 5, 0, 0, [], []), (19, 1, 177, 0, [], []), (0, 3, 2, 0, [], []), (1, 0, 0, 0, [], []), (34, 0, 0, 0, [], []), (0, 6, 0, 0, [], []), (15, 0, 0, 0, [], []), (17, 0, 0, 0, [], []), (19, 0, 177, 0, [], []), (1, 0, 0, 0, [], []), (48, 0, 0, 0, [], []), (22, 0, 877, 0, [], []), (0, 1, 2, 0, [], []), (0, 0, 2, 0, [], []), (0, 4, 0, 0, [], []), (1, 0, 0, 1, [], []), (6, 0, 0, 0, [], []), (32, 0, 0, 0, [], []), (0, 0, 2, 0, [], []), (0, 4, 0, 0, [], []), (1, 0, 0, 2, [], []), (6, 0, 0, 0, [], []), (32, 0, 0, 0, [], []), (43, 66, 2, 1, [(48, 0)], []), (0, 2, 2, 0, [], []), (0, 0, 2, 0, [], []), (0, 4, 0, 0, [], []), (1, 0, 0, 1, [], []), (6, 0, 0, 0, [], []), (32, 0, 0, 0, [], []), (0, 0, 2, 0, [], []), (0, 4, 0, 0, [], []), (1, 0, 0, 2, [], []), (6, 0, 0, 0, [], []), (32, 0, 0, 0, [], []), (43, 239, 2, 1, [(51, 0)], []), (18, 0, 877, 0, [], []), (1, 0, 0, 0, [], []), (48, 0, 0, 0, [], []), (0, 1, 2, 0, [], []), (0, 0, 2, 0, [], []), (0, 4, 0, 0, [], []), (1, 0, 0, 1, [], []), (6, 0, 0, 0, [], []), (32, 0, 0, 0, [], []), (0, 0, 2, 0, [], []), (0, 4, 0, 0, [], []), (1, 0, 0, 2, [], []), (6, 0, 0, 0, [], []), (32, 0, 0, 0, [], []), (43, 73, 2, 1, [(52, 0)], []), (0, 2, 2, 0, [], []), (0, 0, 2, 0, [], []), (0, 4, 0, 0, [], []), (1, 0, 0, 1, [], []), (6, 0, 0, 0, [], []), (32, 0, 0, 0, [], []), (0, 0, 2, 0, [], []), (0, 4, 0, 0, [], []), (1, 0, 0, 2, [], []), (6, 0, 0, 0, [], []), (32, 0, 0, 0, [], []), (43, 243, 2, 1, [(55, 0)], []), (18, 0, 877, 0, [], []), (1, 0, 0, 0, [], []), (48, 0, 0, 0, [], []), (0, 1, 2, 0, [], []), (0, 0, 2, 0, [], []), (0, 4, 0, 0, [], []), (1, 0, 0, 1, [], []), (6, 0, 0, 0, [], []), (32, 0, 0, 0, [], []), (0, 0, 2, 0, [], []), (0, 4, 0, 0, [], []), (1, 0, 0, 2, [], []), (6, 0, 0, 0, [], []), (32, 0, 0, 0, [], []), (43, 79, 2, 1, [(56, 0)], []), (0, 2, 2, 0, [], []), (0, 0, 2, 0, [], []), (0, 4, 0, 0, [], []), (1, 0, 0, 1, [], []), (6, 0, 0, 0, [], []), (32, 0, 0, 0, [], []), (0, 0, 2, 0, [], []), (0, 4, 0, 0, [], []), (1, 0, 0, 2, [], []), (6, 0, 0, 0, [], []), (32, 0, 0, 0, [], []), (43, 249, 2, 1, [(60, 0)], []), (18, 0, 877, 0, [], []), (1, 0, 0, 0, [], []), (48, 0, 0, 0, [], []), (0, 1, 2, 0, [], []), (0, 0, 2, 0, [], []), (0, 4, 0, 0, [], []), (1, 0, 0, 1, [], []), (6, 0, 0, 0, [], []), (32, 0, 0, 0, [], []), (43, 81, 1, 1, [(61, 0)], []), (0, 2, 2, 0, [], []), (0, 0, 2, 0, [], []), (0, 4, 0, 0, [], []), (1, 0, 0, 1, [], []), (6, 0, 0, 0, [], []), (32, 0, 0, 0, [], []), (43, 250, 1, 1, [(64, 0)], []), (18, 0, 877, 0, [], []), (1, 0, 0, 0, [], []), (48, 0, 0, 0, [], []), (0, 1, 2, 0, [], []), (43, 83, 0, 1, [(65, 0)], []), (0, 2, 2, 0, [], []), (43, 251, 0, 1, [(68, 0)], []), (18, 0, 877, 0, [], []), (1, 0, 0, 0, [], []), (48, 0, 0, 0, [], []), (0, 1, 2, 0, [], []), (0, 0, 2, 0, [], []), (0, 4, 0, 0, [], []), (1, 0, 0, 1, [], []), (6, 0, 0, 0, [], []), (32, 0, 0, 0, [], []), (0, 0, 2, 0, [], []), (0, 4, 0, 0, [], []), (1, 0, 0, 2, [], []), (6, 0, 0, 0, [], []), (32, 0, 0, 0, [], []), (43, 86, 2, 1, [(69, 0)], []), (0, 2, 2, 0, [], []), (0, 0, 2, 0, [], []), (0, 4, 0, 0, [], []), (1, 0, 0, 1, [], []), (6, 0, 0, 0, [], []), (32, 0, 0, 0, [], []), (0, 0, 2, 0, [], []), (0, 4, 0, 0, [], []), (1, 0, 0, 2, [], []), (6, 0, 0, 0, [], []), (32, 0, 0, 0, [], []), (43, 252, 2, 1, [(72, 0)], []), (18, 0, 877, 0, [], []), (1, 0, 0, 0, [], []), (48, 0, 0, 0, [], []), (0, 1, 2, 0, [], []), (0, 0, 2, 0, [], []), (0, 4, 0, 0, [], []), (1, 0, 0, 1, [], []), (6, 0, 0, 0, [], []), (32, 0, 0, 0, [], []), (0, 0, 2, 0, [], []), (0, 4, 0, 0, [], []), (1, 0, 0, 2, [], []), (6, 0, 0, 0, [], []), (32, 0, 0, 0, [], []), (43, 87, 2, 1, [(73, 0)], []), (0, 2, 2, 0, [], []), (0, 0, 2, 0, [], []), (0, 4, 0, 0, [], []), (1, 0, 0, 1, [], []), (6, 0, 0, 0, [], []), (32, 0, 0, 0, [], []), (0, 0, 2, 0, [], []), (0, 4, 0, 0, [], []), (1, 0, 0, 2, [], []), (6, 0, 0, 0, [], []), (32, 0, 0, 0, [], []), (43, 253, 2, 1, [(76, 0)], []), (18, 0, 877, 0, [], []), (1, 0, 0, 0, [], []), (48, 0, 0, 0, [], []), (0, 1, 2, 0, [], []), (43, 89, 0, 1, [(77, 0)], []), (0, 2, 2, 0, [], []), (43, 255, 0, 1, [(80, 0)], []), (18, 0, 877, 0, [], []), (1, 0, 0, 0, [], []), (48, 0, 0, 0, [], []), (0, 1, 2, 0, [], []), (0, 0, 2, 0, [], []), (0, 4, 0, 0, [], []), (1, 0, 0, 1, [], []), (6, 0, 0, 0, [], []), (32, 0, 0, 0, [], []), (43, 97, 1, 1, [(81, 0)], []), (0, 2, 2, 0, [], []), (0, 0, 2, 0, [], []), (0, 4, 0, 0, [], []), (1, 0, 0, 1, [], []), (6, 0, 0, 0, [], []), (32, 0, 0, 0, [], []), (43, 258, 1, 1, [(84, 0)], []), (18, 0, 877, 0, [], []), (1, 0, 0, 0, [], []), (48, 0, 0, 0, [], []), (0, 1, 2, 0, [], []), (0, 0, 2, 0, [], []), (0, 4, 0, 0, [], []), (1, 0, 0, 1, [], []), (6, 0, 0, 0, [], []), (32, 0, 0, 0, [], []), (0, 0, 2, 0, [], []), (0, 4, 0, 0, [], []), (1, 0, 0, 2, [], []), (6, 0, 0, 0, [], []), (32, 0, 0, 0, [], []), (0, 0, 2, 0, [], []), (0, 4, 0, 0, [], []), (1, 0, 0, 3, [], []), (6, 0, 0, 0, [], []), (32, 0, 0, 0, [], []), (43, 98, 3, 1, [(85, 0)], []), (0, 2, 2, 0, [], []), (0, 0, 2, 0, [], []), (0, 4, 0, 0, [], []), (1, 0, 0, 1, [], []), (6, 0, 0, 0, [], []), (32, 0, 0, 0, [], []), (0, 0, 2, 0, [], []), (0, 4, 0, 0, [], []), (1, 0, 0, 2, [], []), (6, 0, 0, 0, [], []), (32, 0, 0, 0, [], []), (0, 0, 2, 0, [], []), (0, 4, 0, 0, [], []), (1, 0, 0, 3, [], []), (6, 0, 0, 0, [], []), (32, 0, 0, 0, [], []), (43, 260, 3, 1, [(89, 0)], []), (18, 0, 877, 0, [], []), (1, 0, 0, 0, [], []), (48, 0, 0, 0, [], []), (0, 1, 2, 0, [], []), (43, 100, 0, 1, [(90, 0)], []), (0, 2, 2, 0, [], []), (43, 261, 0, 1, [(93, 0)], []), (18, 0, 877, 0, [], []), (1, 0, 0, 0, [], []), (48, 0, 0, 0, [], []), (0, 1, 2, 0, [], []), (0, 0, 2, 0, [], []), (0, 4, 0, 0, [], []), (1, 0, 0, 1, [], []), (6, 0, 0, 0, [], []), (32, 0, 0, 0, [], []), (0, 0, 2, 0, [], []), (0, 4, 0, 0, [], []), (1, 0, 0, 2, [], []), (6, 0, 0, 0, [], []), (32, 0, 0, 0, [], []), (43, 103, 2, 1, [(94, 0)], []), (0, 2, 2, 0, [], []), (0, 0, 2, 0, [], []), (0, 4, 0, 0, [], []), (1, 0, 0, 1, [], []), (6, 0, 0, 0, [], []), (32, 0, 0, 0, [], []), (0, 0, 2, 0, [], []), (0, 4, 0, 0, [], []), (1, 0, 0, 2, [], []), (6, 0, 0, 0, [], []), (32, 0, 0, 0, [], []), (43, 262, 2, 1, [(97, 0)], []), (18, 0, 877, 0, [], []), (1, 0, 0, 0, [], []), (48, 0, 0, 0, [], []), (0, 1, 2, 0, [], []), (43, 105, 0, 1, [(98, 0)], []), (0, 2, 2, 0, [], []), (43, 263, 0, 1, [(101, 0)], []), (18, 0, 877, 0, [], []), (1, 0, 0, 0, [], []), (48, 0, 0, 0, [], []), (0, 1, 2, 0, [], []), (0, 0, 2, 0, [], []), (0, 4, 0, 0, [], []), (1, 0, 0, 1, [], []), (6, 0, 0, 0, [], []), (32, 0, 0, 0, [], []), (43, 110, 1, 1, [(102, 0)], []), (0, 2, 2, 0, [], []), (0, 0, 2, 0, [], []), (0, 4, 0, 0, [], []), (1, 0, 0, 1, [], []), (6, 0, 0, 0, [], []), (32, 0, 0, 0, [], []), (43, 270, 1, 1, [(105, 0)], []), (18, 0, 877, 0, [], []), (1, 0, 0, 0, [], []), (48, 0, 0, 0, [], []), (0, 1, 2, 0, [], []), (0, 0, 2, 0, [], []), (0, 4, 0, 0, [], []), (1, 0, 0, 1, [], []), (6, 0, 0, 0, [], []), (32, 0, 0, 0, [], []), (0, 0, 2, 0, [], []), (0, 4, 0, 0, [], []), (1, 0, 0, 2, [], []), (6, 0, 0, 0, [], []), (32, 0, 0, 0, [], []), (43, 121, 2, 1, [(106, 0)], []), (0, 2, 2, 0, [], []), (0, 0, 2, 0, [], []), (0, 4, 0, 0, [], []), (1, 0, 0, 1, [], []), (6, 0, 0, 0, [], []), (32, 0, 0, 0, [], []), (0, 0, 2, 0, [], []), (0, 4, 0, 0, [], []), (1, 0, 0, 2, [], []), (6, 0, 0, 0, [], []), (32, 0, 0, 0, [], []), (43, 264, 2, 1, [(109, 0)], []), (18, 0, 877, 0, [], []), (1, 0, 0, 0, [], []), (48, 0, 0, 0, [], []), (0, 1, 2, 0, [], []), (0, 0, 2, 0, [], []), (0, 4, 0, 0, [], []), (1, 0, 0, 1, [], []), (6, 0, 0, 0, [], []), (32, 0, 0, 0, [], []), (43, 123, 1, 1, [(110, 0)], []), (0, 2, 2, 0, [], []), (0, 0, 2, 0, [], []), (0, 4, 0, 0, [], []), (1, 0, 0, 1, [], []), (6, 0, 0, 0, [], []), (32, 0, 0, 0, [], []), (43, 268, 1, 1, [(113, 0)], []), (18, 0, 877, 0, [], []), (1, 0, 0, 0, [], []), (48, 0, 0, 0, [], []), (0, 1, 2, 0, [], []), (0, 0, 2, 0, [], []), (0, 4, 0, 0, [], []), (1, 0, 0, 1, [], []), (6, 0, 0, 0, [], []), (32, 0, 0, 0, [], []), (43, 125, 1, 1, [(114, 0)], []), (0, 2, 2, 0, [], []), (0, 0, 2, 0, [], []), (0, 4, 0, 0, [], []), (1, 0, 0, 1, [], []), (6, 0, 0, 0, [], []), (32, 0, 0, 0, [], []), (43, 276, 1, 1, [(117, 0)], []), (18, 0, 877, 0, [], []), (1, 0, 0, 0, [], []), (48, 0, 0, 0, [], []), (0, 1, 2, 0, [], []), (0, 0, 2, 0, [], []), (0, 4, 0, 0, [], []), (1, 0, 0, 1, [], []), (6, 0, 0, 0, [], []), (32, 0, 0, 0, [], []), (0, 0, 2, 0, [], []), (0, 4, 0, 0, [], []), (1, 0, 0, 2, [], []), (6, 0, 0, 0, [], []), (32, 0, 0, 0, [], []), (43, 130, 2, 1, [(118, 0)], []), (0, 2, 2, 0, [], []), (0, 0, 2, 0, [], []), (0, 4, 0, 0, [], []), (1, 0, 0, 1, [], []), (6, 0, 0, 0, [], []), (32, 0, 0, 0, [], []), (0, 0, 2, 0, [], []), (0, 4, 0, 0, [], []), (1, 0, 0, 2, [], []), (6, 0, 0, 0, [], []), (32, 0, 0, 0, [], []), (43, 278, 2, 1, [(121, 0)], []), (18, 0, 877, 0, [], []), (1, 0, 0, 0, [], []), (48, 0, 0, 0, [], []), (0, 1, 2, 0, [], []), (0, 0, 2, 0, [], []), (0, 4, 0, 0, [], []), (1, 0, 0, 1, [], []), (6, 0, 0, 0, [], []), (32, 0, 0, 0, [], []), (0, 0, 2, 0, [], []), (0, 4, 0, 0, [], []), (1, 0, 0, 2, [], []), (6, 0, 0, 0, [], []), (32, 0, 0, 0, [], []), (43, 137, 2, 1, [(122, 0)], []), (0, 2, 2, 0, [], []), (0, 0, 2, 0, [], []), (0, 4, 0, 0, [], []), (1, 0, 0, 1, [], []), (6, 0, 0, 0, [], []), (32, 0, 0, 0, [], []), (0, 0, 2, 0, [], []), (0, 4, 0, 0, [], []), (1, 0, 0, 2, [], []), (6, 0, 0, 0, [], []), (32, 0, 0, 0, [], []), (43, 279, 2, 1, [(125, 0)], []), (18, 0, 877, 0, [], []), (1, 0, 0, 0, [], []), (48, 0, 0, 0, [], []), (0, 1, 2, 0, [], []), (0, 0, 2, 0, [], []), (0, 4, 0, 0, [], []), (1, 0, 0, 1, [], []), (6, 0, 0, 0, [], []), (32, 0, 0, 0, [], []), (0, 0, 2, 0, [], []), (0, 4, 0, 0, [], []), (1, 0, 0, 2, [], []), (6, 0, 0, 0, [], []), (32, 0, 0, 0, [], []), (43, 144, 2, 1, [(126, 0)], []), (0, 2, 2, 0, [], []), (0, 0, 2, 0, [], []), (0, 4, 0, 0, [], []), (1, 0, 0, 1, [], []), (6, 0, 0, 0, [], []), (32, 0, 0, 0, [], []), (0, 0, 2, 0, [], []), (0, 4, 0, 0, [], []), (1, 0, 0, 2, [], []), (6, 0, 0, 0, [], []), (32, 0, 0, 0, [], []), (43, 283, 2, 1, [(129, 0)], []), (18, 0, 877, 0, [], []), (1, 0, 0, 0, [], []), (48, 0, 0, 0, [], []), (0, 1, 2, 0, [], []), (0, 0, 2, 0, [], []), (0, 4, 0, 0, [], []), (1, 0, 0, 1, [], []), (6, 0, 0, 0, [], []), (32, 0, 0, 0, [], []), (0, 0, 2, 0, [], []), (0, 4, 0, 0, [], []), (1, 0, 0, 2, [], []), (6, 0, 0, 0, [], []), (32, 0, 0, 0, [], []), (0, 0, 2, 0, [], []), (0, 4, 0, 0, [], []), (1, 0, 0, 3, [], []), (6, 0, 0, 0, [], []), (32, 0, 0, 0, [], []), (0, 0, 2, 0, [], []), (0, 4, 0, 0, [], []), (1, 0, 0, 4, [], []), (6, 0, 0, 0, [], []), (32, 0, 0, 0, [], []), (19, 0, 622, 0, [], []), (1, 0, 0, 1, [], []), (22, 0, 623, 0, [], []), (1, 0, 0, 0, [], []), (43, 148, 4, 1, [(130, 0)], []), (0, 2, 2, 0, [], []), (0, 0, 2, 0, [], []), (0, 4, 0, 0, [], []), (1, 0, 0, 1, [], []), (6, 0, 0, 0, [], []), (32, 0, 0, 0, [], []), (0, 0, 2, 0, [], []), (0, 4, 0, 0, [], []), (1, 0, 0, 2, [], []), (6, 0, 0, 0, [], []), (32, 0, 0, 0, [], []), (0, 0, 2, 0, [], []), (0, 4, 0, 0, [], []), (1, 0, 0, 3, [], []), (6, 0, 0, 0, [], []), (32, 0, 0, 0, [], []), (0, 0, 2, 0, [], []), (0, 4, 0, 0, [], []), (1, 0, 0, 4, [], []), (6, 0, 0, 0, [], []), (32, 0, 0, 0, [], []), (19, 0, 648, 0, [], []), (1, 0, 0, 1, [], []), (22, 0, 649, 0, [], []), (1, 0, 0, 0, [], []), (43, 285, 4, 1, [(134, 0)], []), (18, 0, 877, 0, [], []), (1, 0, 0, 0, [], []), (48, 0, 0, 0, [], []), (0, 1, 2, 0, [], []), (0, 0, 2, 0, [], []), (0, 4, 0, 0, [], []), (1, 0, 0, 1, [], []), (6, 0, 0, 0, [], []), (32, 0, 0, 0, [], []), (43, 151, 1, 1, [(135, 0)], []), (0, 2, 2, 0, [], []), (0, 0, 2, 0, [], []), (0, 4, 0, 0, [], []), (1, 0, 0, 1, [], []), (6, 0, 0, 0, [], []), (32, 0, 0, 0, [], []), (43, 286, 1, 1, [(138, 0)], []), (18, 0, 877, 0, [], []), (1, 0, 0, 0, [], []), (48, 0, 0, 0, [], []), (0, 1, 2, 0, [], []), (0, 0, 2, 0, [], []), (0, 4, 0, 0, [], []), (1, 0, 0, 1, [], []), (6, 0, 0, 0, [], []), (32, 0, 0, 0, [], []), (0, 0, 2, 0, [], []), (0, 4, 0, 0, [], []), (1, 0, 0, 2, [], []), (6, 0, 0, 0, [], []), (32, 0, 0, 0, [], []), (43, 154, 2, 1, [(139, 0)], []), (0, 2, 2, 0, [], []), (0, 0, 2, 0, [], []), (0, 4, 0, 0, [], []), (1, 0, 0, 1, [], []), (6, 0, 0, 0, [], []), (32, 0, 0, 0, [], []), (0, 0, 2, 0, [], []), (0, 4, 0, 0, [], []), (1, 0, 0, 2, [], []), (6, 0, 0, 0, [], []), (32, 0, 0, 0, [], []), (43, 288, 2, 1, [(142, 0)], []), (18, 0, 877, 0, [], []), (1, 0, 0, 0, [], []), (48, 0, 0, 0, [], []), (0, 1, 2, 0, [], []), (0, 0, 2, 0, [], []), (0, 4, 0, 0, [], []), (1, 0, 0, 1, [], []), (6, 0, 0, 0, [], []), (32, 0, 0, 0, [], []), (0, 0, 2, 0, [], []), (0, 4, 0, 0, [], []), (1, 0, 0, 2, [], []), (6, 0, 0, 0, [], []), (32, 0, 0, 0, [], []), (0, 0, 2, 0, [], []), (0, 4, 0, 0, [], []), (1, 0, 0, 3, [], []), (6, 0, 0, 0, [], []), (32, 0, 0, 0, [], []), (0, 0, 2, 0, [], []), (0, 4, 0, 0, [], []), (1, 0, 0, 4, [], []), (6, 0, 0, 0, [], []), (32, 0, 0, 0, [], []), (43, 171, 4, 1, [(143, 0)], []), (0, 2, 2, 0, [], []), (0, 0, 2, 0, [], []), (0, 4, 0, 0, [], []), (1, 0, 0, 1, [], []), (6, 0, 0, 0, [], []), (32, 0, 0, 0, [], []), (0, 0, 2, 0, [], []), (0, 4, 0, 0, [], []), (1, 0, 0, 2, [], []), (6, 0, 0, 0, [], []), (32, 0, 0, 0, [], []), (0, 0, 2, 0, [], []), (0, 4, 0, 0, [], []), (1, 0, 0, 3, [], []), (6, 0, 0, 0, [], []), (32, 0, 0, 0, [], []), (0, 0, 2, 0, [], []), (0, 4, 0, 0, [], []), (1, 0, 0, 4, [], []), (6, 0, 0, 0, [], []), (32, 0, 0, 0, [], []), (43, 291, 4, 1, [(147, 0)], []), (18, 0, 877, 0, [], []), (1, 0, 0, 0, [], []), (48, 0, 0, 0, [], []), (0, 1, 2, 0, [], []), (0, 0, 2, 0, [], []), (0, 4, 0, 0, [], []), (1, 0, 0, 1, [], []), (6, 0, 0, 0, [], []), (32, 0, 0, 0, [], []), (43, 173, 1, 1, [(148, 0)], []), (0, 2, 2, 0, [], []), (0, 0, 2, 0, [], []), (0, 4, 0, 0, [], []), (1, 0, 0, 1, [], []), (6, 0, 0, 0, [], []), (32, 0, 0, 0, [], []), (43, 292, 1, 1, [(151, 0)], []), (18, 0, 877, 0, [], []), (1, 0, 0, 0, [], []), (48, 0, 0, 0, [], []), (0, 1, 2, 0, [], []), (0, 0, 2, 0, [], []), (0, 4, 0, 0, [], []), (1, 0, 0, 1, [], []), (6, 0, 0, 0, [], []), (32, 0, 0, 0, [], []), (0, 0, 2, 0, [], []), (0, 4, 0, 0, [], []), (1, 0, 0, 2, [], []), (6, 0, 0, 0, [], []), (32, 0, 0, 0, [], []), (0, 0, 2, 0, [], []), (0, 4, 0, 0, [], []), (1, 0, 0, 3, [], []), (6, 0, 0, 0, [], []), (32, 0, 0, 0, [], []), (43, 182, 3, 1, [(152, 0)], []), (0, 2, 2, 0, [], []), (0, 0, 2, 0, [], []), (0, 4, 0, 0, [], []), (1, 0, 0, 1, [], []), (6, 0, 0, 0, [], []), (32, 0, 0, 0, [], []), (0, 0, 2, 0, [], []), (0, 4, 0, 0, [], []), (1, 0, 0, 2, [], []), (6, 0, 0, 0, [], []), (32, 0, 0, 0, [], []), (0, 0, 2, 0, [], []), (0, 4, 0, 0, [], []), (1, 0, 0, 3, [], []), (6, 0, 0, 0, [], []), (32, 0, 0, 0, [], []), (43, 295, 3, 1, [(155, 0)], []), (18, 0, 877, 0, [], []), (1, 0, 0, 0, [], []), (48, 0, 0, 0, [], []), (0, 1, 2, 0, [], []), (0, 0, 2, 0, [], []), (0, 4, 0, 0, [], []), (1, 0, 0, 1, [], []), (6, 0, 0, 0, [], []), (32, 0, 0, 0, [], []), (15, 0, 0, 0, [], []), (1, 0, 0, 32, [], []), (13, 0, 0, 0, [], []), (0, 0, 2, 0, [], []), (0, 4, 0, 0, [], []), (1, 0, 0, 2, [], []), (6, 0, 0, 0, [], []), (32, 0, 0, 0, [], []), (15, 0, 0, 0, [], []), (2, 156, 0, 4294967295, [], []), (10, 3, 0, 0, [], []), (10, 4, 0, 0, [], []), (43, 185, 1, 1, [(158, 0)], []), (0, 2, 2, 0, [], []), (0, 0, 2, 0, [], []), (0, 4, 0, 0, [], []), (1, 0, 0, 1, [], []), (6, 0, 0, 0, [], []), (32, 0, 0, 0, [], []), (15, 0, 0, 0, [], []), (1, 0, 0, 32, [], []), (13, 0, 0, 0, [], []), (0, 0, 2, 0, [], []), (0, 4, 0, 0, [], []), (1, 0, 0, 2, [], []), (6, 0, 0, 0, [], []), (32, 0, 0, 0, [], []), (15, 0, 0, 0, [], []), (2, 156, 0, 4294967295, [], []), (10, 3, 0, 0, [], []), (10, 4, 0, 0, [], []), (43, 297, 1, 1, [(162, 0)], []), (18, 0, 877, 0, [], []), (1, 0, 0, 0, [], []), (48, 0, 0, 0, [], []), (0, 1, 2, 0, [], []), (43, 189, 0, 1, [(163, 0)], []), (0, 2, 2, 0, [], []), (43, 298, 0, 1, [(166, 0)], []), (18, 0, 877, 0, [], []), (1, 0, 0, 0, [], []), (48, 0, 0, 0, [], []), (0, 1, 2, 0, [], []), (43, 191, 0, 1, [(167, 0)], []), (0, 2, 2, 0, [], []), (43, 299, 0, 1, [(170, 0)], []), (18, 0, 877, 0, [], []), (1, 0, 0, 0, [], []), (48, 0, 0, 0, [], []), (0, 1, 2, 0, [], []), (43, 194, 0, 1, [(171, 0)], []), (0, 2, 2, 0, [], []), (43, 300, 0, 1, [(174, 0)], []), (18, 0, 877, 0, [], []), (1, 0, 0, 0, [], []), (48, 0, 0, 0, [], []), (0, 1, 2, 0, [], []), (0, 0, 2, 0, [], []), (0, 4, 0, 0, [], []), (1, 0, 0, 1, [], []), (6, 0, 0, 0, [], []), (32, 0, 0, 0, [], []), (43, 196, 1, 1, [(175, 0)], []), (0, 2, 2, 0, [], []), (0, 0, 2, 0, [], []), (0, 4, 0, 0, [], []), (1, 0, 0, 1, [], []), (6, 0, 0, 0, [], []), (32, 0, 0, 0, [], []), (43, 301, 1, 1, [(178, 0)], []), (18, 0, 877, 0, [], []), (1, 0, 0, 0, [], []), (48, 0, 0, 0, [], []), (5, 4, 0, 6, [], []), (22, 0, 13, 0, [], []), (1, 0, 0, 1, [], []), (48, 0, 0, 0, [], [])]
def ja_codes : List (List ja_I0) := [k_X_init, k_Tape_init, k_HuntReader_init, k_Hunt_init, k_WorthReader_init, k_Worths_init, k_Table_init, k_Past_init, k_Clock_init, k_OrderSearch_init, k_Finds_init, k_HelperCount_init, k_X_feed, k_Tape_bytesIn, k_Tape_hasRoom, k_Tape_add, k_Tape_length, k_X_end, k_Tape_cut, k_X_fault, k_HuntReader_read, k_Tape_rewind, k_Hunt_clear, k_HuntReader_readClause, k_Tape_nextSign, k_HuntReader_addClause, k_Hunt_addPlace, k_Hunt_addBand, k_Tape_pass, k_HuntReader_readItems, k_HuntReader_itemOf, k_HuntReader_readValue, k_Tape_takeNumber, k_Tape_isDigit, k_Tape_stepBack, k_Hunt_put, k_Tape_position, k_Hunt_isWhole, k_Tape_take, k_WorthReader_read, k_WorthReader_readClause, k_WorthReader_readCondition, k_WorthReader_readTruth, k_WorthReader_readUnit, k_WorthReader_readSum, k_WorthReader_readTerm, k_WorthReader_readAtom, k_Worths_letterOf, k_WorthReader_write, k_WorthReader_readComparison, k_WorthReader_isComparison, k_WorthReader_readMoreUnits, k_WorthReader_readMoreTruths, k_WorthReader_readWhatFollowsCondition, k_X_text, k_HuntReader_draft, k_Hunt_copyFrom, k_Table_reset, k_Hunt_places, k_Hunt_bands, k_Past_forget, k_Finds_forget, k_Worths_hasRoom, k_WorthReader_code, k_WorthReader_size, k_Worths_keep, k_X_band, k_Hunt_hasBand, k_Hunt_slow, k_Table_digitsOf, k_Table_placeOf, k_Hunt_hasPlace, k_Table_startOf, k_X_order, k_Table_isOrder, k_Past_remember, k_Past_keepOrders, k_Table_putOrder, k_Past_acts, k_X_start, k_Table_putStart, k_X_worth, k_Worths_hold, k_X_undo, k_Past_undoLatest, k_Past_bringOrders, k_X_at, k_X_follows, k_Table_timesFollowed, k_X_lawful, k_Hunt_isTold, k_Table_keepsTheLaw, k_Hunt_follow, k_Table_firstMeetingTurn, k_Table_firstMeetingPlace, k_Table_bandsAt, k_JInteger_bitCount, k_X_crowd, k_X_even, k_X_evenTurn, k_X_slips, k_Table_pairsOfPlaces, k_JLong_bitCount, k_X_well, k_Table_comerTo, k_X_sight, k_Table_timesSeen, k_Table_inOneLine, k_Hunt_x, k_Hunt_y, k_X_points, k_Clock_pointsOf, k_Clock_wayOf, k_Hunt_steps, k_Worths_valueOf, k_Worths_run, k_Worths_letterValue, k_Worths_join, k_Worths_joined, k_Worths_bounded, k_Hunt_stay, k_X_comes, k_Clock_minuteOf, k_X_home, k_Clock_minuteHome, k_X_clashes, k_Clock_clashingPairs, k_Clock_lookWhoComesWhen, k_Clock_clashOf, k_Clock_firstClash, k_X_starts, k_Clock_seekStarts, k_Clock_clashesByStarts, k_Clock_seekStartOf, k_Clock_startsApart, k_Clock_leastSum, k_Clock_leastRow, k_X_soonest, k_OrderSearch_seekSoonest, k_OrderSearch_goSoon, k_OrderSearch_keep, k_Clock_clashesThere, k_OrderSearch_bestOrder, k_OrderSearch_bestValue, k_X_rich, k_OrderSearch_seekRichest, k_OrderSearch_placesOfOthers, k_OrderSearch_goRich, k_X_find, k_Finds_hasRoom, k_Finds_add, k_X_fits, k_Finds_fittingOrders, k_Finds_waysThrough, k_X_tables, k_Finds_isSmall, k_Finds_howManyTables, k_Finds_seekTables, k_Finds_clearSearch, k_Finds_someAreLawful, k_Finds_fillIfItCanBe, k_Finds_shutWhereOthersMustBe, k_Finds_shutElsewhere, k_Finds_fill, k_Finds_keepTable, k_Finds_mayFollow, k_Finds_set, k_Finds_follow, k_Finds_unset, k_Finds_openWhatIsLeft, k_Finds_orderInTable, k_X_wrong, k_Table_followsGoneWrong, k_X_helpers, k_HelperCount_fewest, k_HelperCount_fillReach, k_HelperCount_oneMoveMore, k_HelperCount_gatherDuties, k_HelperCount_joinOneMore, k_HelperCount_lookFrom, k_HelperCount_canJoin, k_HelperCount_giveWay, k_X_pieces, k_X_howManySets, k_X_setByNumber, k_X_drawn, k_Table_drawOrders, k_Table_drawOrder, k_Table_nextDraw, k_X_image, k_Past_takeImage, k_X_back, k_Past_hasImage, k_Past_goBack, k_X_again, k_Past_likeImage, k_X_count, k_Worths_size, k_Worths_holding, k_Finds_size, k_R_init, k_R_thrown, k_R_feed, k_R_byteOf, k_R_end, k_R_fault, k_R_readHunt, k_R_look, k_R_here, k_R_placeText, k_R_has, k_R_number, k_R_isDigit, k_R_bad, k_R_in, k_R_bandText, k_R_lawText, k_R_readLaw, k_R_open, k_R_clause, k_R_condition, k_R_unit, k_R_opens, k_R_put, k_R_closes, k_R_sum, k_R_term, k_R_atom, k_R_plainNumber, k_R_letterOf, k_R_compare, k_R_isSign, k_R_goOnAnd, k_R_goOnOr, k_R_atEnd, k_R_text, k_R_takeHunt, k_R_place, k_R_isPlace, k_R_band, k_R_isBand, k_R_orderOf, k_R_of, k_R_order, k_R_isOrder, k_R_nth, k_R_ten, k_R_keep, k_R_write, k_R_start, k_R_worth, k_R_undo, k_R_at, k_R_follows, k_R_followsOf, k_R_lawful, k_R_isLawful, k_R_doMeet, k_R_crowd, k_R_bandsAt, k_R_even, k_R_slips, k_R_well, k_R_sight, k_R_comes, k_R_comesAt, k_R_ahead, k_R_steps, k_R_home, k_R_homeOf, k_R_points, k_R_pointsOf, k_R_worthOf, k_R_workOut, k_R_worked, k_R_bounded, k_R_clashes, k_R_clashOf, k_R_starts, k_R_soonest, k_R_layOrders, k_R_build, k_R_doesClash, k_R_rich, k_R_meetsAny, k_R_find, k_R_fits, k_R_agrees, k_R_tables, k_R_tablesFrom, k_R_goesWith, k_R_wrong, k_R_helpers, k_R_hop, k_R_match, k_R_pieces, k_R_choose, k_R_drawn, k_R_image, k_R_back, k_R_again, k_R_count, k_Law_law]
def ja_maxLs : List Nat := [1, 1, 2, 1, 2, 1, 2, 3, 3, 5, 2, 3, 7, 3, 2, 4, 1, 2, 2, 2, 2, 1, 1, 2, 1, 2, 1, 1, 1, 5, 2, 3, 4, 1, 1, 3, 1, 1, 2, 2, 2, 2, 2, 3, 4, 4, 5, 1, 2, 3, 1, 3, 3, 2, 2, 1, 2, 4, 1, 1, 1, 3, 1, 1, 1, 3, 3, 2, 2, 4, 3, 2, 2, 3, 6, 1, 3, 5, 1, 3, 3, 2, 2, 1, 1, 3, 3, 3, 5, 1, 1, 3, 1, 2, 3, 5, 1, 4, 4, 2, 1, 5, 2, 3, 6, 1, 5, 3, 2, 2, 2, 8, 4, 3, 6, 7, 2, 4, 3, 2, 1, 3, 7, 2, 3, 2, 4, 6, 8, 5, 3, 4, 8, 5, 5, 1, 1, 3, 2, 9, 3, 5, 1, 1, 3, 3, 4, 12, 5, 1, 5, 2, 2, 6, 3, 1, 1, 1, 3, 3, 3, 5, 6, 8, 2, 3, 4, 4, 5, 3, 3, 5, 8, 2, 4, 4, 6, 3, 4, 3, 4, 6, 5, 4, 5, 3, 4, 6, 2, 1, 2, 1, 1, 2, 1, 5, 2, 1, 1, 1, 1, 1, 9, 7, 2, 2, 4, 1, 1, 4, 2, 4, 1, 1, 3, 1, 4, 2, 2, 3, 1, 2, 1, 3, 2, 2, 2, 2, 3, 1, 2, 1, 1, 1, 1, 2, 3, 3, 2, 3, 2, 4, 3, 3, 4, 3, 3, 2, 4, 3, 2, 2, 3, 3, 5, 1, 4, 4, 4, 5, 5, 7, 6, 7, 3, 5, 3, 5, 2, 3, 2, 4, 3, 6, 5, 2, 7, 8, 12, 8, 1, 4, 3, 8, 3, 5, 4, 4, 4, 3, 3, 9, 5, 9, 3, 6, 4, 9, 2, 2, 4, 2, 7]
def ja_mclss : List Nat := [11, 8, 4, 3, 9, 10, 7, 6, 0, 5, 1, 2, 11, 8, 8, 8, 8, 11, 8, 11, 4, 8, 3, 4, 8, 4, 3, 3, 8, 4, 4, 4, 8, 8, 8, 3, 8, 3, 8, 9, 9, 9, 9, 9, 9, 9, 9, 10, 9, 9, 9, 9, 9, 9, 11, 4, 3, 7, 3, 3, 6, 1, 10, 9, 9, 10, 11, 3, 3, 7, 7, 3, 7, 11, 7, 6, 6, 7, 6, 11, 7, 11, 10, 11, 6, 6, 11, 11, 7, 11, 3, 7, 3, 7, 7, 7, 99, 11, 11, 11, 11, 7, 99, 11, 7, 11, 7, 7, 3, 3, 11, 0, 0, 3, 10, 10, 10, 10, 10, 10, 3, 11, 0, 11, 0, 11, 0, 0, 0, 0, 11, 0, 0, 0, 0, 0, 0, 11, 5, 5, 5, 0, 5, 5, 11, 5, 5, 5, 11, 1, 1, 11, 1, 1, 11, 1, 1, 1, 1, 1, 1, 1, 1, 1, 1, 1, 1, 1, 1, 1, 1, 11, 7, 11, 2, 2, 2, 2, 2, 2, 2, 2, 11, 11, 11, 11, 7, 7, 7, 11, 6, 11, 6, 6, 11, 6, 11, 10, 10, 1, 12, 12, 12, 12, 12, 12, 12, 12, 12, 12, 12, 12, 12, 12, 12, 12, 12, 12, 12, 12, 12, 12, 12, 12, 12, 12, 12, 12, 12, 12, 12, 12, 12, 12, 12, 12, 12, 12, 12, 12, 12, 12, 12, 12, 12, 12, 12, 12, 12, 12, 12, 12, 12, 12, 12, 12, 12, 12, 12, 12, 12, 12, 12, 12, 12, 12, 12, 12, 12, 12, 12, 12, 12, 12, 12, 12, 12, 12, 12, 12, 12, 12, 12, 12, 12, 12, 12, 12, 12, 12, 12, 12, 12, 12, 12, 12, 12, 12, 12, 12, 12, 12, 99]
end
section
/-! THE SMALL MACHINE: bytecode over cells of whole numbers. Values: ints, longs, references (0: null, k: the k-th cell that is made) -/
abbrev ja_V : Type := Int ⊕ (Int ⊕ Nat)
abbrev ja_M : Type := Nat → Nat → Int
abbrev ja_L : Type := List (Option ja_V)
abbrev ja_R : Type := Option ja_V × ja_M
abbrev ja_E : Type := Nat → List ja_V → ja_M → Option ja_R
abbrev ja_K : Type := Nat → ja_L → List ja_V → ja_M → Option ja_R
/-- a row of code: its number, a small number, a target, a number, a switch's rows, the locals that live there (none: no loop's head) -/
abbrev ja_I : Type := Nat × Nat × Nat × Int × List (Int × Nat) × List Bool
abbrev ji (x : Int) : ja_V := .inl x
abbrev jl (x : Int) : ja_V := .inr (.inl x)
abbrev jr (k : Nat) : ja_V := .inr (.inr k)
def ja_w (z : Int) : Int := z.bmod 4294967296
def ja_W (z : Int) : Int := z.bmod 18446744073709551616
def ja_nth {α : Type} : List α → Nat → α → α
  | [], _, d => d
  | x :: _, 0, _ => x
  | _ :: xs, n + 1, d => ja_nth xs n d
def ja_mask : List Bool → ja_L → ja_L
  | [], L => L
  | _ :: _, [] => []
  | b :: bs, x :: L => (bif b then x else none) :: ja_mask bs L
/-- memory, with v at the place i of the cell c -/
def ja_up (M : ja_M) (c i : Nat) (v : Int) : ja_M := fun d j => if d = c ∧ j = i then v else M d j
def ja_kd (c : Nat) : Nat × Nat := ja_nth ja_kdL c (0, 0)
def ja_pp (c i : Nat) : Nat := ja_nth (ja_nth ja_ppL c []) i 0
def ja_mut (c i : Nat) : Bool := Nat.beq c ja_cF && Nat.beq i ja_sF
def ja_rd (φ : Bool) (M : ja_M) (c i : Nat) : Nat := bif φ && !(ja_mut c i) then ja_pp c i else if M c i = 0 then 0 else ja_pp c i
def ja_okc (φ : Bool) (M : ja_M) (c : Nat) : Bool := bif φ && (Nat.ble 1 c && Nat.ble c ja_N0) then true else Nat.ble 1 c && Nat.ble c (M 0 0).toNat
def ja_and (x y : Int) : Int := (Int32.ofInt x &&& Int32.ofInt y).toInt
def ja_or (x y : Int) : Int := (Int32.ofInt x ||| Int32.ofInt y).toInt
def ja_xor (x y : Int) : Int := (Int32.ofInt x ^^^ Int32.ofInt y).toInt
def ja_shl (x y : Int) : Int := (Int32.ofInt x <<< (Int32.ofInt y &&& 31)).toInt
def ja_shr (x y : Int) : Int := (Int32.ofInt x >>> (Int32.ofInt y &&& 31)).toInt
def ja_ush (x y : Int) : Int := ((Int32.ofInt x).toUInt32 >>> ((Int32.ofInt y).toUInt32 &&& Int32.toUInt32 31)).toInt32.toInt
def ja_land (x y : Int) : Int := (Int64.ofInt x &&& Int64.ofInt y).toInt
def ja_lor (x y : Int) : Int := (Int64.ofInt x ||| Int64.ofInt y).toInt
def ja_lshl (x y : Int) : Int := (Int64.ofInt x <<< ((Int32.ofInt y).toInt64 &&& 63)).toInt
def ja_lush (x y : Int) : Int := ((Int64.ofInt x).toUInt64 >>> ((Int32.ofInt y).toInt64.toUInt64 &&& Int64.toUInt64 63)).toInt64.toInt
def ja_ib (a : Nat) (x y : Int) : Int := match a with
  | 0 => ja_w (x + y)
  | 1 => ja_w (x - y)
  | 2 => ja_w (x * y)
  | 3 => ja_and x y
  | 4 => ja_or x y
  | 5 => ja_xor x y
  | 6 => ja_shl x y
  | 7 => ja_shr x y
  | _ => ja_ush x y
def ja_lb (a : Nat) (x y : Int) : Int := match a with
  | 0 => ja_W (x + y)
  | 1 => ja_W (x - y)
  | 2 => ja_W (x * y)
  | 3 => ja_land x y
  | _ => ja_lor x y
def ja_cmp {α : Type} (a : Nat) (x y : Int) (t f : α) : α := match a with
  | 0 => if x = y then t else f
  | 1 => if x = y then f else t
  | 2 => if x < y then t else f
  | 3 => if x < y then f else t
  | 4 => if y < x then t else f
  | _ => if y < x then f else t
def ja_sw {α : Type} (x : Int) (k : Nat → α) (n : Nat) : List (Int × Nat) → α
  | [] => k n
  | (a, t) :: r => if x = a then k t else ja_sw x k n r
/-- a long at k - 1 goes when k is written -/
def ja_kl (L : ja_L) : Nat → ja_L
  | 0 => L
  | k + 1 => match L[k]? with
    | some (some (.inr (.inl _))) => L.set k none
    | _ => L
def ja_set1 (L : ja_L) (k : Nat) (v : ja_V) : ja_L := (ja_kl L k).set k (some v)
def ja_set2 (L : ja_L) (k : Nat) (v : ja_V) : ja_L := ((ja_kl L k).set k (some v)).set (k + 1) none
def ja_cat : ja_V → Nat
  | .inr (.inl _) => 2
  | _ => 1
def ja_kind : ja_V → Nat
  | .inl _ => 0
  | .inr (.inl _) => 1
  | .inr (.inr _) => 2
def ja_sz : List ja_V → Nat
  | [] => 0
  | v :: S => ja_cat v + ja_sz S
/-- the greatest cell that a value may name across a call -/
def ja_lim (φ : Bool) (M : ja_M) : Nat := bif φ then ja_N0 else (M 0 0).toNat
def ja_refok (φ : Bool) (M : ja_M) : ja_V → Bool
  | .inr (.inr k) => Nat.ble k (ja_lim φ M) || Nat.ble ja_RO k
  | _ => true
def ja_refsS (φ : Bool) (M : ja_M) : List ja_V → Bool
  | [] => true
  | v :: S => ja_refok φ M v && ja_refsS φ M S
def ja_refsL (φ : Bool) (M : ja_M) : ja_L → Bool
  | [] => true
  | none :: L => ja_refsL φ M L
  | some v :: L => ja_refok φ M v && ja_refsL φ M L
/-- what a call's answer is: none, an int, a long, a reference -/
def ja_bV (o : Option ja_R) (k : ja_M → Option ja_R) : Option ja_R := match o with
  | some (none, M) => k M
  | _ => none
def ja_bI (o : Option ja_R) (k : Int → ja_M → Option ja_R) : Option ja_R := match o with
  | some (some (.inl x), M) => k x M
  | _ => none
def ja_bL (o : Option ja_R) (k : Int → ja_M → Option ja_R) : Option ja_R := match o with
  | some (some (.inr (.inl x)), M) => k x M
  | _ => none
def ja_bR (o : Option ja_R) (k : Nat → ja_M → Option ja_R) : Option ja_R := match o with
  | some (some (.inr (.inr x)), M) => k x M
  | _ => none
/-- the call's answer on the stack, by its kind -/
def ja_back (b : Nat) (o : Option ja_R) (i : Nat) (L : ja_L) (S : List ja_V) (κ : ja_K) : Option ja_R := match b with
  | 0 => ja_bV o (fun M => κ (i + 1) L S M)
  | 1 => ja_bI o (fun x M => κ (i + 1) L (ji x :: S) M)
  | 2 => ja_bL o (fun x M => κ (i + 1) L (jl x :: S) M)
  | _ => ja_bR o (fun x M => κ (i + 1) L (jr x :: S) M)
/-- the list's spine first -/
def ja_fc : ja_L → (ja_L → Option ja_R) → Option ja_R
  | [], k => k []
  | x :: L, k => ja_fc L (fun L' => k (x :: L'))
def ja_code (y : Nat) : List ja_I := ja_nth ja_codes y []
def ja_maxL (y : Nat) : Nat := ja_nth ja_maxLs y 0
def ja_mcls (y : Nat) : Nat := ja_nth ja_mclss y 98
def ja_is0 : Int → Bool
  | .ofNat 0 => true
  | _ => false
def ja_isB : Int → Bool
  | .ofNat 0 => true
  | .ofNat 1 => true
  | _ => false
/-- the int at j of an array of ints; of a static one; of the script -/
def ja_ald (φ : Bool) (M : ja_M) (c : Nat) (j : Int) (k : Int → Option ja_R) : Option ja_R := cond (Nat.beq (ja_kd c).1 100)
      (cond (ja_okc φ M c) (if 0 ≤ j ∧ j < ((ja_kd c).2 : Int) then k (M c j.toNat) else none) none)
      (cond (Nat.beq (ja_kd c).1 110) (if 0 ≤ j ∧ j < 5 then k (ja_ro c j.toNat) else none)
        (cond (Nat.beq (ja_kd c).1 111) (if 0 ≤ j ∧ j < M 0 4 then k (M c j.toNat) else none) none))
def ja_ast (φ : Bool) (M : ja_M) (c : Nat) (j v : Int) (k : ja_M → Option ja_R) : Option ja_R := cond (ja_okc φ M c && Nat.beq (ja_kd c).1 100)
      (if 0 ≤ j ∧ j < ((ja_kd c).2 : Int) then k (ja_up M c j.toNat v) else none) none
def ja_aln (φ : Bool) (M : ja_M) (c : Nat) (k : Int → Option ja_R) : Option ja_R := cond (Nat.beq (ja_kd c).1 111) (k (M 0 4))
      (cond (ja_okc φ M c && (Nat.ble 100 (ja_kd c).1 && Nat.ble (ja_kd c).1 103)) (k ((ja_kd c).2 : Int)) none)
def ja_ckV (φ : Bool) (M : ja_M) (c y : Nat) (S' : List ja_V) (L : ja_L) (S : List ja_V) : Bool := ja_okc φ M c && (Nat.beq (ja_kd c).1 (ja_mcls y) && (Nat.ble (ja_sz S') 8 && (ja_refsL φ M L && ja_refsS φ M S)))
def ja_ckS (φ : Bool) (M : ja_M) (n : Nat) (L : ja_L) (S : List ja_V) : Bool := Nat.ble n S.length && (Nat.ble (ja_sz (S.drop n)) 8 && (ja_refsL φ M L && ja_refsS φ M S))
def ja_ckI (φ : Bool) (M : ja_M) (c : Nat) (S' : List ja_V) (L : ja_L) (S : List ja_V) : Bool := Nat.ble 1 c && (Nat.ble (ja_sz S') 8 && (ja_refsL φ M L && ja_refsS φ M S))
def ja_ckC (φ : Bool) (M : ja_M) (s d : Nat) (S : List ja_V) : Bool := ja_okc φ M d && (Nat.beq (ja_kd d).1 100 && (ja_okc φ M s && (Nat.beq (ja_kd s).1 100 && Nat.ble (ja_sz S) 8)))
abbrev ja_H : Type := Bool → ja_E → ja_I → Nat → ja_L → List ja_V → ja_M → ja_K → Option ja_R
def jh_load : ja_H := fun _ _ a i L S M κ => match L[a.2.1]? with
  | some (some v) => cond (Nat.beq (ja_kind v) a.2.2.1) (κ (i + 1) L (v :: S) M) none
  | _ => none
def jh_ipush : ja_H := fun _ _ a i L S M κ => κ (i + 1) L (ji a.2.2.2.1 :: S) M
def jh_lpush : ja_H := fun _ _ a i L S M κ => κ (i + 1) L (jl a.2.2.2.1 :: S) M
def jh_st1 : ja_H := fun _ _ a i L S M κ => match S with
  | .inl x :: S => cond (Nat.blt a.2.1 L.length && Nat.beq a.2.2.1 0) (ja_fc (ja_set1 L a.2.1 (ji x)) (fun L => κ (i + 1) L S M)) none
  | .inr (.inr x) :: S => cond (Nat.blt a.2.1 L.length && Nat.beq a.2.2.1 2) (ja_fc (ja_set1 L a.2.1 (jr x)) (fun L => κ (i + 1) L S M)) none
  | _ => none
def jh_st2 : ja_H := fun _ _ a i L S M κ => match S with
  | .inr (.inl x) :: S => cond (Nat.blt (a.2.1 + 1) L.length) (ja_fc (ja_set2 L a.2.1 (jl x)) (fun L => κ (i + 1) L S M)) none
  | _ => none
def jh_iinc : ja_H := fun _ _ a i L S M κ => match L[a.2.1]? with
  | some (some (.inl x)) => ja_fc (ja_set1 L a.2.1 (ji (ja_w (x + a.2.2.2.1)))) (fun L => κ (i + 1) L S M)
  | _ => none
def jh_ibin : ja_H := fun _ _ a i L S M κ => match S with
  | .inl y :: .inl x :: S => κ (i + 1) L (ji (ja_ib a.2.1 x y) :: S) M
  | _ => none
def jh_idiv : ja_H := fun _ _ _ i L S M κ => match S with
  | .inl y :: .inl x :: S => cond (ja_is0 y) none (κ (i + 1) L (ji (ja_w (x.tdiv y)) :: S) M)
  | _ => none
def jh_irem : ja_H := fun _ _ _ i L S M κ => match S with
  | .inl y :: .inl x :: S => cond (ja_is0 y) none (κ (i + 1) L (ji (x.tmod y) :: S) M)
  | _ => none
def jh_ineg : ja_H := fun _ _ _ i L S M κ => match S with
  | .inl x :: S => κ (i + 1) L (ji (ja_w (-x)) :: S) M
  | _ => none
def jh_lbin : ja_H := fun _ _ a i L S M κ => match S with
  | .inr (.inl y) :: .inr (.inl x) :: S => κ (i + 1) L (jl (ja_lb a.2.1 x y) :: S) M
  | _ => none
def jh_ldiv : ja_H := fun _ _ _ i L S M κ => match S with
  | .inr (.inl y) :: .inr (.inl x) :: S => cond (ja_is0 y) none (κ (i + 1) L (jl (ja_W (x.tdiv y)) :: S) M)
  | _ => none
def jh_lrem : ja_H := fun _ _ _ i L S M κ => match S with
  | .inr (.inl y) :: .inr (.inl x) :: S => cond (ja_is0 y) none (κ (i + 1) L (jl (x.tmod y) :: S) M)
  | _ => none
def jh_lshl : ja_H := fun _ _ _ i L S M κ => match S with
  | .inl y :: .inr (.inl x) :: S => κ (i + 1) L (jl (ja_lshl x y) :: S) M
  | _ => none
def jh_lush : ja_H := fun _ _ _ i L S M κ => match S with
  | .inl y :: .inr (.inl x) :: S => κ (i + 1) L (jl (ja_lush x y) :: S) M
  | _ => none
def jh_i2l : ja_H := fun _ _ _ i L S M κ => match S with
  | .inl x :: S => κ (i + 1) L (jl x :: S) M
  | _ => none
def jh_l2i : ja_H := fun _ _ _ i L S M κ => match S with
  | .inr (.inl x) :: S => κ (i + 1) L (ji (ja_w x) :: S) M
  | _ => none
def jh_lcmp : ja_H := fun _ _ _ i L S M κ => match S with
  | .inr (.inl y) :: .inr (.inl x) :: S => κ (i + 1) L (ji (if x < y then -1 else if x = y then 0 else 1) :: S) M
  | _ => none
def jh_icmp : ja_H := fun _ _ a i L S M κ => match S with
  | .inl y :: .inl x :: S => ja_cmp a.2.1 x y (κ a.2.2.1 L S M) (κ (i + 1) L S M)
  | _ => none
def jh_ifz : ja_H := fun _ _ a i L S M κ => match S with
  | .inl x :: S => ja_cmp a.2.1 x 0 (κ a.2.2.1 L S M) (κ (i + 1) L S M)
  | _ => none
def jh_ifnull : ja_H := fun _ _ a i L S M κ => match S with
  | .inr (.inr r) :: S => if r = 0 then κ a.2.2.1 L S M else κ (i + 1) L S M
  | _ => none
def jh_ifnon : ja_H := fun _ _ a i L S M κ => match S with
  | .inr (.inr r) :: S => if r = 0 then κ (i + 1) L S M else κ a.2.2.1 L S M
  | _ => none
def jh_goto : ja_H := fun _ _ a _ L S M κ => κ a.2.2.1 L S M
def jh_switch : ja_H := fun _ _ a _ L S M κ => match S with
  | .inl x :: S => ja_sw x (fun t => κ t L S M) a.2.2.1 a.2.2.2.2.1
  | _ => none
def jh_getI : ja_H := fun φ _ a i L S M κ => match S with
  | .inr (.inr c) :: S => cond (ja_okc φ M c && Nat.beq (ja_kd c).1 a.2.1) (κ (i + 1) L (ji (M c a.2.2.1) :: S) M) none
  | _ => none
def jh_getL : ja_H := fun φ _ a i L S M κ => match S with
  | .inr (.inr c) :: S => cond (ja_okc φ M c && Nat.beq (ja_kd c).1 a.2.1) (κ (i + 1) L (jl (M c a.2.2.1) :: S) M) none
  | _ => none
def jh_getR : ja_H := fun φ _ a i L S M κ => match S with
  | .inr (.inr c) :: S => cond (ja_okc φ M c && Nat.beq (ja_kd c).1 a.2.1) (κ (i + 1) L (jr (ja_rd φ M c a.2.2.1) :: S) M) none
  | _ => none
def jh_putI : ja_H := fun φ _ a i L S M κ => match S with
  | .inl v :: .inr (.inr c) :: S => cond (ja_okc φ M c && Nat.beq (ja_kd c).1 a.2.1) (κ (i + 1) L S (ja_up M c a.2.2.1 v)) none
  | _ => none
def jh_putZ : ja_H := fun φ _ a i L S M κ => match S with
  | .inl v :: .inr (.inr c) :: S => cond (ja_okc φ M c && Nat.beq (ja_kd c).1 a.2.1) (cond (ja_isB v) (κ (i + 1) L S (ja_up M c a.2.2.1 v)) none) none
  | _ => none
def jh_putL : ja_H := fun φ _ a i L S M κ => match S with
  | .inr (.inl v) :: .inr (.inr c) :: S => cond (ja_okc φ M c && Nat.beq (ja_kd c).1 a.2.1) (κ (i + 1) L S (ja_up M c a.2.2.1 v)) none
  | _ => none
def jh_putR : ja_H := fun φ _ a i L S M κ => match S with
  | .inr (.inr r) :: .inr (.inr c) :: S => cond (ja_okc φ M c && (Nat.beq (ja_kd c).1 a.2.1 && (Nat.beq r (ja_pp c a.2.2.1) && (ja_okc φ M r && (!φ || ja_mut c a.2.2.1))))) (κ (i + 1) L S (ja_up M c a.2.2.1 1)) none
  | _ => none
def jh_static : ja_H := fun _ _ a i L S M κ => κ (i + 1) L (jr a.2.1 :: S) M
def jh_iald : ja_H := fun φ _ _ i L S M κ => match S with
  | .inl j :: .inr (.inr c) :: S => ja_ald φ M c j (fun v => κ (i + 1) L (ji v :: S) M)
  | _ => none
def jh_bald : ja_H := fun φ _ _ i L S M κ => match S with
  | .inl j :: .inr (.inr c) :: S => cond (ja_okc φ M c && Nat.beq (ja_kd c).1 101) (if 0 ≤ j ∧ j < ((ja_kd c).2 : Int) then κ (i + 1) L (ji (M c j.toNat) :: S) M else none) none
  | _ => none
def jh_lald : ja_H := fun φ _ _ i L S M κ => match S with
  | .inl j :: .inr (.inr c) :: S => cond (ja_okc φ M c && Nat.beq (ja_kd c).1 102) (if 0 ≤ j ∧ j < ((ja_kd c).2 : Int) then κ (i + 1) L (jl (M c j.toNat) :: S) M else none) none
  | _ => none
def jh_aald : ja_H := fun φ _ _ i L S M κ => match S with
  | .inl j :: .inr (.inr c) :: S => cond (ja_okc φ M c && Nat.beq (ja_kd c).1 103) (if 0 ≤ j ∧ j < ((ja_kd c).2 : Int) then κ (i + 1) L (jr (c + 1 + j.toNat) :: S) M else none) none
  | _ => none
def jh_iast : ja_H := fun φ _ _ i L S M κ => match S with
  | .inl v :: .inl j :: .inr (.inr c) :: S => ja_ast φ M c j v (fun M => κ (i + 1) L S M)
  | _ => none
def jh_bast : ja_H := fun φ _ _ i L S M κ => match S with
  | .inl v :: .inl j :: .inr (.inr c) :: S => cond (ja_okc φ M c && Nat.beq (ja_kd c).1 101) (if 0 ≤ j ∧ j < ((ja_kd c).2 : Int) then (cond (ja_isB v) (κ (i + 1) L S (ja_up M c j.toNat v)) none) else none) none
  | _ => none
def jh_last : ja_H := fun φ _ _ i L S M κ => match S with
  | .inr (.inl v) :: .inl j :: .inr (.inr c) :: S => cond (ja_okc φ M c && Nat.beq (ja_kd c).1 102) (if 0 ≤ j ∧ j < ((ja_kd c).2 : Int) then κ (i + 1) L S (ja_up M c j.toNat v) else none) none
  | _ => none
def jh_alen : ja_H := fun φ _ _ i L S M κ => match S with
  | .inr (.inr c) :: S => ja_aln φ M c (fun v => κ (i + 1) L (ji v :: S) M)
  | _ => none
/-- n cells more, of w slots in all; the new cells hold 0 -/
def ja_grow (M : ja_M) (n w : Nat) : ja_M := fun c i => if c = 0 then (match i with
    | 0 => M 0 0 + n
    | 1 => M 0 1 + n
    | 2 => M 0 2 + w
    | i => M 0 i) else if (M 0 0).toNat < c ∧ c ≤ (M 0 0).toNat + n then 0 else M c i
/-- the next cell -/
def ja_nx (φ : Bool) (M : ja_M) : Nat := bif φ then ja_N0 + 1 else (M 0 0).toNat + 1
def ja_new1 (φ : Bool) (M : ja_M) (kind n : Nat) (L : ja_L) (S : List ja_V) : Bool :=
  Nat.beq (ja_kd (ja_nx φ M)).1 kind && (Nat.beq (ja_kd (ja_nx φ M)).2 n && (Nat.ble n 5000 && ((bif φ then Nat.beq (M 0 0).toNat ja_N0 && decide (M ja_cF ja_sF = 0) else true) && (ja_refsL φ M L && ja_refsS φ M S))))
def jh_new : ja_H := fun φ _ a i L S M κ => cond (!φ && ja_new1 φ M a.2.1 a.2.2.1 L S) (κ (i + 1) L (jr ((M 0 0).toNat + 1) :: S) (ja_grow M 1 a.2.2.1)) none
def jh_newa : ja_H := fun φ _ a i L S M κ => match S with
  | .inl n :: S => cond (decide (0 ≤ n) && ja_new1 φ M a.2.1 n.toNat L S) (κ (i + 1) L (jr (ja_nx φ M) :: S) (ja_grow M 1 n.toNat)) none
  | _ => none
def ja_rowsok (c k : Nat) : Nat → Bool
  | 0 => true
  | n + 1 => Nat.beq (ja_kd (c + n + 1)).1 100 && (Nat.beq (ja_kd (c + n + 1)).2 k && ja_rowsok c k n)
def jh_newm : ja_H := fun φ _ _ i L S M κ => match S with
  | .inl k :: .inl n :: S => cond (!φ && (decide (0 ≤ n) && (decide (0 ≤ k) && (decide (k ≤ 5000) && (ja_new1 φ M 103 n.toNat L S && ja_rowsok ((M 0 0).toNat + 1) k.toNat n.toNat))))) (κ (i + 1) L (jr ((M 0 0).toNat + 1) :: S) (ja_grow M (1 + n.toNat) (n.toNat + n.toNat * k.toNat))) none
  | _ => none
def jh_callV : ja_H := fun φ E a i L S M κ => match S.drop a.2.2.1 with
  | .inr (.inr c) :: S' => cond (ja_ckV φ M c a.2.1 S' L S) (ja_back a.2.2.2.1.toNat (E a.2.1 (jr c :: (S.take a.2.2.1).reverse) M) i L S' κ) none
  | _ => none
def jh_callS : ja_H := fun φ E a i L S M κ => cond (ja_ckS φ M a.2.2.1 L S) (ja_back a.2.2.2.1.toNat (E a.2.1 (S.take a.2.2.1).reverse M) i L (S.drop a.2.2.1) κ) none
def jh_callI : ja_H := fun φ E a i L S M κ => match S.drop a.2.2.1 with
  | .inr (.inr c) :: S' => cond (ja_ckI φ M c S' L S) (ja_back 0 (E a.2.1 (jr c :: (S.take a.2.2.1).reverse) M) i L S' κ) none
  | _ => none
def jh_objI : ja_H := fun _ _ _ i L S M κ => match S with
  | .inr (.inr c) :: S => cond (Nat.ble 1 c && Nat.ble (ja_sz S) 8) (κ (i + 1) L S M) none
  | _ => none
def jh_iret : ja_H := fun _ _ _ _ _ S M _ => match S with
  | [.inl v] => some (some (ji v), M)
  | _ => none
def jh_zret : ja_H := fun _ _ _ _ _ S M _ => match S with
  | [.inl v] => cond (ja_isB v) (some (some (ji v), M)) none
  | _ => none
def jh_lret : ja_H := fun _ _ _ _ _ S M _ => match S with
  | [.inr (.inl v)] => some (some (jl v), M)
  | _ => none
def jh_aret : ja_H := fun φ _ _ _ _ S M _ => match S with
  | [.inr (.inr v)] => cond (Nat.ble v (ja_lim φ M)) (some (some (jr v), M)) none
  | _ => none
def jh_vret : ja_H := fun _ _ _ _ _ S M _ => match S with
  | [] => some (none, M)
  | _ => none
def jh_dup : ja_H := fun _ _ _ i L S M κ => match S with
  | .inl x :: S => κ (i + 1) L (ji x :: ji x :: S) M
  | .inr (.inr x) :: S => κ (i + 1) L (jr x :: jr x :: S) M
  | _ => none
def jh_dup2 : ja_H := fun _ _ _ i L S M κ => match S with
  | .inl x :: .inl y :: S => κ (i + 1) L (ji x :: ji y :: ji x :: ji y :: S) M
  | .inl x :: .inr (.inr y) :: S => κ (i + 1) L (ji x :: jr y :: ji x :: jr y :: S) M
  | _ => none
def jh_pop : ja_H := fun _ _ _ i L S M κ => match S with
  | .inl _ :: S => κ (i + 1) L S M
  | .inr (.inr _) :: S => κ (i + 1) L S M
  | _ => none
def ja_cpy (M : ja_M) (s sp d dp n : Nat) : ja_M := fun c i => if c = d ∧ dp ≤ i ∧ i < dp + n then M s (sp + (i - dp)) else M c i
def jh_copy : ja_H := fun φ _ _ i L S M κ => match S with
  | .inl n :: .inl dp :: .inr (.inr d) :: .inl sp :: .inr (.inr s) :: S => cond (ja_ckC φ M s d S) (if 0 ≤ n ∧ 0 ≤ dp ∧ 0 ≤ sp ∧ sp + n ≤ ((ja_kd s).2 : Int) ∧ dp + n ≤ ((ja_kd d).2 : Int) then κ (i + 1) L S (ja_cpy M s sp.toNat d dp.toNat n.toNat) else none) none
  | _ => none
/-- HuntTableLaw.place: what HuntTable.place would answer goes to the long, or 1 for what it throws -/
def jh_place : ja_H := fun φ _ _ i L S M κ => match S with
  | .inr (.inr o) :: .inl w :: .inl p :: .inr (.inr x) :: S => cond (φ && (Nat.beq x 1 && (Nat.beq o ja_cO && (Nat.ble (ja_sz S) 8 && (ja_refsL φ M L && ja_refsS φ M S))))) (if (0 ≤ p ∧ p < M ja_cH 3) ∧ (0 ≤ w ∧ w ≤ 1) then (if M ja_cH 3 ≤ 6 then κ (i + 1) L (ji 0 :: S) (ja_up M ja_cO 0 (if w = 0 then M ja_cX p.toNat else M ja_cY p.toNat)) else none) else κ (i + 1) L (ji 1 :: S) (ja_up (ja_up M 0 1 (M 0 1 + 1)) 0 2 (M 0 2 + 6))) none
  | _ => none
def ja_max (x y : Int) : Int := if x < y then y else x
def ja_min (x y : Int) : Int := if y < x then y else x
def ja_abs (x : Int) : Int := if 0 ≤ x then x else ja_w (0 - x)
def jh_mmax : ja_H := fun _ _ _ i L S M κ => match S with
  | .inl y :: .inl x :: S => cond (Nat.ble (ja_sz S) 8) (κ (i + 1) L (ji (ja_max x y) :: S) M) none
  | _ => none
def jh_mmin : ja_H := fun _ _ _ i L S M κ => match S with
  | .inl y :: .inl x :: S => cond (Nat.ble (ja_sz S) 8) (κ (i + 1) L (ji (ja_min x y) :: S) M) none
  | _ => none
def jh_mabs : ja_H := fun _ _ _ i L S M κ => match S with
  | .inl x :: S => cond (Nat.ble (ja_sz S) 8) (κ (i + 1) L (ji (ja_abs x) :: S) M) none
  | _ => none
def jh_lmax : ja_H := fun _ _ _ i L S M κ => match S with
  | .inr (.inl y) :: .inr (.inl x) :: S => cond (Nat.ble (ja_sz S) 8) (κ (i + 1) L (jl (ja_max x y) :: S) M) none
  | _ => none
def jh_lmin : ja_H := fun _ _ _ i L S M κ => match S with
  | .inr (.inl y) :: .inr (.inl x) :: S => cond (Nat.ble (ja_sz S) 8) (κ (i + 1) L (jl (ja_min x y) :: S) M) none
  | _ => none
def ja_hs : List ja_H := [jh_load, jh_ipush, jh_lpush, jh_st1, jh_st2, jh_iinc, jh_ibin, jh_idiv, jh_irem, jh_ineg, jh_lbin, jh_ldiv, jh_lrem, jh_lshl, jh_lush, jh_i2l, jh_l2i, jh_lcmp, jh_icmp, jh_ifz, jh_ifnull, jh_ifnon, jh_goto, jh_switch, jh_getI, jh_getL, jh_getR, jh_putI, jh_putZ, jh_putL, jh_putR, jh_static, jh_iald, jh_bald, jh_lald, jh_aald, jh_iast, jh_bast, jh_last, jh_alen, jh_new, jh_newa, jh_newm, jh_callV, jh_callS, jh_callI, jh_objI, jh_iret, jh_zret, jh_lret, jh_aret, jh_vret, jh_dup, jh_dup2, jh_pop, jh_copy, jh_place, jh_mmax, jh_mmin, jh_mabs, jh_lmax, jh_lmin]
def jh_none : ja_H := fun _ _ _ _ _ _ _ _ => none
def ja_h (φ : Bool) (E : ja_E) (a : ja_I) : Nat → ja_L → List ja_V → ja_M → ja_K → Option ja_R := ja_nth ja_hs a.1 jh_none φ E a
def ja_row0 : ja_I := (1000, 0, 0, 0, [], [])
def ja_step (φ : Bool) (E : ja_E) (c : List ja_I) (κ : ja_K) : ja_K := fun i L S M => match ja_nth c i ja_row0 with
  | (o, a, n, b, t, ms) => ja_fc (ja_mask ms L) (fun L => ja_h φ E (o, a, n, b, t, ms) i L S M κ)
def ja_it (φ : Bool) (E : ja_E) (c : List ja_I) : Nat → ja_K
  | 0 => fun _ _ _ _ => none
  | n + 1 => ja_step φ E c (ja_it φ E c n)
noncomputable def ja_ever {α : Type} (f : Nat → Option α) : Option α := @dite (Option α) (∃ n, (f n).isSome = true) (Classical.propDecidable _) (fun h => f (Classical.choose h)) (fun _ => none)
noncomputable def ja_D (φ : Bool) (E : ja_E) (c : List ja_I) : ja_K := fun i L S M => ja_ever (fun n => ja_it φ E c n i L S M)
/-- to the next loop's head, k steps at most -/
def ja_goB (φ : Bool) (E : ja_E) (κ : ja_K) (i : Nat) (L : ja_L) (S : List ja_V) (M : ja_M) (nx : ja_K) : ja_I → Option ja_R
  | (o, a, n, b, t, []) => ja_h φ E (o, a, n, b, t, []) i L S M nx
  | (_, _, _, _, _, b :: bs) => ja_fc (ja_mask (b :: bs) L) (fun L => κ i L S M)
def ja_go (φ : Bool) (E : ja_E) (c : List ja_I) (κ : ja_K) : Nat → ja_K
  | 0 => κ
  | k + 1 => fun i L S M => ja_goB φ E κ i L S M (ja_go φ E c κ k) (ja_nth c i ja_row0)
def ja_argL : List ja_V → ja_L
  | [] => []
  | .inr (.inl x) :: r => some (jl x) :: none :: ja_argL r
  | v :: r => some v :: ja_argL r
def ja_pad : Nat → ja_L → ja_L
  | n, [] => List.replicate n none
  | 0, x :: L => x :: L
  | n + 1, x :: L => x :: ja_pad n L
noncomputable def ja_x (φ : Bool) : Nat → ja_E
  | 0 => fun _ _ _ => none
  | d + 1 => fun y as M => cond (Nat.ble (ja_argL as).length (ja_maxL y)) (ja_D φ (ja_x φ d) (ja_code y) 0 (ja_pad (ja_maxL y) (ja_argL as)) [] M) none
end
section
/-! each row of the small machine either ends or goes on at ONE state, whatever goes on there -/
def ja_T (g : ja_K → Option ja_R) : Prop := (∃ o, ∀ κ, g κ = o) ∨ (∃ i L S M, ∀ κ, g κ = κ i L S M)
theorem ja_To (o : Option ja_R) : ja_T (fun _ => o) := Or.inl ⟨o, fun _ => rfl⟩
theorem ja_Tk (i : Nat) (L : ja_L) (S : List ja_V) (M : ja_M) : ja_T (fun κ => κ i L S M) := Or.inr ⟨i, L, S, M, fun _ => rfl⟩
theorem ja_Ti {p : Prop} [h : Decidable p] {f g : ja_K → Option ja_R} (hf : ja_T f) (hg : ja_T g) : ja_T (fun κ => if p then f κ else g κ) := by
  cases h with
  | isTrue h => simpa only [h, if_true] using hf
  | isFalse h => simpa only [h, if_false] using hg
theorem ja_Tc (b : Bool) {f g : ja_K → Option ja_R} (hf : ja_T f) (hg : ja_T g) : ja_T (fun κ => cond b (f κ) (g κ)) := by
  cases b
  · exact hg
  · exact hf
theorem ja_Tcmp (a : Nat) (x y : Int) {f g : ja_K → Option ja_R} (hf : ja_T f) (hg : ja_T g) : ja_T (fun κ => ja_cmp a x y (f κ) (g κ)) := by
  rcases a with _ | _ | _ | _ | _ | a
  · exact ja_Ti hf hg
  · exact ja_Ti hg hf
  · exact ja_Ti hf hg
  · exact ja_Ti hg hf
  · exact ja_Ti hf hg
  · exact ja_Ti hg hf
theorem ja_Tsw (x : Int) (L : ja_L) (S : List ja_V) (M : ja_M) (n : Nat) : ∀ ts : List (Int × Nat), ja_T (fun κ => ja_sw x (fun t => κ t L S M) n ts)
  | [] => ja_Tk n L S M
  | (_, t) :: r => ja_Ti (ja_Tk t L S M) (ja_Tsw x L S M n r)
theorem ja_Tbk (b : Nat) (o : Option ja_R) (i : Nat) (L : ja_L) (S : List ja_V) : ja_T (fun κ => ja_back b o i L S κ) := by
  rcases b with _ | _ | _ | b <;> rcases o with _ | ⟨_ | x | x | x, M⟩ <;> first | exact ja_To none | exact ja_Tk _ _ _ _
theorem ja_fc_eq : ∀ (L : ja_L) (k : ja_L → Option ja_R), ja_fc L k = k L
  | [], _ => rfl
  | x :: L, k => ja_fc_eq L (fun L' => k (x :: L'))
theorem ja_Tfc (L : ja_L) (i : Nat) (S : List ja_V) (M : ja_M) : ja_T (fun κ => ja_fc L (fun L => κ i L S M)) := Or.inr ⟨i, L, S, M, fun _ => ja_fc_eq _ _⟩
theorem jt_load (φ : Bool) (E : ja_E) (a : ja_I) (i : Nat) (L : ja_L) (S : List ja_V) (M : ja_M) : ja_T (jh_load φ E a i L S M) := by
  show ja_T (fun κ => _)
  unfold jh_load
  generalize L[a.2.1]? = o
  rcases o with _ | _ | v
  all_goals first | exact ja_To none | exact ja_To _ | exact ja_Tc _ (ja_Tk _ _ _ _) (ja_To none)
theorem jt_ipush (φ : Bool) (E : ja_E) (a : ja_I) (i : Nat) (L : ja_L) (S : List ja_V) (M : ja_M) : ja_T (jh_ipush φ E a i L S M) := by
  exact ja_Tk _ _ _ _
theorem jt_lpush (φ : Bool) (E : ja_E) (a : ja_I) (i : Nat) (L : ja_L) (S : List ja_V) (M : ja_M) : ja_T (jh_lpush φ E a i L S M) := by
  exact ja_Tk _ _ _ _
theorem jt_st1 (φ : Bool) (E : ja_E) (a : ja_I) (i : Nat) (L : ja_L) (S : List ja_V) (M : ja_M) : ja_T (jh_st1 φ E a i L S M) := by
  rcases S with _ | ⟨x | x | x, S⟩
  all_goals first | exact ja_To none | exact ja_To _ | exact ja_Tc _ (ja_Tfc _ _ _ _) (ja_To none)
theorem jt_st2 (φ : Bool) (E : ja_E) (a : ja_I) (i : Nat) (L : ja_L) (S : List ja_V) (M : ja_M) : ja_T (jh_st2 φ E a i L S M) := by
  rcases S with _ | ⟨x | x | x, S⟩
  all_goals first | exact ja_To none | exact ja_To _ | exact ja_Tc _ (ja_Tfc _ _ _ _) (ja_To none)
theorem jt_iinc (φ : Bool) (E : ja_E) (a : ja_I) (i : Nat) (L : ja_L) (S : List ja_V) (M : ja_M) : ja_T (jh_iinc φ E a i L S M) := by
  show ja_T (fun κ => _)
  unfold jh_iinc
  generalize L[a.2.1]? = o
  rcases o with _ | _ | x | x | x
  all_goals first | exact ja_To none | exact ja_To _ | exact ja_Tfc _ _ _ _
theorem jt_ibin (φ : Bool) (E : ja_E) (a : ja_I) (i : Nat) (L : ja_L) (S : List ja_V) (M : ja_M) : ja_T (jh_ibin φ E a i L S M) := by
  rcases S with _ | ⟨x | x | x, _ | ⟨y | y | y, S⟩⟩
  all_goals first | exact ja_To none | exact ja_To _ | exact ja_Tk _ _ _ _
theorem jt_idiv (φ : Bool) (E : ja_E) (a : ja_I) (i : Nat) (L : ja_L) (S : List ja_V) (M : ja_M) : ja_T (jh_idiv φ E a i L S M) := by
  rcases S with _ | ⟨x | x | x, _ | ⟨y | y | y, S⟩⟩
  all_goals first | exact ja_To none | exact ja_To _ | exact ja_Tc _ (ja_To none) (ja_Tk _ _ _ _)
theorem jt_irem (φ : Bool) (E : ja_E) (a : ja_I) (i : Nat) (L : ja_L) (S : List ja_V) (M : ja_M) : ja_T (jh_irem φ E a i L S M) := by
  rcases S with _ | ⟨x | x | x, _ | ⟨y | y | y, S⟩⟩
  all_goals first | exact ja_To none | exact ja_To _ | exact ja_Tc _ (ja_To none) (ja_Tk _ _ _ _)
theorem jt_ineg (φ : Bool) (E : ja_E) (a : ja_I) (i : Nat) (L : ja_L) (S : List ja_V) (M : ja_M) : ja_T (jh_ineg φ E a i L S M) := by
  rcases S with _ | ⟨x | x | x, S⟩
  all_goals first | exact ja_To none | exact ja_To _ | exact ja_Tk _ _ _ _
theorem jt_lbin (φ : Bool) (E : ja_E) (a : ja_I) (i : Nat) (L : ja_L) (S : List ja_V) (M : ja_M) : ja_T (jh_lbin φ E a i L S M) := by
  rcases S with _ | ⟨x | x | x, _ | ⟨y | y | y, S⟩⟩
  all_goals first | exact ja_To none | exact ja_To _ | exact ja_Tk _ _ _ _
theorem jt_ldiv (φ : Bool) (E : ja_E) (a : ja_I) (i : Nat) (L : ja_L) (S : List ja_V) (M : ja_M) : ja_T (jh_ldiv φ E a i L S M) := by
  rcases S with _ | ⟨x | x | x, _ | ⟨y | y | y, S⟩⟩
  all_goals first | exact ja_To none | exact ja_To _ | exact ja_Tc _ (ja_To none) (ja_Tk _ _ _ _)
theorem jt_lrem (φ : Bool) (E : ja_E) (a : ja_I) (i : Nat) (L : ja_L) (S : List ja_V) (M : ja_M) : ja_T (jh_lrem φ E a i L S M) := by
  rcases S with _ | ⟨x | x | x, _ | ⟨y | y | y, S⟩⟩
  all_goals first | exact ja_To none | exact ja_To _ | exact ja_Tc _ (ja_To none) (ja_Tk _ _ _ _)
theorem jt_lshl (φ : Bool) (E : ja_E) (a : ja_I) (i : Nat) (L : ja_L) (S : List ja_V) (M : ja_M) : ja_T (jh_lshl φ E a i L S M) := by
  rcases S with _ | ⟨x | x | x, _ | ⟨y | y | y, S⟩⟩
  all_goals first | exact ja_To none | exact ja_To _ | exact ja_Tk _ _ _ _
theorem jt_lush (φ : Bool) (E : ja_E) (a : ja_I) (i : Nat) (L : ja_L) (S : List ja_V) (M : ja_M) : ja_T (jh_lush φ E a i L S M) := by
  rcases S with _ | ⟨x | x | x, _ | ⟨y | y | y, S⟩⟩
  all_goals first | exact ja_To none | exact ja_To _ | exact ja_Tk _ _ _ _
theorem jt_i2l (φ : Bool) (E : ja_E) (a : ja_I) (i : Nat) (L : ja_L) (S : List ja_V) (M : ja_M) : ja_T (jh_i2l φ E a i L S M) := by
  rcases S with _ | ⟨x | x | x, S⟩
  all_goals first | exact ja_To none | exact ja_To _ | exact ja_Tk _ _ _ _
theorem jt_l2i (φ : Bool) (E : ja_E) (a : ja_I) (i : Nat) (L : ja_L) (S : List ja_V) (M : ja_M) : ja_T (jh_l2i φ E a i L S M) := by
  rcases S with _ | ⟨x | x | x, S⟩
  all_goals first | exact ja_To none | exact ja_To _ | exact ja_Tk _ _ _ _
theorem jt_lcmp (φ : Bool) (E : ja_E) (a : ja_I) (i : Nat) (L : ja_L) (S : List ja_V) (M : ja_M) : ja_T (jh_lcmp φ E a i L S M) := by
  rcases S with _ | ⟨x | x | x, _ | ⟨y | y | y, S⟩⟩
  all_goals first | exact ja_To none | exact ja_To _ | exact ja_Tk _ _ _ _
theorem jt_icmp (φ : Bool) (E : ja_E) (a : ja_I) (i : Nat) (L : ja_L) (S : List ja_V) (M : ja_M) : ja_T (jh_icmp φ E a i L S M) := by
  rcases S with _ | ⟨x | x | x, _ | ⟨y | y | y, S⟩⟩
  all_goals first | exact ja_To none | exact ja_To _ | exact ja_Tcmp _ _ _ (ja_Tk _ _ _ _) (ja_Tk _ _ _ _)
theorem jt_ifz (φ : Bool) (E : ja_E) (a : ja_I) (i : Nat) (L : ja_L) (S : List ja_V) (M : ja_M) : ja_T (jh_ifz φ E a i L S M) := by
  rcases S with _ | ⟨x | x | x, S⟩
  all_goals first | exact ja_To none | exact ja_To _ | exact ja_Tcmp _ _ _ (ja_Tk _ _ _ _) (ja_Tk _ _ _ _)
theorem jt_ifnull (φ : Bool) (E : ja_E) (a : ja_I) (i : Nat) (L : ja_L) (S : List ja_V) (M : ja_M) : ja_T (jh_ifnull φ E a i L S M) := by
  rcases S with _ | ⟨x | x | x, S⟩
  all_goals first | exact ja_To none | exact ja_To _ | exact ja_Ti (ja_Tk _ _ _ _) (ja_Tk _ _ _ _)
theorem jt_ifnon (φ : Bool) (E : ja_E) (a : ja_I) (i : Nat) (L : ja_L) (S : List ja_V) (M : ja_M) : ja_T (jh_ifnon φ E a i L S M) := by
  rcases S with _ | ⟨x | x | x, S⟩
  all_goals first | exact ja_To none | exact ja_To _ | exact ja_Ti (ja_Tk _ _ _ _) (ja_Tk _ _ _ _)
theorem jt_goto (φ : Bool) (E : ja_E) (a : ja_I) (i : Nat) (L : ja_L) (S : List ja_V) (M : ja_M) : ja_T (jh_goto φ E a i L S M) := by
  exact ja_Tk _ _ _ _
theorem jt_switch (φ : Bool) (E : ja_E) (a : ja_I) (i : Nat) (L : ja_L) (S : List ja_V) (M : ja_M) : ja_T (jh_switch φ E a i L S M) := by
  rcases S with _ | ⟨x | x | x, S⟩
  all_goals first | exact ja_To none | exact ja_To _ | exact ja_Tsw _ _ _ _ _ _
theorem jt_getI (φ : Bool) (E : ja_E) (a : ja_I) (i : Nat) (L : ja_L) (S : List ja_V) (M : ja_M) : ja_T (jh_getI φ E a i L S M) := by
  rcases S with _ | ⟨x | x | x, S⟩
  all_goals first | exact ja_To none | exact ja_To _ | exact ja_Tc _ (ja_Tk _ _ _ _) (ja_To none)
theorem jt_getL (φ : Bool) (E : ja_E) (a : ja_I) (i : Nat) (L : ja_L) (S : List ja_V) (M : ja_M) : ja_T (jh_getL φ E a i L S M) := by
  rcases S with _ | ⟨x | x | x, S⟩
  all_goals first | exact ja_To none | exact ja_To _ | exact ja_Tc _ (ja_Tk _ _ _ _) (ja_To none)
theorem jt_getR (φ : Bool) (E : ja_E) (a : ja_I) (i : Nat) (L : ja_L) (S : List ja_V) (M : ja_M) : ja_T (jh_getR φ E a i L S M) := by
  rcases S with _ | ⟨x | x | x, S⟩
  all_goals first | exact ja_To none | exact ja_To _ | exact ja_Tc _ (ja_Tk _ _ _ _) (ja_To none)
theorem jt_putI (φ : Bool) (E : ja_E) (a : ja_I) (i : Nat) (L : ja_L) (S : List ja_V) (M : ja_M) : ja_T (jh_putI φ E a i L S M) := by
  rcases S with _ | ⟨x | x | x, _ | ⟨y | y | y, S⟩⟩
  all_goals first | exact ja_To none | exact ja_To _ | exact ja_Tc _ (ja_Tk _ _ _ _) (ja_To none)
theorem jt_putZ (φ : Bool) (E : ja_E) (a : ja_I) (i : Nat) (L : ja_L) (S : List ja_V) (M : ja_M) : ja_T (jh_putZ φ E a i L S M) := by
  rcases S with _ | ⟨x | x | x, _ | ⟨y | y | y, S⟩⟩
  all_goals first | exact ja_To none | exact ja_To _ | exact ja_Tc _ (ja_Tc _ (ja_Tk _ _ _ _) (ja_To none)) (ja_To none)
theorem jt_putL (φ : Bool) (E : ja_E) (a : ja_I) (i : Nat) (L : ja_L) (S : List ja_V) (M : ja_M) : ja_T (jh_putL φ E a i L S M) := by
  rcases S with _ | ⟨x | x | x, _ | ⟨y | y | y, S⟩⟩
  all_goals first | exact ja_To none | exact ja_To _ | exact ja_Tc _ (ja_Tk _ _ _ _) (ja_To none)
theorem jt_putR (φ : Bool) (E : ja_E) (a : ja_I) (i : Nat) (L : ja_L) (S : List ja_V) (M : ja_M) : ja_T (jh_putR φ E a i L S M) := by
  rcases S with _ | ⟨x | x | x, _ | ⟨y | y | y, S⟩⟩
  all_goals first | exact ja_To none | exact ja_To _ | exact ja_Tc _ (ja_Tk _ _ _ _) (ja_To none)
theorem jt_static (φ : Bool) (E : ja_E) (a : ja_I) (i : Nat) (L : ja_L) (S : List ja_V) (M : ja_M) : ja_T (jh_static φ E a i L S M) := by
  exact ja_Tk _ _ _ _
theorem jt_iald (φ : Bool) (E : ja_E) (a : ja_I) (i : Nat) (L : ja_L) (S : List ja_V) (M : ja_M) : ja_T (jh_iald φ E a i L S M) := by
  rcases S with _ | ⟨x | x | x, _ | ⟨y | y | y, S⟩⟩
  all_goals first | exact ja_To none | exact ja_To _ | exact ja_Tc _ (ja_Tc _ (ja_Ti (ja_Tk _ _ _ _) (ja_To none)) (ja_To none)) (ja_Tc _ (ja_Ti (ja_Tk _ _ _ _) (ja_To none)) (ja_Tc _ (ja_Ti (ja_Tk _ _ _ _) (ja_To none)) (ja_To none)))
theorem jt_bald (φ : Bool) (E : ja_E) (a : ja_I) (i : Nat) (L : ja_L) (S : List ja_V) (M : ja_M) : ja_T (jh_bald φ E a i L S M) := by
  rcases S with _ | ⟨x | x | x, _ | ⟨y | y | y, S⟩⟩
  all_goals first | exact ja_To none | exact ja_To _ | exact ja_Tc _ (ja_Ti (ja_Tk _ _ _ _) (ja_To none)) (ja_To none)
theorem jt_lald (φ : Bool) (E : ja_E) (a : ja_I) (i : Nat) (L : ja_L) (S : List ja_V) (M : ja_M) : ja_T (jh_lald φ E a i L S M) := by
  rcases S with _ | ⟨x | x | x, _ | ⟨y | y | y, S⟩⟩
  all_goals first | exact ja_To none | exact ja_To _ | exact ja_Tc _ (ja_Ti (ja_Tk _ _ _ _) (ja_To none)) (ja_To none)
theorem jt_aald (φ : Bool) (E : ja_E) (a : ja_I) (i : Nat) (L : ja_L) (S : List ja_V) (M : ja_M) : ja_T (jh_aald φ E a i L S M) := by
  rcases S with _ | ⟨x | x | x, _ | ⟨y | y | y, S⟩⟩
  all_goals first | exact ja_To none | exact ja_To _ | exact ja_Tc _ (ja_Ti (ja_Tk _ _ _ _) (ja_To none)) (ja_To none)
theorem jt_iast (φ : Bool) (E : ja_E) (a : ja_I) (i : Nat) (L : ja_L) (S : List ja_V) (M : ja_M) : ja_T (jh_iast φ E a i L S M) := by
  rcases S with _ | ⟨x | x | x, _ | ⟨y | y | y, _ | ⟨z | z | z, S⟩⟩⟩
  all_goals first | exact ja_To none | exact ja_To _ | exact ja_Tc _ (ja_Ti (ja_Tk _ _ _ _) (ja_To none)) (ja_To none)
theorem jt_bast (φ : Bool) (E : ja_E) (a : ja_I) (i : Nat) (L : ja_L) (S : List ja_V) (M : ja_M) : ja_T (jh_bast φ E a i L S M) := by
  rcases S with _ | ⟨x | x | x, _ | ⟨y | y | y, _ | ⟨z | z | z, S⟩⟩⟩
  all_goals first | exact ja_To none | exact ja_To _ | exact ja_Tc _ (ja_Ti (ja_Tc _ (ja_Tk _ _ _ _) (ja_To none)) (ja_To none)) (ja_To none)
theorem jt_last (φ : Bool) (E : ja_E) (a : ja_I) (i : Nat) (L : ja_L) (S : List ja_V) (M : ja_M) : ja_T (jh_last φ E a i L S M) := by
  rcases S with _ | ⟨x | x | x, _ | ⟨y | y | y, _ | ⟨z | z | z, S⟩⟩⟩
  all_goals first | exact ja_To none | exact ja_To _ | exact ja_Tc _ (ja_Ti (ja_Tk _ _ _ _) (ja_To none)) (ja_To none)
theorem jt_alen (φ : Bool) (E : ja_E) (a : ja_I) (i : Nat) (L : ja_L) (S : List ja_V) (M : ja_M) : ja_T (jh_alen φ E a i L S M) := by
  rcases S with _ | ⟨x | x | x, S⟩
  all_goals first | exact ja_To none | exact ja_To _ | exact ja_Tc _ (ja_Tk _ _ _ _) (ja_Tc _ (ja_Tk _ _ _ _) (ja_To none))
theorem jt_new (φ : Bool) (E : ja_E) (a : ja_I) (i : Nat) (L : ja_L) (S : List ja_V) (M : ja_M) : ja_T (jh_new φ E a i L S M) := by
  exact ja_Tc _ (ja_Tk _ _ _ _) (ja_To none)
theorem jt_newa (φ : Bool) (E : ja_E) (a : ja_I) (i : Nat) (L : ja_L) (S : List ja_V) (M : ja_M) : ja_T (jh_newa φ E a i L S M) := by
  rcases S with _ | ⟨x | x | x, S⟩
  all_goals first | exact ja_To none | exact ja_To _ | exact ja_Tc _ (ja_Tk _ _ _ _) (ja_To none)
theorem jt_newm (φ : Bool) (E : ja_E) (a : ja_I) (i : Nat) (L : ja_L) (S : List ja_V) (M : ja_M) : ja_T (jh_newm φ E a i L S M) := by
  rcases S with _ | ⟨x | x | x, _ | ⟨y | y | y, S⟩⟩
  all_goals first | exact ja_To none | exact ja_To _ | exact ja_Tc _ (ja_Tk _ _ _ _) (ja_To none)
theorem jt_callV (φ : Bool) (E : ja_E) (a : ja_I) (i : Nat) (L : ja_L) (S : List ja_V) (M : ja_M) : ja_T (jh_callV φ E a i L S M) := by
  show ja_T (fun κ => _)
  unfold jh_callV
  generalize S.drop a.2.2.1 = S'
  rcases S' with _ | ⟨x | x | x, S'⟩
  all_goals first | exact ja_To none | exact ja_To _ | exact ja_Tc _ (ja_Tbk _ _ _ _ _) (ja_To none)
theorem jt_callS (φ : Bool) (E : ja_E) (a : ja_I) (i : Nat) (L : ja_L) (S : List ja_V) (M : ja_M) : ja_T (jh_callS φ E a i L S M) := by
  exact ja_Tc _ (ja_Tbk _ _ _ _ _) (ja_To none)
theorem jt_callI (φ : Bool) (E : ja_E) (a : ja_I) (i : Nat) (L : ja_L) (S : List ja_V) (M : ja_M) : ja_T (jh_callI φ E a i L S M) := by
  show ja_T (fun κ => _)
  unfold jh_callI
  generalize S.drop a.2.2.1 = S'
  rcases S' with _ | ⟨x | x | x, S'⟩
  all_goals first | exact ja_To none | exact ja_To _ | exact ja_Tc _ (ja_Tbk _ _ _ _ _) (ja_To none)
theorem jt_objI (φ : Bool) (E : ja_E) (a : ja_I) (i : Nat) (L : ja_L) (S : List ja_V) (M : ja_M) : ja_T (jh_objI φ E a i L S M) := by
  rcases S with _ | ⟨x | x | x, S⟩
  all_goals first | exact ja_To none | exact ja_To _ | exact ja_Tc _ (ja_Tk _ _ _ _) (ja_To none)
theorem jt_iret (φ : Bool) (E : ja_E) (a : ja_I) (i : Nat) (L : ja_L) (S : List ja_V) (M : ja_M) : ja_T (jh_iret φ E a i L S M) := by
  rcases S with _ | ⟨x | x | x, _ | ⟨y, S⟩⟩
  all_goals first | exact ja_To none | exact ja_To _ | exact ja_To none
theorem jt_zret (φ : Bool) (E : ja_E) (a : ja_I) (i : Nat) (L : ja_L) (S : List ja_V) (M : ja_M) : ja_T (jh_zret φ E a i L S M) := by
  rcases S with _ | ⟨x | x | x, _ | ⟨y, S⟩⟩
  all_goals first | exact ja_To none | exact ja_To _ | exact ja_To none
theorem jt_lret (φ : Bool) (E : ja_E) (a : ja_I) (i : Nat) (L : ja_L) (S : List ja_V) (M : ja_M) : ja_T (jh_lret φ E a i L S M) := by
  rcases S with _ | ⟨x | x | x, _ | ⟨y, S⟩⟩
  all_goals first | exact ja_To none | exact ja_To _ | exact ja_To none
theorem jt_aret (φ : Bool) (E : ja_E) (a : ja_I) (i : Nat) (L : ja_L) (S : List ja_V) (M : ja_M) : ja_T (jh_aret φ E a i L S M) := by
  rcases S with _ | ⟨x | x | x, _ | ⟨y, S⟩⟩
  all_goals first | exact ja_To none | exact ja_To _ | exact ja_To none
theorem jt_vret (φ : Bool) (E : ja_E) (a : ja_I) (i : Nat) (L : ja_L) (S : List ja_V) (M : ja_M) : ja_T (jh_vret φ E a i L S M) := by
  rcases S with _ | ⟨y, S⟩
  all_goals first | exact ja_To none | exact ja_To _ | exact ja_To none
theorem jt_dup (φ : Bool) (E : ja_E) (a : ja_I) (i : Nat) (L : ja_L) (S : List ja_V) (M : ja_M) : ja_T (jh_dup φ E a i L S M) := by
  rcases S with _ | ⟨x | x | x, S⟩
  all_goals first | exact ja_To none | exact ja_To _ | exact ja_Tk _ _ _ _
theorem jt_dup2 (φ : Bool) (E : ja_E) (a : ja_I) (i : Nat) (L : ja_L) (S : List ja_V) (M : ja_M) : ja_T (jh_dup2 φ E a i L S M) := by
  rcases S with _ | ⟨x | x | x, _ | ⟨y | y | y, S⟩⟩
  all_goals first | exact ja_To none | exact ja_To _ | exact ja_Tk _ _ _ _
theorem jt_pop (φ : Bool) (E : ja_E) (a : ja_I) (i : Nat) (L : ja_L) (S : List ja_V) (M : ja_M) : ja_T (jh_pop φ E a i L S M) := by
  rcases S with _ | ⟨x | x | x, S⟩
  all_goals first | exact ja_To none | exact ja_To _ | exact ja_Tk _ _ _ _
theorem jt_copy (φ : Bool) (E : ja_E) (a : ja_I) (i : Nat) (L : ja_L) (S : List ja_V) (M : ja_M) : ja_T (jh_copy φ E a i L S M) := by
  rcases S with _ | ⟨x | x | x, _ | ⟨y | y | y, _ | ⟨z | z | z, _ | ⟨u | u | u, _ | ⟨v | v | v, S⟩⟩⟩⟩⟩
  all_goals first | exact ja_To none | exact ja_To _ | exact ja_Tc _ (ja_Ti (ja_Tk _ _ _ _) (ja_To none)) (ja_To none)
theorem jt_place (φ : Bool) (E : ja_E) (a : ja_I) (i : Nat) (L : ja_L) (S : List ja_V) (M : ja_M) : ja_T (jh_place φ E a i L S M) := by
  rcases S with _ | ⟨x | x | x, _ | ⟨y | y | y, _ | ⟨z | z | z, _ | ⟨u | u | u, S⟩⟩⟩⟩
  all_goals first | exact ja_To none | exact ja_To _ | exact ja_Tc _ (ja_Ti (ja_Ti (ja_Tk _ _ _ _) (ja_To none)) (ja_Tk _ _ _ _)) (ja_To none)
theorem jt_mmax (φ : Bool) (E : ja_E) (a : ja_I) (i : Nat) (L : ja_L) (S : List ja_V) (M : ja_M) : ja_T (jh_mmax φ E a i L S M) := by
  rcases S with _ | ⟨x | x | x, _ | ⟨y | y | y, S⟩⟩
  all_goals first | exact ja_To none | exact ja_To _ | exact ja_Tc _ (ja_Tk _ _ _ _) (ja_To none)
theorem jt_mmin (φ : Bool) (E : ja_E) (a : ja_I) (i : Nat) (L : ja_L) (S : List ja_V) (M : ja_M) : ja_T (jh_mmin φ E a i L S M) := by
  rcases S with _ | ⟨x | x | x, _ | ⟨y | y | y, S⟩⟩
  all_goals first | exact ja_To none | exact ja_To _ | exact ja_Tc _ (ja_Tk _ _ _ _) (ja_To none)
theorem jt_mabs (φ : Bool) (E : ja_E) (a : ja_I) (i : Nat) (L : ja_L) (S : List ja_V) (M : ja_M) : ja_T (jh_mabs φ E a i L S M) := by
  rcases S with _ | ⟨x | x | x, S⟩
  all_goals first | exact ja_To none | exact ja_To _ | exact ja_Tc _ (ja_Tk _ _ _ _) (ja_To none)
theorem jt_lmax (φ : Bool) (E : ja_E) (a : ja_I) (i : Nat) (L : ja_L) (S : List ja_V) (M : ja_M) : ja_T (jh_lmax φ E a i L S M) := by
  rcases S with _ | ⟨x | x | x, _ | ⟨y | y | y, S⟩⟩
  all_goals first | exact ja_To none | exact ja_To _ | exact ja_Tc _ (ja_Tk _ _ _ _) (ja_To none)
theorem jt_lmin (φ : Bool) (E : ja_E) (a : ja_I) (i : Nat) (L : ja_L) (S : List ja_V) (M : ja_M) : ja_T (jh_lmin φ E a i L S M) := by
  rcases S with _ | ⟨x | x | x, _ | ⟨y | y | y, S⟩⟩
  all_goals first | exact ja_To none | exact ja_To _ | exact ja_Tc _ (ja_Tk _ _ _ _) (ja_To none)
theorem jt_none (φ : Bool) (E : ja_E) (a : ja_I) (i : Nat) (L : ja_L) (S : List ja_V) (M : ja_M) : ja_T (jh_none φ E a i L S M) := ja_To none
theorem ja_nthP {α : Type} {P : α → Prop} {d : α} (hd : P d) : ∀ (l : List α), (∀ x ∈ l, P x) → ∀ n, P (ja_nth l n d)
  | [], _, _ => hd
  | x :: _, h, 0 => h x List.mem_cons_self
  | _ :: xs, h, n + 1 => ja_nthP hd xs (fun y hy => h y (List.mem_cons_of_mem _ hy)) n
theorem ja_hT (φ : Bool) (E : ja_E) (a : ja_I) (i : Nat) (L : ja_L) (S : List ja_V) (M : ja_M) : ja_T (ja_h φ E a i L S M) := by
  have h : ∀ x ∈ ja_hs, ∀ (φ : Bool) (E : ja_E) (a : ja_I) (i : Nat) (L : ja_L) (S : List ja_V) (M : ja_M), ja_T (x φ E a i L S M) := by
    unfold ja_hs
    refine List.forall_mem_cons.mpr ⟨jt_load, ?_⟩
    refine List.forall_mem_cons.mpr ⟨jt_ipush, ?_⟩
    refine List.forall_mem_cons.mpr ⟨jt_lpush, ?_⟩
    refine List.forall_mem_cons.mpr ⟨jt_st1, ?_⟩
    refine List.forall_mem_cons.mpr ⟨jt_st2, ?_⟩
    refine List.forall_mem_cons.mpr ⟨jt_iinc, ?_⟩
    refine List.forall_mem_cons.mpr ⟨jt_ibin, ?_⟩
    refine List.forall_mem_cons.mpr ⟨jt_idiv, ?_⟩
    refine List.forall_mem_cons.mpr ⟨jt_irem, ?_⟩
    refine List.forall_mem_cons.mpr ⟨jt_ineg, ?_⟩
    refine List.forall_mem_cons.mpr ⟨jt_lbin, ?_⟩
    refine List.forall_mem_cons.mpr ⟨jt_ldiv, ?_⟩
    refine List.forall_mem_cons.mpr ⟨jt_lrem, ?_⟩
    refine List.forall_mem_cons.mpr ⟨jt_lshl, ?_⟩
    refine List.forall_mem_cons.mpr ⟨jt_lush, ?_⟩
    refine List.forall_mem_cons.mpr ⟨jt_i2l, ?_⟩
    refine List.forall_mem_cons.mpr ⟨jt_l2i, ?_⟩
    refine List.forall_mem_cons.mpr ⟨jt_lcmp, ?_⟩
    refine List.forall_mem_cons.mpr ⟨jt_icmp, ?_⟩
    refine List.forall_mem_cons.mpr ⟨jt_ifz, ?_⟩
    refine List.forall_mem_cons.mpr ⟨jt_ifnull, ?_⟩
    refine List.forall_mem_cons.mpr ⟨jt_ifnon, ?_⟩
    refine List.forall_mem_cons.mpr ⟨jt_goto, ?_⟩
    refine List.forall_mem_cons.mpr ⟨jt_switch, ?_⟩
    refine List.forall_mem_cons.mpr ⟨jt_getI, ?_⟩
    refine List.forall_mem_cons.mpr ⟨jt_getL, ?_⟩
    refine List.forall_mem_cons.mpr ⟨jt_getR, ?_⟩
    refine List.forall_mem_cons.mpr ⟨jt_putI, ?_⟩
    refine List.forall_mem_cons.mpr ⟨jt_putZ, ?_⟩
    refine List.forall_mem_cons.mpr ⟨jt_putL, ?_⟩
    refine List.forall_mem_cons.mpr ⟨jt_putR, ?_⟩
    refine List.forall_mem_cons.mpr ⟨jt_static, ?_⟩
    refine List.forall_mem_cons.mpr ⟨jt_iald, ?_⟩
    refine List.forall_mem_cons.mpr ⟨jt_bald, ?_⟩
    refine List.forall_mem_cons.mpr ⟨jt_lald, ?_⟩
    refine List.forall_mem_cons.mpr ⟨jt_aald, ?_⟩
    refine List.forall_mem_cons.mpr ⟨jt_iast, ?_⟩
    refine List.forall_mem_cons.mpr ⟨jt_bast, ?_⟩
    refine List.forall_mem_cons.mpr ⟨jt_last, ?_⟩
    refine List.forall_mem_cons.mpr ⟨jt_alen, ?_⟩
    refine List.forall_mem_cons.mpr ⟨jt_new, ?_⟩
    refine List.forall_mem_cons.mpr ⟨jt_newa, ?_⟩
    refine List.forall_mem_cons.mpr ⟨jt_newm, ?_⟩
    refine List.forall_mem_cons.mpr ⟨jt_callV, ?_⟩
    refine List.forall_mem_cons.mpr ⟨jt_callS, ?_⟩
    refine List.forall_mem_cons.mpr ⟨jt_callI, ?_⟩
    refine List.forall_mem_cons.mpr ⟨jt_objI, ?_⟩
    refine List.forall_mem_cons.mpr ⟨jt_iret, ?_⟩
    refine List.forall_mem_cons.mpr ⟨jt_zret, ?_⟩
    refine List.forall_mem_cons.mpr ⟨jt_lret, ?_⟩
    refine List.forall_mem_cons.mpr ⟨jt_aret, ?_⟩
    refine List.forall_mem_cons.mpr ⟨jt_vret, ?_⟩
    refine List.forall_mem_cons.mpr ⟨jt_dup, ?_⟩
    refine List.forall_mem_cons.mpr ⟨jt_dup2, ?_⟩
    refine List.forall_mem_cons.mpr ⟨jt_pop, ?_⟩
    refine List.forall_mem_cons.mpr ⟨jt_copy, ?_⟩
    refine List.forall_mem_cons.mpr ⟨jt_place, ?_⟩
    refine List.forall_mem_cons.mpr ⟨jt_mmax, ?_⟩
    refine List.forall_mem_cons.mpr ⟨jt_mmin, ?_⟩
    refine List.forall_mem_cons.mpr ⟨jt_mabs, ?_⟩
    refine List.forall_mem_cons.mpr ⟨jt_lmax, ?_⟩
    refine List.forall_mem_cons.mpr ⟨jt_lmin, ?_⟩
    exact fun _ h => absurd h List.not_mem_nil
  exact ja_nthP (P := fun x => ∀ (φ : Bool) (E : ja_E) (a : ja_I) (i : Nat) (L : ja_L) (S : List ja_V) (M : ja_M), ja_T (x φ E a i L S M)) jt_none ja_hs h a.1 φ E a i L S M
theorem ja_step_eq (φ : Bool) (E : ja_E) (c : List ja_I) (κ : ja_K) (i : Nat) (L : ja_L) (S : List ja_V) (M : ja_M) : ja_step φ E c κ i L S M = ja_h φ E (ja_nth c i ja_row0) i (ja_mask (ja_nth c i ja_row0).2.2.2.2.2 L) S M κ := by
  unfold ja_step
  obtain ⟨o, a, n, b, t, ms⟩ := ja_nth c i ja_row0
  exact ja_fc_eq _ _
theorem ja_stepT (φ : Bool) (E : ja_E) (c : List ja_I) (i : Nat) (L : ja_L) (S : List ja_V) (M : ja_M) : ja_T (fun κ => ja_step φ E c κ i L S M) := by
  have e : (fun κ => ja_step φ E c κ i L S M) = ja_h φ E (ja_nth c i ja_row0) i (ja_mask (ja_nth c i ja_row0).2.2.2.2.2 L) S M := by
    funext κ
    exact ja_step_eq φ E c κ i L S M
  rw [e]
  exact ja_hT φ E _ i _ S M
theorem ja_it_mono (φ : Bool) (E : ja_E) (c : List ja_I) : ∀ (n i : Nat) (L : ja_L) (S : List ja_V) (M : ja_M) (r : ja_R), ja_it φ E c n i L S M = some r → ja_it φ E c (n + 1) i L S M = some r
  | 0, _, _, _, _, _, h => by cases h
  | n + 1, i, L, S, M, r, h => by
    rcases ja_stepT φ E c i L S M with ⟨o, ho⟩ | ⟨i', L', S', M', hk⟩
    · exact (ho (ja_it φ E c (n + 1))).trans ((ho (ja_it φ E c n)).symm.trans h)
    · have h1 : ja_it φ E c n i' L' S' M' = some r := (hk (ja_it φ E c n)).symm.trans h
      exact (hk (ja_it φ E c (n + 1))).trans (ja_it_mono φ E c n i' L' S' M' r h1)
theorem ja_it_le (φ : Bool) (E : ja_E) (c : List ja_I) {n : Nat} (k : Nat) {i : Nat} {L : ja_L} {S : List ja_V} {M : ja_M} {r : ja_R} (h : ja_it φ E c n i L S M = some r) : ja_it φ E c (n + k) i L S M = some r := by
  induction k with
  | zero => exact h
  | succ k ih => exact ja_it_mono φ E c (n + k) i L S M r ih
theorem ja_D_of {φ : Bool} {E : ja_E} {c : List ja_I} {n i : Nat} {L : ja_L} {S : List ja_V} {M : ja_M} {r : ja_R} (h : ja_it φ E c n i L S M = some r) : ja_D φ E c i L S M = some r := by
  have hx : ∃ n, ((fun n => ja_it φ E c n i L S M) n).isSome = true := ⟨n, by show (ja_it φ E c n i L S M).isSome = true; rw [h]; rfl⟩
  have e : ja_D φ E c i L S M = ja_it φ E c (Classical.choose hx) i L S M := dif_pos hx
  have hs : (ja_it φ E c (Classical.choose hx) i L S M).isSome = true := Classical.choose_spec hx
  rw [e]
  obtain ⟨r', hr'⟩ := Option.isSome_iff_exists.mp hs
  have h1 := ja_it_le φ E c n hr'
  have h2 := ja_it_le φ E c (Classical.choose hx) h
  rw [Nat.add_comm] at h2
  rw [hr', ← h1, h2]
theorem ja_D_ex {φ : Bool} {E : ja_E} {c : List ja_I} {i : Nat} {L : ja_L} {S : List ja_V} {M : ja_M} {r : ja_R} (h : ja_D φ E c i L S M = some r) : ∃ n, ja_it φ E c n i L S M = some r := by
  by_cases hx : ∃ n, ((fun n => ja_it φ E c n i L S M) n).isSome = true
  · have e : ja_D φ E c i L S M = ja_it φ E c (Classical.choose hx) i L S M := dif_pos hx
    exact ⟨_, e.symm.trans h⟩
  · have e : ja_D φ E c i L S M = none := dif_neg hx
    rw [e] at h
    cases h
theorem ja_D_eq (φ : Bool) (E : ja_E) (c : List ja_I) (i : Nat) (L : ja_L) (S : List ja_V) (M : ja_M) : ja_D φ E c i L S M = ja_step φ E c (ja_D φ E c) i L S M := by
  apply Option.ext
  intro r
  constructor
  · intro h
    obtain ⟨n, hn⟩ := ja_D_ex h
    cases n with
    | zero => cases hn
    | succ n =>
      rcases ja_stepT φ E c i L S M with ⟨o, ho⟩ | ⟨i', L', S', M', hk⟩
      · exact (ho (ja_D φ E c)).trans ((ho (ja_it φ E c n)).symm.trans hn)
      · exact (hk (ja_D φ E c)).trans (ja_D_of ((hk (ja_it φ E c n)).symm.trans hn))
  · intro h
    rcases ja_stepT φ E c i L S M with ⟨o, ho⟩ | ⟨i', L', S', M', hk⟩
    · exact ja_D_of (n := 1) ((ho (ja_it φ E c 0)).trans ((ho (ja_D φ E c)).symm.trans h))
    · obtain ⟨n, hn⟩ := ja_D_ex ((hk (ja_D φ E c)).symm.trans h)
      exact ja_D_of (n := n + 1) ((hk (ja_it φ E c n)).trans hn)
theorem ja_mask2 : ∀ (bs : List Bool) (L : ja_L), ja_mask bs (ja_mask bs L) = ja_mask bs L
  | [], _ => rfl
  | _ :: _, [] => rfl
  | b :: bs, x :: L => by
    show (bif b then (bif b then x else none) else none) :: ja_mask bs (ja_mask bs L) = (bif b then x else none) :: ja_mask bs L
    rw [ja_mask2 bs L]
    cases b <;> rfl
theorem ja_D_mask (φ : Bool) (E : ja_E) (c : List ja_I) (i : Nat) (L : ja_L) (S : List ja_V) (M : ja_M) : ja_D φ E c i (ja_mask (ja_nth c i ja_row0).2.2.2.2.2 L) S M = ja_D φ E c i L S M := by
  rw [ja_D_eq, ja_D_eq φ E c i L, ja_step_eq, ja_step_eq, ja_mask2]
theorem ja_D_go (φ : Bool) (E : ja_E) (c : List ja_I) : ∀ (k i : Nat) (L : ja_L) (S : List ja_V) (M : ja_M), ja_go φ E c (ja_D φ E c) k i L S M = ja_D φ E c i L S M
  | 0, _, _, _, _ => rfl
  | k + 1, i, L, S, M => by
    have hf : ja_go φ E c (ja_D φ E c) k = ja_D φ E c := by
      funext i L S M
      exact ja_D_go φ E c k i L S M
    show ja_goB φ E (ja_D φ E c) i L S M (ja_go φ E c (ja_D φ E c) k) (ja_nth c i ja_row0) = _
    rw [hf]
    have hm := ja_D_mask φ E c i L S M
    have he := ja_D_eq φ E c i L S M
    rw [ja_step_eq] at he
    generalize ja_nth c i ja_row0 = r at hm he ⊢
    obtain ⟨o, a, n, b, t, ms⟩ := r
    cases ms with
    | nil => exact he.symm
    | cons b bs => exact (ja_fc_eq _ _).trans hm
/-- k steps behind the first one, or to loops' heads -/
theorem ja_blk (φ : Bool) (E : ja_E) (c : List ja_I) (k i : Nat) (L : ja_L) (S : List ja_V) (M : ja_M) : ja_D φ E c i L S M = ja_step φ E c (ja_go φ E c (ja_D φ E c) k) i L S M := by
  have hf : ja_go φ E c (ja_D φ E c) k = ja_D φ E c := by
    funext i L S M
    exact ja_D_go φ E c k i L S M
  rw [hf]
  exact ja_D_eq φ E c i L S M
theorem ja_x_eq (φ : Bool) (d y : Nat) (as : List ja_V) (M : ja_M) : ja_x φ (d + 1) y as M = cond (Nat.ble (ja_argL as).length (ja_maxL y)) (ja_D φ (ja_x φ d) (ja_code y) 0 (ja_pad (ja_maxL y) (ja_argL as)) [] M) none := rfl
end
section
/-! names: classes, fields, methods, links (printed by wip/whole/gen; the first rows as the claim prints them) -/
def RX0 : String := "HuntTable$Clock"
def TX0 : u_T := fun k => match k with
  | 0 => ("HuntTable$Clock", "hunt", "LHuntTable$Hunt;", true)
  | 1 => ("HuntTable$Clock", "table", "LHuntTable$Table;", true)
  | 2 => ("HuntTable$Clock", "cameAt", "[[I", true)
  | 3 => ("HuntTable$Clock", "clashBits", "[[I", true)
  | 4 => ("HuntTable$Clock", "row", "[I", true)
  | 5 => ("HuntTable$Clock", "mostStart", "I", false)
  | 6 => ("HuntTable$Clock", "leastSum", "I", false)
  | _ => ("HuntTable$Clock", "leastRow", "I", false)
def tyX0 : Nat → FieldType := fun k => match k with
  | 0 => .object "HuntTable$Hunt"
  | 1 => .object "HuntTable$Table"
  | 2 => .array (.array .int)
  | 3 => .array (.array .int)
  | 4 => .array .int
  | 5 => .int
  | 6 => .int
  | _ => .int
theorem nmX0 : ∀ a, a < 8 → ∀ b, b < 8 → a ≠ b → (TX0 a).2.1 ≠ (TX0 b).2.1 := by decide +kernel
theorem tyX0_ok : ∀ k, k < 8 → parseFieldDescriptor (TX0 k).2.2.1 = some (tyX0 k) := by decide +kernel
def RX1 : String := "HuntTable$Finds"
def TX1 : u_T := fun k => match k with
  | 0 => ("HuntTable$Finds", "hunt", "LHuntTable$Hunt;", true)
  | 1 => ("HuntTable$Finds", "left", "[[I", true)
  | 2 => ("HuntTable$Finds", "ways", "[I", true)
  | 3 => ("HuntTable$Finds", "size", "I", false)
  | 4 => ("HuntTable$Finds", "tableOrders", "[I", false)
  | 5 => ("HuntTable$Finds", "tablesKnown", "Z", false)
  | 6 => ("HuntTable$Finds", "tableCount", "I", false)
  | 7 => ("HuntTable$Finds", "mostTables", "I", false)
  | 8 => ("HuntTable$Finds", "open", "[[I", true)
  | 9 => ("HuntTable$Finds", "rising", "[I", true)
  | 10 => ("HuntTable$Finds", "placesUsed", "[I", true)
  | 11 => ("HuntTable$Finds", "turnUsed", "[I", true)
  | 12 => ("HuntTable$Finds", "who", "[[I", true)
  | _ => ("HuntTable$Finds", "followed", "[[I", true)
def tyX1 : Nat → FieldType := fun k => match k with
  | 0 => .object "HuntTable$Hunt"
  | 1 => .array (.array .int)
  | 2 => .array .int
  | 3 => .int
  | 4 => .array .int
  | 5 => .boolean
  | 6 => .int
  | 7 => .int
  | 8 => .array (.array .int)
  | 9 => .array .int
  | 10 => .array .int
  | 11 => .array .int
  | 12 => .array (.array .int)
  | _ => .array (.array .int)
theorem nmX1 : ∀ a, a < 14 → ∀ b, b < 14 → a ≠ b → (TX1 a).2.1 ≠ (TX1 b).2.1 := by decide +kernel
theorem tyX1_ok : ∀ k, k < 14 → parseFieldDescriptor (TX1 k).2.2.1 = some (tyX1 k) := by decide +kernel
def RX2 : String := "HuntTable$HelperCount"
def TX2 : u_T := fun k => match k with
  | 0 => ("HuntTable$HelperCount", "hunt", "LHuntTable$Hunt;", true)
  | 1 => ("HuntTable$HelperCount", "table", "LHuntTable$Table;", true)
  | 2 => ("HuntTable$HelperCount", "reach", "[[I", true)
  | 3 => ("HuntTable$HelperCount", "turns", "[I", true)
  | 4 => ("HuntTable$HelperCount", "places", "[I", true)
  | 5 => ("HuntTable$HelperCount", "nextDuty", "[I", true)
  | 6 => ("HuntTable$HelperCount", "dutyAhead", "[I", true)
  | 7 => ("HuntTable$HelperCount", "lookedFrom", "[I", true)
  | 8 => ("HuntTable$HelperCount", "queue", "[I", true)
  | 9 => ("HuntTable$HelperCount", "duties", "I", false)
  | _ => ("HuntTable$HelperCount", "queued", "I", false)
def tyX2 : Nat → FieldType := fun k => match k with
  | 0 => .object "HuntTable$Hunt"
  | 1 => .object "HuntTable$Table"
  | 2 => .array (.array .int)
  | 3 => .array .int
  | 4 => .array .int
  | 5 => .array .int
  | 6 => .array .int
  | 7 => .array .int
  | 8 => .array .int
  | 9 => .int
  | _ => .int
theorem nmX2 : ∀ a, a < 11 → ∀ b, b < 11 → a ≠ b → (TX2 a).2.1 ≠ (TX2 b).2.1 := by decide +kernel
theorem tyX2_ok : ∀ k, k < 11 → parseFieldDescriptor (TX2 k).2.2.1 = some (tyX2 k) := by decide +kernel
def RX3 : String := "HuntTable$Hunt"
def TX3 : u_T := fun k => match k with
  | 0 => ("HuntTable$Hunt", "xs", "[I", true)
  | 1 => ("HuntTable$Hunt", "ys", "[I", true)
  | 2 => ("HuntTable$Hunt", "slows", "[I", true)
  | 3 => ("HuntTable$Hunt", "places", "I", false)
  | 4 => ("HuntTable$Hunt", "bands", "I", false)
  | 5 => ("HuntTable$Hunt", "follow", "I", false)
  | _ => ("HuntTable$Hunt", "stay", "I", false)
def tyX3 : Nat → FieldType := fun k => match k with
  | 0 => .array .int
  | 1 => .array .int
  | 2 => .array .int
  | 3 => .int
  | 4 => .int
  | 5 => .int
  | _ => .int
theorem nmX3 : ∀ a, a < 7 → ∀ b, b < 7 → a ≠ b → (TX3 a).2.1 ≠ (TX3 b).2.1 := by decide +kernel
theorem tyX3_ok : ∀ k, k < 7 → parseFieldDescriptor (TX3 k).2.2.1 = some (tyX3 k) := by decide +kernel
def RX4 : String := "HuntTable$HuntReader"
def TX4 : u_T := fun k => match k with
  | 0 => ("HuntTable$HuntReader", "tape", "LHuntTable$Tape;", true)
  | 1 => ("HuntTable$HuntReader", "draft", "LHuntTable$Hunt;", true)
  | _ => ("HuntTable$HuntReader", "lawTold", "Z", false)
def tyX4 : Nat → FieldType := fun k => match k with
  | 0 => .object "HuntTable$Tape"
  | 1 => .object "HuntTable$Hunt"
  | _ => .boolean
theorem nmX4 : ∀ a, a < 3 → ∀ b, b < 3 → a ≠ b → (TX4 a).2.1 ≠ (TX4 b).2.1 := by decide +kernel
theorem tyX4_ok : ∀ k, k < 3 → parseFieldDescriptor (TX4 k).2.2.1 = some (tyX4 k) := by decide +kernel
def RX5 : String := "HuntTable$OrderSearch"
def TX5 : u_T := fun k => match k with
  | 0 => ("HuntTable$OrderSearch", "hunt", "LHuntTable$Hunt;", true)
  | 1 => ("HuntTable$OrderSearch", "table", "LHuntTable$Table;", true)
  | 2 => ("HuntTable$OrderSearch", "clock", "LHuntTable$Clock;", true)
  | 3 => ("HuntTable$OrderSearch", "worths", "LHuntTable$Worths;", true)
  | 4 => ("HuntTable$OrderSearch", "taken", "[I", true)
  | 5 => ("HuntTable$OrderSearch", "band", "I", false)
  | 6 => ("HuntTable$OrderSearch", "found", "Z", false)
  | 7 => ("HuntTable$OrderSearch", "bestOrder", "I", false)
  | _ => ("HuntTable$OrderSearch", "bestValue", "I", false)
def tyX5 : Nat → FieldType := fun k => match k with
  | 0 => .object "HuntTable$Hunt"
  | 1 => .object "HuntTable$Table"
  | 2 => .object "HuntTable$Clock"
  | 3 => .object "HuntTable$Worths"
  | 4 => .array .int
  | 5 => .int
  | 6 => .boolean
  | 7 => .int
  | _ => .int
theorem nmX5 : ∀ a, a < 9 → ∀ b, b < 9 → a ≠ b → (TX5 a).2.1 ≠ (TX5 b).2.1 := by decide +kernel
theorem tyX5_ok : ∀ k, k < 9 → parseFieldDescriptor (TX5 k).2.2.1 = some (tyX5 k) := by decide +kernel
def RX6 : String := "HuntTable$Past"
def TX6 : u_T := fun k => match k with
  | 0 => ("HuntTable$Past", "hunt", "LHuntTable$Hunt;", true)
  | 1 => ("HuntTable$Past", "table", "LHuntTable$Table;", true)
  | 2 => ("HuntTable$Past", "acts", "[[I", true)
  | 3 => ("HuntTable$Past", "nextRow", "I", false)
  | 4 => ("HuntTable$Past", "size", "I", false)
  | 5 => ("HuntTable$Past", "imageOrders", "[I", true)
  | 6 => ("HuntTable$Past", "imageStarts", "[I", true)
  | _ => ("HuntTable$Past", "hasImage", "Z", false)
def tyX6 : Nat → FieldType := fun k => match k with
  | 0 => .object "HuntTable$Hunt"
  | 1 => .object "HuntTable$Table"
  | 2 => .array (.array .int)
  | 3 => .int
  | 4 => .int
  | 5 => .array .int
  | 6 => .array .int
  | _ => .boolean
theorem nmX6 : ∀ a, a < 8 → ∀ b, b < 8 → a ≠ b → (TX6 a).2.1 ≠ (TX6 b).2.1 := by decide +kernel
theorem tyX6_ok : ∀ k, k < 8 → parseFieldDescriptor (TX6 k).2.2.1 = some (tyX6 k) := by decide +kernel
def RX7 : String := "HuntTable$Table"
def TX7 : u_T := fun k => match k with
  | 0 => ("HuntTable$Table", "hunt", "LHuntTable$Hunt;", true)
  | 1 => ("HuntTable$Table", "orders", "[[I", true)
  | 2 => ("HuntTable$Table", "starts", "[I", true)
  | _ => ("HuntTable$Table", "draws", "J", false)
def tyX7 : Nat → FieldType := fun k => match k with
  | 0 => .object "HuntTable$Hunt"
  | 1 => .array (.array .int)
  | 2 => .array .int
  | _ => .long
theorem nmX7 : ∀ a, a < 4 → ∀ b, b < 4 → a ≠ b → (TX7 a).2.1 ≠ (TX7 b).2.1 := by decide +kernel
theorem tyX7_ok : ∀ k, k < 4 → parseFieldDescriptor (TX7 k).2.2.1 = some (tyX7 k) := by decide +kernel
def RX8 : String := "HuntTable$Tape"
def TX8 : u_T := fun k => match k with
  | 0 => ("HuntTable$Tape", "bytes", "[I", true)
  | 1 => ("HuntTable$Tape", "length", "I", false)
  | _ => ("HuntTable$Tape", "position", "I", false)
def tyX8 : Nat → FieldType := fun k => match k with
  | 0 => .array .int
  | 1 => .int
  | _ => .int
theorem nmX8 : ∀ a, a < 3 → ∀ b, b < 3 → a ≠ b → (TX8 a).2.1 ≠ (TX8 b).2.1 := by decide +kernel
theorem tyX8_ok : ∀ k, k < 3 → parseFieldDescriptor (TX8 k).2.2.1 = some (tyX8 k) := by decide +kernel
def RX9 : String := "HuntTable$WorthReader"
def TX9 : u_T := fun k => match k with
  | 0 => ("HuntTable$WorthReader", "tape", "LHuntTable$Tape;", true)
  | 1 => ("HuntTable$WorthReader", "code", "[I", true)
  | _ => ("HuntTable$WorthReader", "size", "I", false)
def tyX9 : Nat → FieldType := fun k => match k with
  | 0 => .object "HuntTable$Tape"
  | 1 => .array .int
  | _ => .int
theorem nmX9 : ∀ a, a < 3 → ∀ b, b < 3 → a ≠ b → (TX9 a).2.1 ≠ (TX9 b).2.1 := by decide +kernel
theorem tyX9_ok : ∀ k, k < 3 → parseFieldDescriptor (TX9 k).2.2.1 = some (tyX9 k) := by decide +kernel
def RX10 : String := "HuntTable$Worths"
def TX10 : u_T := fun k => match k with
  | 0 => ("HuntTable$Worths", "codes", "[[I", true)
  | 1 => ("HuntTable$Worths", "sizes", "[I", true)
  | 2 => ("HuntTable$Worths", "waiting", "[I", true)
  | 3 => ("HuntTable$Worths", "letters", "[I", true)
  | 4 => ("HuntTable$Worths", "size", "I", false)
  | _ => ("HuntTable$Worths", "holding", "I", false)
def tyX10 : Nat → FieldType := fun k => match k with
  | 0 => .array (.array .int)
  | 1 => .array .int
  | 2 => .array .int
  | 3 => .array .int
  | 4 => .int
  | _ => .int
theorem nmX10 : ∀ a, a < 6 → ∀ b, b < 6 → a ≠ b → (TX10 a).2.1 ≠ (TX10 b).2.1 := by decide +kernel
theorem tyX10_ok : ∀ k, k < 6 → parseFieldDescriptor (TX10 k).2.2.1 = some (tyX10 k) := by decide +kernel
def RX11 : String := "HuntTable"
def TX11 : u_T := fun k => match k with
  | 0 => ("HuntTable", "tape", "LHuntTable$Tape;", true)
  | 1 => ("HuntTable", "huntReader", "LHuntTable$HuntReader;", true)
  | 2 => ("HuntTable", "worthReader", "LHuntTable$WorthReader;", true)
  | 3 => ("HuntTable", "hunt", "LHuntTable$Hunt;", true)
  | 4 => ("HuntTable", "worths", "LHuntTable$Worths;", true)
  | 5 => ("HuntTable", "table", "LHuntTable$Table;", true)
  | 6 => ("HuntTable", "past", "LHuntTable$Past;", true)
  | 7 => ("HuntTable", "clock", "LHuntTable$Clock;", true)
  | 8 => ("HuntTable", "orderSearch", "LHuntTable$OrderSearch;", true)
  | 9 => ("HuntTable", "finds", "LHuntTable$Finds;", true)
  | _ => ("HuntTable", "helperCount", "LHuntTable$HelperCount;", true)
def tyX11 : Nat → FieldType := fun k => match k with
  | 0 => .object "HuntTable$Tape"
  | 1 => .object "HuntTable$HuntReader"
  | 2 => .object "HuntTable$WorthReader"
  | 3 => .object "HuntTable$Hunt"
  | 4 => .object "HuntTable$Worths"
  | 5 => .object "HuntTable$Table"
  | 6 => .object "HuntTable$Past"
  | 7 => .object "HuntTable$Clock"
  | 8 => .object "HuntTable$OrderSearch"
  | 9 => .object "HuntTable$Finds"
  | _ => .object "HuntTable$HelperCount"
theorem nmX11 : ∀ a, a < 11 → ∀ b, b < 11 → a ≠ b → (TX11 a).2.1 ≠ (TX11 b).2.1 := by decide +kernel
theorem tyX11_ok : ∀ k, k < 11 → parseFieldDescriptor (TX11 k).2.2.1 = some (tyX11 k) := by decide +kernel
def RX12 : String := "HuntTableModel"
def TX12 : u_T := fun k => match k with
  | 0 => ("HuntTableModel", "thrown", "I", false)
  | 1 => ("HuntTableModel", "tape", "[I", true)
  | 2 => ("HuntTableModel", "size", "I", false)
  | 3 => ("HuntTableModel", "at", "I", false)
  | 4 => ("HuntTableModel", "wrong", "I", false)
  | 5 => ("HuntTableModel", "deep", "I", false)
  | 6 => ("HuntTableModel", "code", "[I", true)
  | 7 => ("HuntTableModel", "value", "[I", true)
  | 8 => ("HuntTableModel", "codes", "[I", true)
  | 9 => ("HuntTableModel", "clauses", "[I", true)
  | 10 => ("HuntTableModel", "testFrom", "[I", true)
  | 11 => ("HuntTableModel", "sumFrom", "[I", true)
  | 12 => ("HuntTableModel", "sumTo", "[I", true)
  | 13 => ("HuntTableModel", "laws", "I", false)
  | 14 => ("HuntTableModel", "text", "I", false)
  | 15 => ("HuntTableModel", "letters", "[I", true)
  | 16 => ("HuntTableModel", "stack", "[I", true)
  | 17 => ("HuntTableModel", "readX", "[I", true)
  | 18 => ("HuntTableModel", "readY", "[I", true)
  | 19 => ("HuntTableModel", "readSlow", "[I", true)
  | 20 => ("HuntTableModel", "readPlaces", "I", false)
  | 21 => ("HuntTableModel", "readBands", "I", false)
  | 22 => ("HuntTableModel", "readFollow", "I", false)
  | 23 => ("HuntTableModel", "readStay", "I", false)
  | 24 => ("HuntTableModel", "placeX", "[I", true)
  | 25 => ("HuntTableModel", "placeY", "[I", true)
  | 26 => ("HuntTableModel", "slow", "[I", true)
  | 27 => ("HuntTableModel", "places", "I", false)
  | 28 => ("HuntTableModel", "bands", "I", false)
  | 29 => ("HuntTableModel", "mayFollow", "I", false)
  | 30 => ("HuntTableModel", "stay", "I", false)
  | 31 => ("HuntTableModel", "now", "[I", true)
  | 32 => ("HuntTableModel", "starts", "[I", true)
  | 33 => ("HuntTableModel", "holding", "I", false)
  | 34 => ("HuntTableModel", "kept", "[I", true)
  | 35 => ("HuntTableModel", "acts", "I", false)
  | 36 => ("HuntTableModel", "startsWere", "[I", true)
  | 37 => ("HuntTableModel", "orders", "[I", true)
  | 38 => ("HuntTableModel", "orderMany", "I", false)
  | 39 => ("HuntTableModel", "foundBand", "[I", true)
  | 40 => ("HuntTableModel", "foundTurn", "[I", true)
  | 41 => ("HuntTableModel", "foundPlace", "[I", true)
  | 42 => ("HuntTableModel", "foundIs", "[Z", true)
  | 43 => ("HuntTableModel", "founds", "I", false)
  | 44 => ("HuntTableModel", "tableMany", "I", false)
  | 45 => ("HuntTableModel", "tableAsked", "I", false)
  | 46 => ("HuntTableModel", "tableBand", "I", false)
  | 47 => ("HuntTableModel", "tableFound", "I", false)
  | 48 => ("HuntTableModel", "were", "[I", true)
  | 49 => ("HuntTableModel", "needTurn", "[I", true)
  | 50 => ("HuntTableModel", "needPlace", "[I", true)
  | 51 => ("HuntTableModel", "needs", "I", false)
  | 52 => ("HuntTableModel", "canGo", "[Z", true)
  | 53 => ("HuntTableModel", "matched", "[I", true)
  | 54 => ("HuntTableModel", "asked", "[Z", true)
  | 55 => ("HuntTableModel", "image", "[I", true)
  | 56 => ("HuntTableModel", "imageStarts", "[I", true)
  | _ => ("HuntTableModel", "hasImage", "Z", false)
def tyX12 : Nat → FieldType := fun k => match k with
  | 0 => .int
  | 1 => .array .int
  | 2 => .int
  | 3 => .int
  | 4 => .int
  | 5 => .int
  | 6 => .array .int
  | 7 => .array .int
  | 8 => .array .int
  | 9 => .array .int
  | 10 => .array .int
  | 11 => .array .int
  | 12 => .array .int
  | 13 => .int
  | 14 => .int
  | 15 => .array .int
  | 16 => .array .int
  | 17 => .array .int
  | 18 => .array .int
  | 19 => .array .int
  | 20 => .int
  | 21 => .int
  | 22 => .int
  | 23 => .int
  | 24 => .array .int
  | 25 => .array .int
  | 26 => .array .int
  | 27 => .int
  | 28 => .int
  | 29 => .int
  | 30 => .int
  | 31 => .array .int
  | 32 => .array .int
  | 33 => .int
  | 34 => .array .int
  | 35 => .int
  | 36 => .array .int
  | 37 => .array .int
  | 38 => .int
  | 39 => .array .int
  | 40 => .array .int
  | 41 => .array .int
  | 42 => .array .boolean
  | 43 => .int
  | 44 => .int
  | 45 => .int
  | 46 => .int
  | 47 => .int
  | 48 => .array .int
  | 49 => .array .int
  | 50 => .array .int
  | 51 => .int
  | 52 => .array .boolean
  | 53 => .array .int
  | 54 => .array .boolean
  | 55 => .array .int
  | 56 => .array .int
  | _ => .boolean
theorem nmX12 : ∀ a, a < 58 → ∀ b, b < 58 → a ≠ b → (TX12 a).2.1 ≠ (TX12 b).2.1 := by decide +kernel
theorem tyX12_ok : ∀ k, k < 58 → parseFieldDescriptor (TX12 k).2.2.1 = some (tyX12 k) := by decide +kernel
abbrev jm_cl : List vw_C := [(RX0, TX0, 8), (RX1, TX1, 14), (RX2, TX2, 11), (RX3, TX3, 7), (RX4, TX4, 3), (RX5, TX5, 9), (RX6, TX6, 8), (RX7, TX7, 4), (RX8, TX8, 3), (RX9, TX9, 3), (RX10, TX10, 6), (RX11, TX11, 11), (RX12, TX12, 58)]
def jm_cns : List String := [RX0, RX1, RX2, RX3, RX4, RX5, RX6, RX7, RX8, RX9, RX10, RX11, RX12, "HuntTableLaw", "java/lang/Integer", "java/lang/Long"]
def jm_cn (k : Nat) : String := ja_nth jm_cns k ""
def jm_Ts : List u_T := [TX0, TX1, TX2, TX3, TX4, TX5, TX6, TX7, TX8, TX9, TX10, TX11, TX12]
def jm_T (k : Nat) : u_T := ja_nth jm_Ts k TX0
def jm_tys : List (Nat → FieldType) := [tyX0, tyX1, tyX2, tyX3, tyX4, tyX5, tyX6, tyX7, tyX8, tyX9, tyX10, tyX11, tyX12]
def jm_ty (k : Nat) : Nat → FieldType := ja_nth jm_tys k tyX0
def jm_Ns : List Nat := [8, 14, 11, 7, 3, 9, 8, 4, 3, 3, 6, 11, 58]
def jm_N (k : Nat) : Nat := ja_nth jm_Ns k 0
abbrev jm_Y : Type := MethodName × ByteArray × Nat × Option FieldType
def jm_all0 : List jm_Y := [(⟨"HuntTable", "<init>", "()V"⟩, prog_1_method_1_code, 1, none), (⟨"HuntTable$Tape", "<init>", "()V"⟩, prog_10_method_1_code, 1, none), (⟨"HuntTable$HuntReader", "<init>", "(LHuntTable$Tape;)V"⟩, prog_6_method_1_code, 2, none), (⟨"HuntTable$Hunt", "<init>", "()V"⟩, prog_5_method_1_code, 1, none), (⟨"HuntTable$WorthReader", "<init>", "(LHuntTable$Tape;)V"⟩, prog_11_method_1_code, 2, none), (⟨"HuntTable$Worths", "<init>", "()V"⟩, prog_12_method_1_code, 1, none), (⟨"HuntTable$Table", "<init>", "(LHuntTable$Hunt;)V"⟩, prog_9_method_1_code, 2, none), (⟨"HuntTable$Past", "<init>", "(LHuntTable$Hunt;LHuntTable$Table;)V"⟩, prog_8_method_1_code, 3, none), (⟨"HuntTable$Clock", "<init>", "(LHuntTable$Hunt;LHuntTable$Table;)V"⟩, prog_2_method_1_code, 3, none), (⟨"HuntTable$OrderSearch", "<init>", "(LHuntTable$Hunt;LHuntTable$Table;LHuntTable$Clock;LHuntTable$Worths;)V"⟩, prog_7_method_1_code, 5, none), (⟨"HuntTable$Finds", "<init>", "(LHuntTable$Hunt;)V"⟩, prog_3_method_1_code, 2, none), (⟨"HuntTable$HelperCount", "<init>", "(LHuntTable$Hunt;LHuntTable$Table;)V"⟩, prog_4_method_1_code, 3, none), (⟨"HuntTable", "feed", "(IIIII)I"⟩, prog_1_method_2_code, 7, (some .int)), (⟨"HuntTable$Tape", "bytesIn", "(I)I"⟩, prog_10_method_2_code, 3, (some .int)), (⟨"HuntTable$Tape", "hasRoom", "(I)Z"⟩, prog_10_method_3_code, 2, (some .boolean)), (⟨"HuntTable$Tape", "add", "(I)V"⟩, prog_10_method_4_code, 4, none), (⟨"HuntTable$Tape", "length", "()I"⟩, prog_10_method_6_code, 1, (some .int)), (⟨"HuntTable", "end", "(I)Z"⟩, prog_1_method_3_code, 2, (some .boolean)), (⟨"HuntTable$Tape", "cut", "(I)Z"⟩, prog_10_method_5_code, 2, (some .boolean)), (⟨"HuntTable", "fault", "(I)I"⟩, prog_1_method_4_code, 2, (some .int)), (⟨"HuntTable$HuntReader", "read", "()I"⟩, prog_6_method_3_code, 2, (some .int)), (⟨"HuntTable$Tape", "rewind", "()V"⟩, prog_10_method_8_code, 1, none), (⟨"HuntTable$Hunt", "clear", "()V"⟩, prog_5_method_2_code, 1, none), (⟨"HuntTable$HuntReader", "readClause", "()Z"⟩, prog_6_method_4_code, 2, (some .boolean)), (⟨"HuntTable$Tape", "nextSign", "()I"⟩, prog_10_method_9_code, 1, (some .int)), (⟨"HuntTable$HuntReader", "addClause", "(I)Z"⟩, prog_6_method_5_code, 2, (some .boolean)), (⟨"HuntTable$Hunt", "addPlace", "()Z"⟩, prog_5_method_4_code, 1, (some .boolean)), (⟨"HuntTable$Hunt", "addBand", "()Z"⟩, prog_5_method_5_code, 1, (some .boolean)), (⟨"HuntTable$Tape", "pass", "()V"⟩, prog_10_method_10_code, 1, none), (⟨"HuntTable$HuntReader", "readItems", "(I)Z"⟩, prog_6_method_6_code, 5, (some .boolean)), (⟨"HuntTable$HuntReader", "itemOf", "(II)I"⟩, prog_6_method_7_code, 2, (some .int)), (⟨"HuntTable$HuntReader", "readValue", "(I)Z"⟩, prog_6_method_8_code, 3, (some .boolean)), (⟨"HuntTable$Tape", "takeNumber", "(I)I"⟩, prog_10_method_14_code, 4, (some .int)), (⟨"HuntTable$Tape", "isDigit", "(I)Z"⟩, prog_10_method_13_code, 1, (some .boolean)), (⟨"HuntTable$Tape", "stepBack", "()V"⟩, prog_10_method_11_code, 1, none), (⟨"HuntTable$Hunt", "put", "(II)V"⟩, prog_5_method_6_code, 3, none), (⟨"HuntTable$Tape", "position", "()I"⟩, prog_10_method_7_code, 1, (some .int)), (⟨"HuntTable$Hunt", "isWhole", "()Z"⟩, prog_5_method_7_code, 1, (some .boolean)), (⟨"HuntTable$Tape", "take", "(I)Z"⟩, prog_10_method_12_code, 2, (some .boolean)), (⟨"HuntTable$WorthReader", "read", "()I"⟩, prog_11_method_4_code, 2, (some .int))]
def jm_all1 : List jm_Y := [(⟨"HuntTable$WorthReader", "readClause", "()Z"⟩, prog_11_method_6_code, 2, (some .boolean)), (⟨"HuntTable$WorthReader", "readCondition", "(I)Z"⟩, prog_11_method_8_code, 2, (some .boolean)), (⟨"HuntTable$WorthReader", "readTruth", "(I)Z"⟩, prog_11_method_10_code, 2, (some .boolean)), (⟨"HuntTable$WorthReader", "readUnit", "(I)Z"⟩, prog_11_method_12_code, 3, (some .boolean)), (⟨"HuntTable$WorthReader", "readSum", "(I)Z"⟩, prog_11_method_15_code, 4, (some .boolean)), (⟨"HuntTable$WorthReader", "readTerm", "(I)Z"⟩, prog_11_method_16_code, 4, (some .boolean)), (⟨"HuntTable$WorthReader", "readAtom", "(I)Z"⟩, prog_11_method_17_code, 5, (some .boolean)), (⟨"HuntTable$Worths", "letterOf", "(I)I"⟩, prog_12_method_2_code, 1, (some .int)), (⟨"HuntTable$WorthReader", "write", "(I)Z"⟩, prog_11_method_5_code, 2, (some .boolean)), (⟨"HuntTable$WorthReader", "readComparison", "(I)Z"⟩, prog_11_method_14_code, 3, (some .boolean)), (⟨"HuntTable$WorthReader", "isComparison", "(I)Z"⟩, prog_11_method_13_code, 1, (some .boolean)), (⟨"HuntTable$WorthReader", "readMoreUnits", "(I)Z"⟩, prog_11_method_11_code, 3, (some .boolean)), (⟨"HuntTable$WorthReader", "readMoreTruths", "(I)Z"⟩, prog_11_method_9_code, 3, (some .boolean)), (⟨"HuntTable$WorthReader", "readWhatFollowsCondition", "()Z"⟩, prog_11_method_7_code, 2, (some .boolean)), (⟨"HuntTable", "text", "(I)I"⟩, prog_1_method_5_code, 2, (some .int)), (⟨"HuntTable$HuntReader", "draft", "()LHuntTable$Hunt;"⟩, prog_6_method_2_code, 1, (some (.object "HuntTable$Hunt"))), (⟨"HuntTable$Hunt", "copyFrom", "(LHuntTable$Hunt;)V"⟩, prog_5_method_3_code, 2, none), (⟨"HuntTable$Table", "reset", "()V"⟩, prog_9_method_2_code, 4, none), (⟨"HuntTable$Hunt", "places", "()I"⟩, prog_5_method_11_code, 1, (some .int)), (⟨"HuntTable$Hunt", "bands", "()I"⟩, prog_5_method_12_code, 1, (some .int)), (⟨"HuntTable$Past", "forget", "()V"⟩, prog_8_method_2_code, 1, none), (⟨"HuntTable$Finds", "forget", "()V"⟩, prog_3_method_2_code, 3, none), (⟨"HuntTable$Worths", "hasRoom", "()Z"⟩, prog_12_method_3_code, 1, (some .boolean)), (⟨"HuntTable$WorthReader", "code", "()[I"⟩, prog_11_method_2_code, 1, (some (.array .int))), (⟨"HuntTable$WorthReader", "size", "()I"⟩, prog_11_method_3_code, 1, (some .int)), (⟨"HuntTable$Worths", "keep", "([II)I"⟩, prog_12_method_6_code, 3, (some .int)), (⟨"HuntTable", "band", "(II)I"⟩, prog_1_method_7_code, 3, (some .int)), (⟨"HuntTable$Hunt", "hasBand", "(I)Z"⟩, prog_5_method_10_code, 2, (some .boolean)), (⟨"HuntTable$Hunt", "slow", "(I)I"⟩, prog_5_method_17_code, 2, (some .int)), (⟨"HuntTable$Table", "digitsOf", "(I)I"⟩, prog_9_method_6_code, 4, (some .int)), (⟨"HuntTable$Table", "placeOf", "(II)I"⟩, prog_9_method_3_code, 3, (some .int)), (⟨"HuntTable$Hunt", "hasPlace", "(I)Z"⟩, prog_5_method_9_code, 2, (some .boolean)), (⟨"HuntTable$Table", "startOf", "(I)I"⟩, prog_9_method_4_code, 2, (some .int)), (⟨"HuntTable", "order", "(II)I"⟩, prog_1_method_8_code, 3, (some .int)), (⟨"HuntTable$Table", "isOrder", "(I)Z"⟩, prog_9_method_7_code, 6, (some .boolean)), (⟨"HuntTable$Past", "remember", "()V"⟩, prog_8_method_6_code, 1, none), (⟨"HuntTable$Past", "keepOrders", "([I)V"⟩, prog_8_method_4_code, 3, none), (⟨"HuntTable$Table", "putOrder", "(II)V"⟩, prog_9_method_8_code, 5, none), (⟨"HuntTable$Past", "acts", "()I"⟩, prog_8_method_3_code, 1, (some .int)), (⟨"HuntTable", "start", "(II)Z"⟩, prog_1_method_9_code, 3, (some .boolean))]
def jm_all2 : List jm_Y := [(⟨"HuntTable$Table", "putStart", "(II)V"⟩, prog_9_method_5_code, 3, none), (⟨"HuntTable", "worth", "(I)Z"⟩, prog_1_method_10_code, 2, (some .boolean)), (⟨"HuntTable$Worths", "hold", "(I)Z"⟩, prog_12_method_7_code, 2, (some .boolean)), (⟨"HuntTable", "undo", "()I"⟩, prog_1_method_11_code, 1, (some .int)), (⟨"HuntTable$Past", "undoLatest", "()V"⟩, prog_8_method_7_code, 1, none), (⟨"HuntTable$Past", "bringOrders", "([I)V"⟩, prog_8_method_5_code, 3, none), (⟨"HuntTable", "at", "(II)I"⟩, prog_1_method_12_code, 3, (some .int)), (⟨"HuntTable", "follows", "(II)I"⟩, prog_1_method_13_code, 3, (some .int)), (⟨"HuntTable$Table", "timesFollowed", "(II)I"⟩, prog_9_method_12_code, 5, (some .int)), (⟨"HuntTable", "lawful", "()I"⟩, prog_1_method_14_code, 1, (some .int)), (⟨"HuntTable$Hunt", "isTold", "()Z"⟩, prog_5_method_8_code, 1, (some .boolean)), (⟨"HuntTable$Table", "keepsTheLaw", "()Z"⟩, prog_9_method_13_code, 3, (some .boolean)), (⟨"HuntTable$Hunt", "follow", "()I"⟩, prog_5_method_13_code, 1, (some .int)), (⟨"HuntTable$Table", "firstMeetingTurn", "()I"⟩, prog_9_method_11_code, 2, (some .int)), (⟨"HuntTable$Table", "firstMeetingPlace", "(I)I"⟩, prog_9_method_10_code, 3, (some .int)), (⟨"HuntTable$Table", "bandsAt", "(II)I"⟩, prog_9_method_9_code, 5, (some .int)), (⟨"java/lang/Integer", "bitCount", "(I)I"⟩, prog_17_method_49_code, 1, (some .int)), (⟨"HuntTable", "crowd", "(I)I"⟩, prog_1_method_15_code, 4, (some .int)), (⟨"HuntTable", "even", "(III)I"⟩, prog_1_method_16_code, 4, (some .int)), (⟨"HuntTable", "evenTurn", "(II)I"⟩, prog_1_method_17_code, 2, (some .int)), (⟨"HuntTable", "slips", "()I"⟩, prog_1_method_18_code, 1, (some .int)), (⟨"HuntTable$Table", "pairsOfPlaces", "()I"⟩, prog_9_method_15_code, 5, (some .int)), (⟨"java/lang/Long", "bitCount", "(J)I"⟩, prog_18_method_50_code, 2, (some .int)), (⟨"HuntTable", "well", "(II)I"⟩, prog_1_method_19_code, 3, (some .int)), (⟨"HuntTable$Table", "comerTo", "(II)I"⟩, prog_9_method_16_code, 6, (some .int)), (⟨"HuntTable", "sight", "()I"⟩, prog_1_method_20_code, 1, (some .int)), (⟨"HuntTable$Table", "timesSeen", "()I"⟩, prog_9_method_17_code, 5, (some .int)), (⟨"HuntTable$Table", "inOneLine", "(II)Z"⟩, prog_9_method_18_code, 3, (some .boolean)), (⟨"HuntTable$Hunt", "x", "(I)I"⟩, prog_5_method_15_code, 2, (some .int)), (⟨"HuntTable$Hunt", "y", "(I)I"⟩, prog_5_method_16_code, 2, (some .int)), (⟨"HuntTable", "points", "(I)I"⟩, prog_1_method_21_code, 2, (some .int)), (⟨"HuntTable$Clock", "pointsOf", "(ILHuntTable$Worths;)I"⟩, prog_2_method_5_code, 8, (some .int)), (⟨"HuntTable$Clock", "wayOf", "(III)I"⟩, prog_2_method_2_code, 4, (some .int)), (⟨"HuntTable$Hunt", "steps", "(II)I"⟩, prog_5_method_18_code, 3, (some .int)), (⟨"HuntTable$Worths", "valueOf", "(IIIII)I"⟩, prog_12_method_8_code, 6, (some .int)), (⟨"HuntTable$Worths", "run", "([II)I"⟩, prog_12_method_9_code, 7, (some .int)), (⟨"HuntTable$Worths", "letterValue", "(I)I"⟩, prog_12_method_10_code, 2, (some .int)), (⟨"HuntTable$Worths", "join", "(II)I"⟩, prog_12_method_11_code, 4, (some .int)), (⟨"HuntTable$Worths", "joined", "(III)I"⟩, prog_12_method_12_code, 3, (some .int)), (⟨"HuntTable$Worths", "bounded", "(J)I"⟩, prog_12_method_13_code, 2, (some .int))]
def jm_all3 : List jm_Y := [(⟨"HuntTable$Hunt", "stay", "()I"⟩, prog_5_method_14_code, 1, (some .int)), (⟨"HuntTable", "comes", "(II)I"⟩, prog_1_method_22_code, 3, (some .int)), (⟨"HuntTable$Clock", "minuteOf", "(II)I"⟩, prog_2_method_3_code, 7, (some .int)), (⟨"HuntTable", "home", "(I)I"⟩, prog_1_method_23_code, 2, (some .int)), (⟨"HuntTable$Clock", "minuteHome", "(I)I"⟩, prog_2_method_4_code, 3, (some .int)), (⟨"HuntTable", "clashes", "(I)I"⟩, prog_1_method_24_code, 2, (some .int)), (⟨"HuntTable$Clock", "clashingPairs", "()I"⟩, prog_2_method_9_code, 4, (some .int)), (⟨"HuntTable$Clock", "lookWhoComesWhen", "()V"⟩, prog_2_method_6_code, 6, none), (⟨"HuntTable$Clock", "clashOf", "(II)I"⟩, prog_2_method_8_code, 8, (some .int)), (⟨"HuntTable$Clock", "firstClash", "()I"⟩, prog_2_method_10_code, 5, (some .int)), (⟨"HuntTable", "starts", "(II)I"⟩, prog_1_method_25_code, 3, (some .int)), (⟨"HuntTable$Clock", "seekStarts", "(I)V"⟩, prog_2_method_13_code, 4, none), (⟨"HuntTable$Clock", "clashesByStarts", "(II)I"⟩, prog_2_method_14_code, 8, (some .int)), (⟨"HuntTable$Clock", "seekStartOf", "(III)V"⟩, prog_2_method_15_code, 5, none), (⟨"HuntTable$Clock", "startsApart", "(II)Z"⟩, prog_2_method_16_code, 5, (some .boolean)), (⟨"HuntTable$Clock", "leastSum", "()I"⟩, prog_2_method_11_code, 1, (some .int)), (⟨"HuntTable$Clock", "leastRow", "()I"⟩, prog_2_method_12_code, 1, (some .int)), (⟨"HuntTable", "soonest", "(II)I"⟩, prog_1_method_26_code, 3, (some .int)), (⟨"HuntTable$OrderSearch", "seekSoonest", "(I)Z"⟩, prog_7_method_5_code, 2, (some .boolean)), (⟨"HuntTable$OrderSearch", "goSoon", "(IIIII)V"⟩, prog_7_method_6_code, 9, none), (⟨"HuntTable$OrderSearch", "keep", "(II)V"⟩, prog_7_method_4_code, 3, none), (⟨"HuntTable$Clock", "clashesThere", "(III)Z"⟩, prog_2_method_7_code, 5, (some .boolean)), (⟨"HuntTable$OrderSearch", "bestOrder", "()I"⟩, prog_7_method_2_code, 1, (some .int)), (⟨"HuntTable$OrderSearch", "bestValue", "()I"⟩, prog_7_method_3_code, 1, (some .int)), (⟨"HuntTable", "rich", "(II)I"⟩, prog_1_method_27_code, 3, (some .int)), (⟨"HuntTable$OrderSearch", "seekRichest", "(I)Z"⟩, prog_7_method_7_code, 3, (some .boolean)), (⟨"HuntTable$OrderSearch", "placesOfOthers", "(I)I"⟩, prog_7_method_8_code, 4, (some .int)), (⟨"HuntTable$OrderSearch", "goRich", "(IIIIII)V"⟩, prog_7_method_9_code, 12, none), (⟨"HuntTable", "find", "(IIIZ)I"⟩, prog_1_method_28_code, 5, (some .int)), (⟨"HuntTable$Finds", "hasRoom", "()Z"⟩, prog_3_method_3_code, 1, (some .boolean)), (⟨"HuntTable$Finds", "add", "(IIIZ)I"⟩, prog_3_method_5_code, 5, (some .int)), (⟨"HuntTable", "fits", "(I)I"⟩, prog_1_method_29_code, 2, (some .int)), (⟨"HuntTable$Finds", "fittingOrders", "(I)I"⟩, prog_3_method_6_code, 2, (some .int)), (⟨"HuntTable$Finds", "waysThrough", "([I)I"⟩, prog_3_method_7_code, 6, (some .int)), (⟨"HuntTable", "tables", "(II)I"⟩, prog_1_method_30_code, 3, (some .int)), (⟨"HuntTable$Finds", "isSmall", "()Z"⟩, prog_3_method_8_code, 1, (some .boolean)), (⟨"HuntTable$Finds", "howManyTables", "()I"⟩, prog_3_method_9_code, 1, (some .int)), (⟨"HuntTable$Finds", "seekTables", "()V"⟩, prog_3_method_11_code, 1, none), (⟨"HuntTable$Finds", "clearSearch", "()V"⟩, prog_3_method_17_code, 3, none), (⟨"HuntTable$Finds", "someAreLawful", "()Z"⟩, prog_3_method_12_code, 3, (some .boolean))]
def jm_all4 : List jm_Y := [(⟨"HuntTable$Finds", "fillIfItCanBe", "(I)V"⟩, prog_3_method_14_code, 3, none), (⟨"HuntTable$Finds", "shutWhereOthersMustBe", "()V"⟩, prog_3_method_15_code, 5, none), (⟨"HuntTable$Finds", "shutElsewhere", "(II)Z"⟩, prog_3_method_16_code, 6, (some .boolean)), (⟨"HuntTable$Finds", "fill", "(II)V"⟩, prog_3_method_18_code, 8, none), (⟨"HuntTable$Finds", "keepTable", "()V"⟩, prog_3_method_23_code, 2, none), (⟨"HuntTable$Finds", "mayFollow", "(II)Z"⟩, prog_3_method_19_code, 3, (some .boolean)), (⟨"HuntTable$Finds", "set", "(III)V"⟩, prog_3_method_21_code, 4, none), (⟨"HuntTable$Finds", "follow", "(III)V"⟩, prog_3_method_20_code, 4, none), (⟨"HuntTable$Finds", "unset", "(IIII)V"⟩, prog_3_method_22_code, 5, none), (⟨"HuntTable$Finds", "openWhatIsLeft", "()V"⟩, prog_3_method_13_code, 3, none), (⟨"HuntTable$Finds", "orderInTable", "(II)I"⟩, prog_3_method_10_code, 3, (some .int)), (⟨"HuntTable", "wrong", "(IIII)I"⟩, prog_1_method_31_code, 5, (some .int)), (⟨"HuntTable$Table", "followsGoneWrong", "(III)I"⟩, prog_9_method_14_code, 8, (some .int)), (⟨"HuntTable", "helpers", "(I)I"⟩, prog_1_method_32_code, 2, (some .int)), (⟨"HuntTable$HelperCount", "fewest", "(I)I"⟩, prog_4_method_2_code, 4, (some .int)), (⟨"HuntTable$HelperCount", "fillReach", "(I)V"⟩, prog_4_method_3_code, 4, none), (⟨"HuntTable$HelperCount", "oneMoveMore", "(III)I"⟩, prog_4_method_4_code, 6, (some .int)), (⟨"HuntTable$HelperCount", "gatherDuties", "()V"⟩, prog_4_method_5_code, 3, none), (⟨"HuntTable$HelperCount", "joinOneMore", "(I)Z"⟩, prog_4_method_7_code, 4, (some .boolean)), (⟨"HuntTable$HelperCount", "lookFrom", "(I)I"⟩, prog_4_method_8_code, 3, (some .int)), (⟨"HuntTable$HelperCount", "canJoin", "(II)Z"⟩, prog_4_method_6_code, 4, (some .boolean)), (⟨"HuntTable$HelperCount", "giveWay", "(I)V"⟩, prog_4_method_9_code, 6, none), (⟨"HuntTable", "pieces", "(III)I"⟩, prog_1_method_33_code, 5, (some .int)), (⟨"HuntTable", "howManySets", "(II)I"⟩, prog_1_method_34_code, 4, (some .int)), (⟨"HuntTable", "setByNumber", "(III)I"⟩, prog_1_method_35_code, 5, (some .int)), (⟨"HuntTable", "drawn", "(J)I"⟩, prog_1_method_36_code, 3, (some .int)), (⟨"HuntTable$Table", "drawOrders", "(J)V"⟩, prog_9_method_19_code, 4, none), (⟨"HuntTable$Table", "drawOrder", "([I)V"⟩, prog_9_method_20_code, 6, none), (⟨"HuntTable$Table", "nextDraw", "(I)I"⟩, prog_9_method_21_code, 2, (some .int)), (⟨"HuntTable", "image", "()I"⟩, prog_1_method_37_code, 1, (some .int)), (⟨"HuntTable$Past", "takeImage", "()V"⟩, prog_8_method_8_code, 2, none), (⟨"HuntTable", "back", "()I"⟩, prog_1_method_38_code, 1, (some .int)), (⟨"HuntTable$Past", "hasImage", "()Z"⟩, prog_8_method_9_code, 1, (some .boolean)), (⟨"HuntTable$Past", "goBack", "()I"⟩, prog_8_method_10_code, 2, (some .int)), (⟨"HuntTable", "again", "()I"⟩, prog_1_method_39_code, 1, (some .int)), (⟨"HuntTable$Past", "likeImage", "()I"⟩, prog_8_method_11_code, 5, (some .int)), (⟨"HuntTable", "count", "(I)I"⟩, prog_1_method_40_code, 2, (some .int)), (⟨"HuntTable$Worths", "size", "()I"⟩, prog_12_method_4_code, 1, (some .int)), (⟨"HuntTable$Worths", "holding", "()I"⟩, prog_12_method_5_code, 1, (some .int)), (⟨"HuntTable$Finds", "size", "()I"⟩, prog_3_method_4_code, 1, (some .int))]
def jm_all5 : List jm_Y := [(⟨"HuntTableModel", "<init>", "()V"⟩, prog_14_method_3_code, 1, none), (⟨"HuntTableModel", "thrown", "()I"⟩, prog_14_method_4_code, 1, (some .int)), (⟨"HuntTableModel", "feed", "(IIIII)I"⟩, prog_14_method_6_code, 9, (some .int)), (⟨"HuntTableModel", "byteOf", "(IIIIII)I"⟩, prog_14_method_5_code, 7, (some .int)), (⟨"HuntTableModel", "end", "(I)Z"⟩, prog_14_method_7_code, 2, (some .boolean)), (⟨"HuntTableModel", "fault", "(I)I"⟩, prog_14_method_39_code, 2, (some .int)), (⟨"HuntTableModel", "readHunt", "()I"⟩, prog_14_method_38_code, 4, (some .int)), (⟨"HuntTableModel", "look", "()I"⟩, prog_14_method_9_code, 1, (some .int)), (⟨"HuntTableModel", "here", "()I"⟩, prog_14_method_8_code, 1, (some .int)), (⟨"HuntTableModel", "placeText", "()V"⟩, prog_14_method_35_code, 4, none), (⟨"HuntTableModel", "has", "(II)Z"⟩, prog_14_method_2_code, 2, (some .boolean)), (⟨"HuntTableModel", "number", "(II)I"⟩, prog_14_method_34_code, 4, (some .int)), (⟨"HuntTableModel", "isDigit", "(I)Z"⟩, prog_14_method_11_code, 1, (some .boolean)), (⟨"HuntTableModel", "bad", "()V"⟩, prog_14_method_10_code, 1, none), (⟨"HuntTableModel", "in", "(III)Z"⟩, prog_14_method_1_code, 3, (some .boolean)), (⟨"HuntTableModel", "bandText", "()V"⟩, prog_14_method_36_code, 1, none), (⟨"HuntTableModel", "lawText", "()V"⟩, prog_14_method_37_code, 4, none), (⟨"HuntTableModel", "readLaw", "(I)I"⟩, prog_14_method_29_code, 2, (some .int)), (⟨"HuntTableModel", "open", "(I)V"⟩, prog_14_method_27_code, 2, none), (⟨"HuntTableModel", "clause", "()V"⟩, prog_14_method_26_code, 3, none), (⟨"HuntTableModel", "condition", "()V"⟩, prog_14_method_25_code, 1, none), (⟨"HuntTableModel", "unit", "()V"⟩, prog_14_method_22_code, 2, none), (⟨"HuntTableModel", "opens", "()V"⟩, prog_14_method_14_code, 1, none), (⟨"HuntTableModel", "put", "(II)V"⟩, prog_14_method_12_code, 3, none), (⟨"HuntTableModel", "closes", "(I)V"⟩, prog_14_method_15_code, 2, none), (⟨"HuntTableModel", "sum", "()V"⟩, prog_14_method_19_code, 2, none), (⟨"HuntTableModel", "term", "()V"⟩, prog_14_method_18_code, 2, none), (⟨"HuntTableModel", "atom", "()V"⟩, prog_14_method_17_code, 2, none), (⟨"HuntTableModel", "plainNumber", "()I"⟩, prog_14_method_16_code, 3, (some .int)), (⟨"HuntTableModel", "letterOf", "(I)I"⟩, prog_14_method_13_code, 1, (some .int)), (⟨"HuntTableModel", "compare", "()V"⟩, prog_14_method_21_code, 2, none), (⟨"HuntTableModel", "isSign", "(I)Z"⟩, prog_14_method_20_code, 1, (some .boolean)), (⟨"HuntTableModel", "goOnAnd", "()V"⟩, prog_14_method_23_code, 1, none), (⟨"HuntTableModel", "goOnOr", "()V"⟩, prog_14_method_24_code, 1, none), (⟨"HuntTableModel", "atEnd", "()I"⟩, prog_14_method_28_code, 1, (some .int)), (⟨"HuntTableModel", "text", "(I)I"⟩, prog_14_method_41_code, 2, (some .int)), (⟨"HuntTableModel", "takeHunt", "()I"⟩, prog_14_method_40_code, 3, (some .int)), (⟨"HuntTableModel", "place", "(II)I"⟩, prog_14_method_44_code, 3, (some .int)), (⟨"HuntTableModel", "isPlace", "(I)Z"⟩, prog_14_method_42_code, 2, (some .boolean)), (⟨"HuntTableModel", "band", "(II)I"⟩, prog_14_method_47_code, 3, (some .int))]
def jm_all6 : List jm_Y := [(⟨"HuntTableModel", "isBand", "(I)Z"⟩, prog_14_method_43_code, 2, (some .boolean)), (⟨"HuntTableModel", "orderOf", "(I)I"⟩, prog_14_method_46_code, 4, (some .int)), (⟨"HuntTableModel", "of", "(II)I"⟩, prog_14_method_45_code, 3, (some .int)), (⟨"HuntTableModel", "order", "(II)I"⟩, prog_14_method_53_code, 3, (some .int)), (⟨"HuntTableModel", "isOrder", "(I)Z"⟩, prog_14_method_50_code, 4, (some .boolean)), (⟨"HuntTableModel", "nth", "(II)I"⟩, prog_14_method_49_code, 3, (some .int)), (⟨"HuntTableModel", "ten", "(I)I"⟩, prog_14_method_48_code, 3, (some .int)), (⟨"HuntTableModel", "keep", "()V"⟩, prog_14_method_52_code, 2, none), (⟨"HuntTableModel", "write", "(II)V"⟩, prog_14_method_51_code, 4, none), (⟨"HuntTableModel", "start", "(II)Z"⟩, prog_14_method_54_code, 3, (some .boolean)), (⟨"HuntTableModel", "worth", "(I)Z"⟩, prog_14_method_55_code, 2, (some .boolean)), (⟨"HuntTableModel", "undo", "()I"⟩, prog_14_method_56_code, 2, (some .int)), (⟨"HuntTableModel", "at", "(II)I"⟩, prog_14_method_57_code, 3, (some .int)), (⟨"HuntTableModel", "follows", "(II)I"⟩, prog_14_method_59_code, 3, (some .int)), (⟨"HuntTableModel", "followsOf", "(II)I"⟩, prog_14_method_58_code, 5, (some .int)), (⟨"HuntTableModel", "lawful", "()I"⟩, prog_14_method_62_code, 1, (some .int)), (⟨"HuntTableModel", "isLawful", "(I)Z"⟩, prog_14_method_61_code, 4, (some .boolean)), (⟨"HuntTableModel", "doMeet", "(II)Z"⟩, prog_14_method_60_code, 4, (some .boolean)), (⟨"HuntTableModel", "crowd", "(I)I"⟩, prog_14_method_64_code, 4, (some .int)), (⟨"HuntTableModel", "bandsAt", "(II)I"⟩, prog_14_method_63_code, 5, (some .int)), (⟨"HuntTableModel", "even", "(III)I"⟩, prog_14_method_65_code, 5, (some .int)), (⟨"HuntTableModel", "slips", "()I"⟩, prog_14_method_66_code, 7, (some .int)), (⟨"HuntTableModel", "well", "(II)I"⟩, prog_14_method_67_code, 6, (some .int)), (⟨"HuntTableModel", "sight", "()I"⟩, prog_14_method_68_code, 7, (some .int)), (⟨"HuntTableModel", "comes", "(II)I"⟩, prog_14_method_73_code, 3, (some .int)), (⟨"HuntTableModel", "comesAt", "(II)I"⟩, prog_14_method_71_code, 5, (some .int)), (⟨"HuntTableModel", "ahead", "(II)I"⟩, prog_14_method_70_code, 3, (some .int)), (⟨"HuntTableModel", "steps", "(II)I"⟩, prog_14_method_69_code, 5, (some .int)), (⟨"HuntTableModel", "home", "(I)I"⟩, prog_14_method_74_code, 2, (some .int)), (⟨"HuntTableModel", "homeOf", "(I)I"⟩, prog_14_method_72_code, 3, (some .int)), (⟨"HuntTableModel", "points", "(I)I"⟩, prog_14_method_76_code, 2, (some .int)), (⟨"HuntTableModel", "pointsOf", "(I)I"⟩, prog_14_method_75_code, 4, (some .int)), (⟨"HuntTableModel", "worthOf", "(I)I"⟩, prog_14_method_33_code, 3, (some .int)), (⟨"HuntTableModel", "workOut", "(III)I"⟩, prog_14_method_32_code, 6, (some .int)), (⟨"HuntTableModel", "worked", "(IJJ)I"⟩, prog_14_method_31_code, 5, (some .int)), (⟨"HuntTableModel", "bounded", "(J)I"⟩, prog_14_method_30_code, 2, (some .int)), (⟨"HuntTableModel", "clashes", "(I)I"⟩, prog_14_method_78_code, 7, (some .int)), (⟨"HuntTableModel", "clashOf", "(II)I"⟩, prog_14_method_77_code, 8, (some .int)), (⟨"HuntTableModel", "starts", "(II)I"⟩, prog_14_method_79_code, 12, (some .int)), (⟨"HuntTableModel", "soonest", "(II)I"⟩, prog_14_method_83_code, 8, (some .int))]
def jm_all7 : List jm_Y := [(⟨"HuntTableModel", "layOrders", "()V"⟩, prog_14_method_81_code, 1, none), (⟨"HuntTableModel", "build", "(II)V"⟩, prog_14_method_80_code, 4, none), (⟨"HuntTableModel", "doesClash", "(I)Z"⟩, prog_14_method_82_code, 3, (some .boolean)), (⟨"HuntTableModel", "rich", "(II)I"⟩, prog_14_method_85_code, 8, (some .int)), (⟨"HuntTableModel", "meetsAny", "(I)Z"⟩, prog_14_method_84_code, 3, (some .boolean)), (⟨"HuntTableModel", "find", "(IIIZ)I"⟩, prog_14_method_86_code, 5, (some .int)), (⟨"HuntTableModel", "fits", "(I)I"⟩, prog_14_method_88_code, 4, (some .int)), (⟨"HuntTableModel", "agrees", "(II)Z"⟩, prog_14_method_87_code, 4, (some .boolean)), (⟨"HuntTableModel", "tables", "(II)I"⟩, prog_14_method_91_code, 4, (some .int)), (⟨"HuntTableModel", "tablesFrom", "(I)V"⟩, prog_14_method_90_code, 3, none), (⟨"HuntTableModel", "goesWith", "(I)Z"⟩, prog_14_method_89_code, 3, (some .boolean)), (⟨"HuntTableModel", "wrong", "(IIII)I"⟩, prog_14_method_92_code, 9, (some .int)), (⟨"HuntTableModel", "helpers", "(I)I"⟩, prog_14_method_95_code, 5, (some .int)), (⟨"HuntTableModel", "hop", "(III)I"⟩, prog_14_method_93_code, 9, (some .int)), (⟨"HuntTableModel", "match", "(I)Z"⟩, prog_14_method_94_code, 3, (some .boolean)), (⟨"HuntTableModel", "pieces", "(III)I"⟩, prog_14_method_97_code, 6, (some .int)), (⟨"HuntTableModel", "choose", "(II)I"⟩, prog_14_method_96_code, 4, (some .int)), (⟨"HuntTableModel", "drawn", "(J)I"⟩, prog_14_method_98_code, 9, (some .int)), (⟨"HuntTableModel", "image", "()I"⟩, prog_14_method_99_code, 2, (some .int)), (⟨"HuntTableModel", "back", "()I"⟩, prog_14_method_100_code, 2, (some .int)), (⟨"HuntTableModel", "again", "()I"⟩, prog_14_method_101_code, 4, (some .int)), (⟨"HuntTableModel", "count", "(I)I"⟩, prog_14_method_102_code, 2, (some .int))]
def jm_all : List jm_Y := jm_all0 ++ jm_all1 ++ jm_all2 ++ jm_all3 ++ jm_all4 ++ jm_all5 ++ jm_all6 ++ jm_all7 ++ [(⟨"HuntTableLaw", "law", "([I)Z"⟩, code, 7, some .boolean)]
def jm_y (y : Nat) : jm_Y := ja_nth jm_all y (⟨"", "", ""⟩, ⟨#[]⟩, 0, none)
def jm_nm (y : Nat) : MethodName := (jm_y y).1
def jm_b (y : Nat) : ByteArray := (jm_y y).2.1
def jm_rt (y : Nat) : Option FieldType := (jm_y y).2.2.2
def jm_owns : List Nat := [11, 8, 4, 3, 9, 10, 7, 6, 0, 5, 1, 2, 11, 8, 8, 8, 8, 11, 8, 11, 4, 8, 3, 4, 8, 4, 3, 3, 8, 4, 4, 4, 8, 8, 8, 3, 8, 3, 8, 9, 9, 9, 9, 9, 9, 9, 9, 10, 9, 9, 9, 9, 9, 9, 11, 4, 3, 7, 3, 3, 6, 1, 10, 9, 9, 10, 11, 3, 3, 7, 7, 3, 7, 11, 7, 6, 6, 7, 6, 11, 7, 11, 10, 11, 6, 6, 11, 11, 7, 11, 3, 7, 3, 7, 7, 7, 14, 11, 11, 11, 11, 7, 15, 11, 7, 11, 7, 7, 3, 3, 11, 0, 0, 3, 10, 10, 10, 10, 10, 10, 3, 11, 0, 11, 0, 11, 0, 0, 0, 0, 11, 0, 0, 0, 0, 0, 0, 11, 5, 5, 5, 0, 5, 5, 11, 5, 5, 5, 11, 1, 1, 11, 1, 1, 11, 1, 1, 1, 1, 1, 1, 1, 1, 1, 1, 1, 1, 1, 1, 1, 1, 11, 7, 11, 2, 2, 2, 2, 2, 2, 2, 2, 11, 11, 11, 11, 7, 7, 7, 11, 6, 11, 6, 6, 11, 6, 11, 10, 10, 1, 12, 12, 12, 12, 12, 12, 12, 12, 12, 12, 12, 12, 12, 12, 12, 12, 12, 12, 12, 12, 12, 12, 12, 12, 12, 12, 12, 12, 12, 12, 12, 12, 12, 12, 12, 12, 12, 12, 12, 12, 12, 12, 12, 12, 12, 12, 12, 12, 12, 12, 12, 12, 12, 12, 12, 12, 12, 12, 12, 12, 12, 12, 12, 12, 12, 12, 12, 12, 12, 12, 12, 12, 12, 12, 12, 12, 12, 12, 12, 12, 12, 12, 12, 12, 12, 12, 12, 12, 12, 12, 12, 12, 12, 12, 12, 12, 12, 12, 12, 12, 12, 12, 13]
def jm_own (y : Nat) : Nat := ja_nth jm_owns y 99
def q_X_init : List Nat := [0, 1, 4, 5, 8, 9, 12, 15, 16, 19, 20, 21, 24, 27, 30, 31, 34, 35, 36, 39, 42, 45, 46, 49, 50, 53, 56, 57, 60, 61, 64, 67, 68, 71, 72, 73, 76, 79, 82, 83, 86, 87, 88, 91, 92, 95, 98, 101, 102, 105, 106, 107, 110, 111, 114, 117, 120, 121, 124, 125, 126, 129, 130, 133, 134, 137, 138, 141, 144, 147, 148, 151, 152, 153, 156, 159, 162, 163, 166, 167, 168, 171, 172, 175, 178, 181, 182]
def q_Tape_init : List Nat := [0, 1, 4, 5, 8, 10, 13, 14]
def q_HuntReader_init : List Nat := [0, 1, 4, 5, 8, 9, 12, 15, 16, 17, 20, 21]
def q_Hunt_init : List Nat := [0, 1, 4, 5, 7, 9, 12, 13, 15, 17, 20, 21, 23, 25, 28, 29]
def q_WorthReader_init : List Nat := [0, 1, 4, 5, 8, 10, 13, 14, 15, 18, 19]
def q_Worths_init : List Nat := [0, 1, 4, 5, 6, 9, 13, 16, 17, 18, 20, 23, 24, 26, 28, 31, 32, 33, 35, 38, 39, 40, 43, 44]
def q_Table_init : List Nat := [0, 1, 4, 5, 7, 9, 13, 16, 17, 19, 21, 24, 25, 26, 29, 30]
def q_Past_init : List Nat := [0, 1, 4, 5, 7, 9, 13, 16, 17, 19, 21, 24, 25, 27, 29, 32, 33, 34, 37, 38, 39, 42, 43]
def q_Clock_init : List Nat := [0, 1, 4, 5, 7, 9, 13, 16, 17, 18, 19, 23, 26, 27, 28, 30, 33, 34, 35, 38, 39, 40, 43, 44]
def q_OrderSearch_init : List Nat := [0, 1, 4, 5, 7, 9, 12, 13, 14, 17, 18, 19, 22, 23, 24, 27, 28, 30, 33, 34]
def q_Finds_init : List Nat := [0, 1, 4, 5, 7, 9, 13, 16, 17, 19, 21, 24, 25, 26, 27, 31, 34, 35, 36, 38, 41, 42, 43, 45, 48, 49, 50, 52, 55, 56, 57, 58, 62, 65, 66, 67, 68, 72, 75, 76, 77, 80, 81]
def q_HelperCount_init : List Nat := [0, 1, 4, 5, 7, 9, 13, 16, 17, 19, 21, 24, 25, 27, 29, 32, 33, 35, 37, 40, 41, 43, 45, 48, 49, 51, 53, 56, 57, 59, 61, 64, 65, 66, 69, 70, 71, 74, 75]
def q_X_feed : List Nat := [0, 1, 4, 5, 8, 9, 10, 13, 14, 16, 19, 20, 22, 25, 26, 28, 29, 32, 34, 37, 40, 41, 42, 43, 46, 47, 50, 51, 54, 55, 58, 59, 62, 63, 66, 67, 70, 72, 75, 76, 79, 81, 84, 85, 88, 91, 92]
def q_Tape_bytesIn : List Nat := [0, 1, 2, 4, 5, 6, 9, 10, 11, 12, 15, 16, 19, 22, 25, 28, 29, 30]
def q_Tape_hasRoom : List Nat := [0, 1, 4, 5, 6, 9, 12, 13, 16, 17, 18]
def q_Tape_add : List Nat := [0, 2, 3, 4, 7, 8, 9, 10, 13, 14, 15, 16, 19, 20, 23, 26, 29, 30, 33, 34, 37, 38, 39, 40, 41, 44, 45, 46, 49, 52, 55, 56]
def q_Tape_length : List Nat := [0, 1, 4, 5]
def q_X_end : List Nat := [0, 1, 4, 5, 8, 9]
def q_Tape_cut : List Nat := [0, 1, 4, 5, 6, 9, 12, 13, 14, 15, 16, 19, 20, 21]
def q_X_fault : List Nat := [0, 1, 4, 5, 8, 11, 12, 13, 14, 17, 18, 21, 24, 25, 27, 28]
def q_HuntReader_read : List Nat := [0, 1, 4, 7, 8, 11, 14, 15, 16, 19, 20, 21, 22, 25, 28, 29, 32, 35, 36, 39, 42, 43, 44, 47, 50, 53, 54, 57, 60, 63, 64, 67, 68, 71, 74, 75, 76, 79, 81, 84, 87, 88, 91, 94, 95, 98, 101, 102, 105, 108, 109]
def q_Tape_rewind : List Nat := [0, 1, 2, 5, 6]
def q_Hunt_clear : List Nat := [0, 1, 2, 5, 6, 7, 10, 11, 12, 15, 16, 17, 20, 21]
def q_HuntReader_readClause : List Nat := [0, 1, 4, 7, 8, 9, 10, 13, 16, 17, 18, 19, 22, 25, 26, 27, 30, 31]
def q_Tape_nextSign : List Nat := [0, 1, 4, 5, 8, 11, 12, 15, 16, 19, 20, 22, 25, 26, 27, 30, 31, 32, 35, 38, 39, 42, 43, 46, 49, 50, 53, 54, 57, 58, 61, 62, 63]
def q_HuntReader_addClause : List Nat := [0, 1, 3, 6, 7, 10, 13, 14, 15, 17, 20, 21, 24, 27, 28, 29, 31, 34, 35, 38, 41, 42, 43, 44, 45, 48, 49, 50]
def q_Hunt_addPlace : List Nat := [0, 1, 4, 6, 9, 10, 11, 12, 15, 16, 19, 20, 21, 22, 25, 26, 29, 30, 31, 32, 33, 36, 37, 38, 41, 42, 43]
def q_Hunt_addBand : List Nat := [0, 1, 4, 6, 9, 10, 11, 12, 15, 16, 19, 20, 21, 22, 23, 26, 27, 28, 31, 32, 33]
def q_Tape_pass : List Nat := [0, 1, 4, 5, 8, 11, 12, 13, 16, 17, 18, 21, 22]
def q_HuntReader_readItems : List Nat := [0, 1, 2, 3, 4, 5, 6, 9, 10, 11, 14, 17, 20, 22, 24, 25, 28, 29, 31, 32, 33, 34, 35, 38, 39, 40, 41, 42, 44, 45, 46, 47, 48, 51, 54, 55, 57, 60, 63, 64, 65, 68, 71, 72, 73]
def q_HuntReader_itemOf : List Nat := [0, 1, 3, 6, 7, 9, 12, 13, 14, 15, 17, 20, 21, 23, 26, 27, 28, 29, 31, 34, 35, 37, 40, 41, 42, 43, 45, 48, 49, 51, 54, 55, 56, 57, 59, 62, 63, 65, 68, 69, 72, 73, 74]
def q_HuntReader_readValue : List Nat := [0, 1, 4, 5, 8, 9, 10, 11, 14, 15, 16, 17, 20, 21, 22, 25, 26, 29, 30, 31, 34, 35, 38, 41, 42, 43, 44, 47, 48, 49, 52, 53, 54]
def q_Tape_takeNumber : List Nat := [0, 1, 4, 7, 10, 11, 12, 13, 14, 15, 18, 19, 22, 23, 24, 27, 28, 29, 32, 33, 36, 37, 40, 41, 44, 45, 48, 51, 52, 54, 55, 56, 59, 60, 63, 64, 65, 67, 68, 69, 70, 71, 74, 75, 76, 79, 82, 83, 86, 87, 90, 93, 94, 97, 98, 101, 102, 105, 108, 109, 112, 113, 114]
def q_Tape_isDigit : List Nat := [0, 1, 3, 6, 7, 9, 12, 13, 16, 17, 18]
def q_Tape_stepBack : List Nat := [0, 1, 4, 7, 8, 9, 12, 13, 14, 17, 18]
def q_Hunt_put : List Nat := [0, 1, 4, 5, 8, 11, 12, 15, 16, 19, 20, 21, 22, 23, 26, 27, 28, 31, 32, 35, 38, 39, 42, 43, 46, 47, 48, 49, 50, 53, 54, 55, 58, 59, 62, 65, 66, 69, 70, 73, 74, 75, 76, 77, 80, 81, 82, 85, 86, 87, 90, 93, 94, 95, 98, 99, 100, 103, 104]
def q_Tape_position : List Nat := [0, 1, 4, 5]
def q_Hunt_isWhole : List Nat := [0, 1, 4, 5, 8, 9, 12, 13, 16, 17, 20, 21, 22]
def q_Tape_take : List Nat := [0, 1, 4, 5, 8, 9, 10, 11, 14, 15, 16]
def q_WorthReader_read : List Nat := [0, 1, 4, 7, 8, 9, 12, 13, 14, 15, 18, 21, 22, 25, 28, 29, 32, 35, 36, 37, 40, 43, 46, 47, 48, 49, 52, 54, 57, 60, 61, 64, 67, 68, 71, 74, 75, 78, 81, 82]
def q_WorthReader_readClause : List Nat := [0, 1, 4, 6, 9, 12, 13, 16, 18, 21, 24, 25, 26, 27, 30, 33, 34, 35, 37, 40, 41, 43, 46, 47, 48, 51, 54, 55, 58, 61, 62, 65, 66, 67, 68, 69, 72, 75, 76, 77, 78, 81, 84, 87, 90, 91, 93, 96, 97, 98, 99, 102, 105, 106, 107, 110, 113, 114, 115, 118, 121, 122, 125, 128, 129, 132, 133, 134]
def q_WorthReader_readCondition : List Nat := [0, 1, 2, 5, 8, 9, 10, 13, 16, 17, 20, 21, 22]
def q_WorthReader_readTruth : List Nat := [0, 1, 2, 5, 8, 9, 10, 13, 16, 17, 20, 21, 22]
def q_WorthReader_readUnit : List Nat := [0, 1, 4, 7, 8, 9, 11, 14, 15, 17, 20, 21, 22, 25, 28, 29, 30, 33, 36, 37, 40, 41, 42, 43, 45, 48, 49, 50, 51, 54, 57, 58, 60, 63, 64, 65, 66, 67, 70, 73, 74, 77, 80, 83, 84, 87, 88, 89, 90, 91, 92, 93, 96, 99, 100, 103, 105, 108, 111, 112, 115, 116, 117]
def q_WorthReader_readSum : List Nat := [0, 1, 2, 5, 8, 9, 10, 11, 12, 13, 16, 19, 20, 23, 26, 27, 28, 30, 33, 34, 36, 39, 40, 41, 42, 45, 48, 49, 50, 53, 56, 57, 58, 59, 62, 63, 64, 67, 68, 71, 74, 75, 76]
def q_WorthReader_readTerm : List Nat := [0, 1, 2, 5, 8, 9, 10, 11, 12, 13, 16, 19, 20, 23, 26, 27, 28, 30, 33, 34, 36, 39, 40, 41, 42, 45, 48, 49, 50, 53, 56, 57, 58, 59, 62, 63, 64, 67, 68, 71, 74, 75, 76]
def q_WorthReader_readAtom : List Nat := [0, 1, 4, 7, 8, 9, 12, 13, 14, 15, 18, 19, 22, 25, 26, 29, 30, 31, 34, 35, 36, 38, 41, 42, 44, 47, 48, 51, 54, 55, 56, 57, 58, 61, 64, 65, 68, 70, 73, 76, 77, 80, 81, 82, 83, 86, 87, 90, 92, 94, 95, 98, 99, 101, 104, 107, 108, 111, 112, 113]
def q_Worths_letterOf : List Nat := [0, 1, 52, 53, 54, 55, 56, 57, 58, 59, 60, 61, 62, 63, 64]
def q_WorthReader_write : List Nat := [0, 1, 4, 5, 8, 9, 12, 13, 16, 17, 20, 21, 22, 23, 24, 27, 28, 29, 32, 33, 34]
def q_WorthReader_readComparison : List Nat := [0, 1, 4, 7, 8, 9, 12, 15, 16, 17, 18, 21, 24, 25, 26, 29, 32, 33, 36, 37, 38, 41, 44, 45, 48, 49, 50]
def q_WorthReader_isComparison : List Nat := [0, 1, 3, 6, 7, 9, 12, 13, 15, 18, 19, 22, 23, 24]
def q_WorthReader_readMoreUnits : List Nat := [0, 1, 2, 3, 6, 9, 10, 13, 15, 18, 21, 22, 23, 26, 29, 30, 31, 32, 35, 38, 39, 42, 45, 46, 47]
def q_WorthReader_readMoreTruths : List Nat := [0, 1, 2, 3, 6, 9, 10, 13, 15, 18, 21, 22, 23, 26, 29, 30, 31, 32, 35, 38, 39, 42, 45, 46, 47]
def q_WorthReader_readWhatFollowsCondition : List Nat := [0, 1, 4, 6, 9, 12, 13, 14, 15, 18, 19, 20, 23, 26, 27, 28, 29, 32, 35, 36, 38, 41, 44, 45, 46, 47, 48, 51, 52, 55, 56, 59, 60, 63, 64, 67, 68, 69, 70, 71]
def q_X_text : List Nat := [0, 1, 4, 5, 8, 11, 12, 15, 16, 19, 20, 23, 24, 25, 28, 29, 32, 35, 38, 39, 42, 45, 46, 49, 52, 53, 56, 59, 60, 63, 66, 67, 68, 69, 72, 73, 76, 79, 82, 83, 86, 89, 90, 93, 94, 97, 98, 101, 102, 103, 106, 107, 110, 113, 114, 117, 120, 123, 124, 125, 126]
def q_HuntReader_draft : List Nat := [0, 1, 4, 5]
def q_Hunt_copyFrom : List Nat := [0, 1, 2, 5, 8, 9, 10, 13, 16, 17, 18, 21, 24, 25, 26, 29, 32, 33, 36, 37, 38, 41, 42, 44, 47, 48, 51, 52, 53, 56, 57, 59, 62, 63, 66, 67, 68, 71, 72, 74, 77, 78]
def q_Table_reset : List Nat := [0, 1, 4, 7, 8, 9, 10, 11, 12, 15, 18, 21, 22, 25, 26, 27, 28, 29, 30, 31, 32, 35, 36, 39, 40, 41, 42, 43, 44, 45, 46, 47, 48, 51, 54, 57, 60, 61]
def q_Hunt_places : List Nat := [0, 1, 4, 5]
def q_Hunt_bands : List Nat := [0, 1, 4, 5]
def q_Past_forget : List Nat := [0, 1, 2, 5, 6, 7, 10, 11]
def q_Finds_forget : List Nat := [0, 1, 2, 5, 6, 7, 10, 11, 12, 13, 14, 17, 20, 23, 24, 25, 26, 27, 30, 33, 36, 37, 40, 41, 42, 43, 44, 45, 48, 51, 52, 53, 54, 55, 58, 61, 64, 67, 68]
def q_Worths_hasRoom : List Nat := [0, 1, 4, 5, 8, 9, 12, 13, 14]
def q_WorthReader_code : List Nat := [0, 1, 4, 5]
def q_WorthReader_size : List Nat := [0, 1, 4, 5]
def q_Worths_keep : List Nat := [0, 1, 4, 5, 8, 9, 12, 13, 14, 15, 18, 19, 22, 25, 26, 27, 28, 29, 30, 33, 34, 37, 38, 39, 40, 43, 44, 47, 48, 51, 52, 53, 54, 55, 58, 59, 60, 63, 64, 67, 68, 69, 70]
def q_X_band : List Nat := [0, 1, 4, 5, 8, 11, 12, 13, 14, 17, 18, 21, 22, 25, 26, 27, 28, 31, 32, 35, 36, 39, 40, 41, 42, 45, 46, 49, 50, 53, 56, 57, 58]
def q_Hunt_hasBand : List Nat := [0, 1, 4, 5, 6, 9, 12, 13, 16, 17, 18]
def q_Hunt_slow : List Nat := [0, 1, 2, 5, 8, 9, 12, 13, 14, 17, 18, 19]
def q_Table_digitsOf : List Nat := [0, 1, 2, 3, 4, 5, 6, 9, 12, 15, 16, 18, 19, 20, 21, 22, 25, 26, 27, 30, 33, 34, 35]
def q_Table_placeOf : List Nat := [0, 1, 4, 5, 8, 11, 12, 15, 16, 19, 22, 23, 26, 27, 28, 29, 30, 33, 34, 35]
def q_Hunt_hasPlace : List Nat := [0, 1, 4, 5, 6, 9, 12, 13, 16, 17, 18]
def q_Table_startOf : List Nat := [0, 1, 4, 5, 8, 11, 12, 15, 16, 17, 20, 21, 22]
def q_X_order : List Nat := [0, 1, 4, 5, 8, 11, 12, 15, 16, 19, 22, 23, 24, 25, 28, 31, 32, 35, 36, 37, 40, 41, 44, 47, 48]
def q_Table_isOrder : List Nat := [0, 1, 2, 3, 4, 5, 7, 9, 10, 13, 16, 19, 20, 22, 23, 25, 26, 29, 31, 34, 37, 38, 40, 41, 42, 43, 44, 47, 48, 49, 50, 51, 53, 54, 55, 56, 57, 59, 60, 61, 64, 67, 68, 71, 72, 75, 76, 77]
def q_Past_remember : List Nat := [0, 1, 2, 5, 6, 9, 10, 13, 14, 15, 18, 19, 20, 22, 23, 26, 27, 28, 31, 32, 33, 35, 38, 41, 42]
def q_Past_keepOrders : List Nat := [0, 1, 2, 3, 4, 7, 10, 13, 14, 15, 16, 19, 20, 21, 22, 25, 26, 29, 30, 33, 36, 37]
def q_Table_putOrder : List Nat := [0, 1, 4, 5, 8, 11, 12, 13, 14, 15, 18, 21, 22, 23, 25, 27, 30, 31, 34, 35, 36, 38, 39, 41, 42, 43, 44, 46, 47, 48, 51, 54, 55]
def q_Past_acts : List Nat := [0, 1, 4, 5]
def q_X_start : List Nat := [0, 1, 4, 5, 8, 11, 12, 15, 16, 18, 21, 22, 23, 24, 27, 28, 29, 32, 33, 34]
def q_Table_putStart : List Nat := [0, 1, 4, 5, 8, 11, 12, 15, 16, 17, 18, 19]
def q_X_worth : List Nat := [0, 1, 4, 5, 8, 9]
def q_Worths_hold : List Nat := [0, 1, 2, 5, 6, 7, 10, 13, 14, 15, 16, 17, 20, 21, 22]
def q_X_undo : List Nat := [0, 1, 4, 7, 10, 11, 12, 13, 16, 19, 20, 23, 26, 27]
def q_Past_undoLatest : List Nat := [0, 1, 4, 7, 8, 9, 10, 13, 15, 16, 17, 18, 20, 21, 24, 25, 26, 29, 30, 31, 34, 35, 36, 39, 40, 43, 44, 47, 48]
def q_Past_bringOrders : List Nat := [0, 1, 2, 3, 4, 7, 10, 13, 14, 15, 16, 19, 20, 23, 24, 25, 26, 27, 30, 33, 36, 37]
def q_X_at : List Nat := [0, 1, 4, 5, 6, 9, 10]
def q_X_follows : List Nat := [0, 1, 2, 5, 6, 9, 10, 13, 16, 17, 20, 21, 24, 27, 28, 29, 30, 33, 34, 35, 38, 39]
def q_Table_timesFollowed : List Nat := [0, 1, 2, 3, 5, 7, 8, 11, 14, 17, 18, 19, 21, 24, 25, 26, 28, 29, 30, 33, 36, 39, 42, 45, 46, 47]
def q_X_lawful : List Nat := [0, 1, 4, 7, 10, 11, 12, 13, 16, 19, 22, 23, 26, 27, 28]
def q_Hunt_isTold : List Nat := [0, 1, 4, 7, 8, 11, 12, 13]
def q_Table_keepsTheLaw : List Nat := [0, 1, 2, 3, 4, 7, 10, 13, 14, 15, 16, 17, 20, 23, 26, 27, 28, 31, 32, 33, 34, 37, 38, 41, 44, 47, 48, 49, 52, 55, 58, 61, 62, 65, 66, 69, 70, 73, 74, 75]
def q_Hunt_follow : List Nat := [0, 1, 4, 5]
def q_Table_firstMeetingTurn : List Nat := [0, 1, 2, 3, 4, 7, 10, 13, 14, 15, 18, 19, 22, 23, 24, 27, 30, 31, 32]
def q_Table_firstMeetingPlace : List Nat := [0, 1, 2, 3, 4, 7, 10, 13, 14, 15, 16, 19, 22, 23, 26, 27, 28, 31, 34, 35, 36]
def q_Table_bandsAt : List Nat := [0, 1, 2, 3, 5, 7, 8, 11, 14, 17, 18, 20, 21, 24, 25, 28, 29, 30, 32, 33, 34, 35, 38, 41, 42, 43]
def q_JInteger_bitCount : List Nat := [0, 1, 2, 3, 4, 7, 8, 9, 10, 11, 14, 15, 16, 17, 18, 21, 22, 23, 24, 25, 26, 27, 28, 29, 32, 33, 34, 35, 36, 38, 39, 40, 41, 42, 43, 45, 46, 47, 48, 49, 51, 52, 53]
def q_X_crowd : List Nat := [0, 1, 4, 5, 6, 9, 10, 11, 12, 15, 18, 19, 20, 21, 24, 25, 28, 29, 30, 31, 34, 35, 38, 39, 40, 41, 44, 45, 48, 49, 52, 53, 54, 57, 58]
def q_X_even : List Nat := [0, 1, 2, 5, 6, 9, 12, 13, 14, 15, 18, 19, 20, 21, 24, 25, 26, 29, 30, 33, 34, 35, 38, 39, 40, 41, 42, 43, 46, 47, 48, 49, 50]
def q_X_evenTurn : List Nat := [0, 1, 2, 3, 4, 7, 8, 9, 10, 11, 12, 13, 14, 17, 18, 21, 22, 23, 24, 25, 26, 27]
def q_X_slips : List Nat := [0, 1, 4, 7, 10, 11, 14, 17, 20, 21, 22]
def q_Table_pairsOfPlaces : List Nat := [0, 1, 2, 3, 4, 5, 6, 9, 12, 15, 16, 18, 20, 21, 24, 27, 30, 31, 32, 33, 34, 36, 37, 38, 41, 43, 44, 45, 46, 48, 51, 52, 53, 54, 55, 58, 61, 64, 67, 68, 71, 72]
def q_JLong_bitCount : List Nat := [0, 1, 2, 3, 4, 7, 8, 9, 10, 11, 14, 15, 16, 17, 18, 21, 22, 23, 24, 25, 26, 27, 28, 29, 32, 33, 34, 35, 36, 38, 39, 40, 41, 42, 43, 45, 46, 47, 48, 49, 50, 52, 53, 54, 55, 56, 57, 59, 60, 61]
def q_X_well : List Nat := [0, 1, 4, 5, 8, 11, 12, 15, 16, 19, 22, 23, 24, 25, 28, 29, 30, 33, 34]
def q_Table_comerTo : List Nat := [0, 1, 2, 3, 5, 7, 8, 11, 14, 17, 18, 20, 22, 23, 26, 29, 32, 33, 35, 37, 40, 41, 44, 45, 46, 49, 51, 52, 55, 58, 61, 64, 67, 68, 69]
def q_X_sight : List Nat := [0, 1, 4, 7, 10, 11, 14, 17, 20, 21, 22]
def q_Table_timesSeen : List Nat := [0, 1, 2, 3, 4, 5, 6, 9, 12, 15, 16, 17, 18, 19, 20, 21, 24, 27, 30, 31, 33, 35, 36, 39, 42, 45, 46, 47, 48, 50, 53, 54, 55, 57, 60, 63, 66, 69, 72, 75, 78, 81, 84, 87, 88, 89]
def q_Table_inOneLine : List Nat := [0, 1, 2, 5, 6, 9, 10, 13, 14, 17, 18, 21, 24, 25, 28, 29, 32, 33, 36, 37, 40, 43, 44, 47, 48, 49]
def q_Hunt_x : List Nat := [0, 1, 2, 5, 8, 9, 12, 13, 14, 17, 18, 19]
def q_Hunt_y : List Nat := [0, 1, 2, 5, 8, 9, 12, 13, 14, 17, 18, 19]
def q_X_points : List Nat := [0, 1, 4, 5, 8, 11, 12, 15, 16, 17, 20, 23, 26, 28, 29]
def q_Clock_pointsOf : List Nat := [0, 1, 2, 3, 6, 7, 10, 12, 13, 15, 16, 18, 20, 21, 24, 27, 30, 31, 34, 35, 37, 40, 42, 44, 45, 46, 48, 50, 53, 54, 56, 57, 58, 60, 62, 63, 65, 66, 69, 71, 73, 76, 79, 80, 81, 83, 84, 87, 90, 91, 93, 95, 97, 100, 103, 104, 105]
def q_Clock_wayOf : List Nat := [0, 1, 4, 5, 6, 9, 10, 13, 14, 17, 18, 19]
def q_Hunt_steps : List Nat := [0, 1, 2, 5, 6, 7, 10, 11, 14, 15, 16, 19, 20, 21, 24, 25, 28, 29, 30]
def q_Worths_valueOf : List Nat := [0, 1, 4, 7, 8, 11, 12, 15, 18, 19, 20, 21, 24, 25, 26, 27, 28, 31, 32, 33, 34, 35, 38, 39, 40, 41, 42, 45, 46, 48, 49, 50, 53, 54, 56, 57, 58, 59, 62, 63, 66, 67, 68, 71, 72, 75, 76, 77, 80, 81, 84, 85, 86, 89, 92, 93]
def q_Worths_run : List Nat := [0, 1, 2, 3, 5, 6, 8, 10, 11, 14, 16, 17, 20, 21, 23, 24, 26, 29, 31, 34, 37, 38, 40, 43, 44, 45, 46, 49, 50, 52, 55, 58, 60, 63, 64, 66, 69, 70, 73, 74, 77, 80, 81, 84, 85, 86, 88, 91, 94, 95, 97, 100, 101, 102, 105, 106, 109, 112, 114, 116, 119, 120, 123, 124, 125, 126, 127, 130, 131, 132, 135, 137, 139, 142, 143, 146, 148, 151, 154, 155, 156]
def q_Worths_letterValue : List Nat := [0, 1, 4, 5, 6, 9, 10, 13, 14, 15, 18, 19, 20]
def q_Worths_join : List Nat := [0, 1, 2, 3, 4, 5, 7, 10, 11, 14, 15, 16, 17, 20, 21, 22, 23, 24, 25, 26, 27, 30, 31, 32, 33, 36, 37, 38, 39, 40, 41, 44, 45, 46, 47, 48, 49, 52, 53, 54, 57, 58, 59, 60]
def q_Worths_joined : List Nat := [0, 1, 76, 77, 78, 81, 82, 85, 86, 87, 88, 89, 92, 93, 96, 97, 98, 99, 100, 103, 104, 107, 108, 109, 110, 111, 112, 113, 114, 115, 116, 117, 118, 119, 120, 121, 122, 125, 126, 127, 128, 129, 130, 131, 134, 135, 136, 137, 138, 139, 140, 143, 144, 145, 148, 149, 152, 153, 154, 155, 156, 157, 160, 161]
def q_Worths_bounded : List Nat := [0, 1, 4, 5, 8, 10, 13, 14, 17, 18, 21, 23, 26, 27, 28, 29]
def q_Hunt_stay : List Nat := [0, 1, 4, 5]
def q_X_comes : List Nat := [0, 1, 4, 5, 8, 11, 12, 15, 16, 19, 22, 23, 26, 27, 28, 31, 34, 35, 36]
def q_Clock_minuteOf : List Nat := [0, 1, 4, 5, 8, 9, 10, 12, 13, 15, 17, 18, 21, 23, 24, 27, 30, 33, 34, 37, 38, 40, 43, 45, 46, 47, 48, 50, 52, 55, 57, 60, 61, 64, 65, 68, 71, 72, 73, 74, 76, 78, 81, 84, 85, 86]
def q_X_home : List Nat := [0, 1, 4, 5, 8, 11, 12, 15, 16, 19, 22, 23, 24]
def q_Clock_minuteHome : List Nat := [0, 1, 4, 7, 8, 9, 10, 11, 12, 13, 16, 17, 20, 23, 24, 25, 26, 27, 30, 31, 32, 35, 36, 39, 40, 41]
def q_X_clashes : List Nat := [0, 1, 4, 7, 10, 11, 14, 15, 16, 19, 21, 22, 23, 26, 27, 30, 33, 36, 37, 40, 43, 44]
def q_Clock_clashingPairs : List Nat := [0, 1, 4, 5, 6, 7, 8, 9, 10, 13, 16, 19, 20, 21, 22, 23, 24, 25, 28, 31, 34, 35, 36, 37, 40, 41, 44, 47, 50, 53, 56, 59, 60, 61]
def q_Clock_lookWhoComesWhen : List Nat := [0, 1, 2, 3, 4, 7, 10, 13, 14, 17, 18, 21, 22, 23, 24, 25, 27, 29, 30, 33, 36, 39, 40, 43, 44, 46, 49, 51, 52, 53, 54, 55, 57, 60, 61, 62, 63, 66, 68, 71, 74, 75, 78, 79, 80, 82, 83, 84, 85, 86, 89, 92, 93, 94, 96, 97, 100, 103, 106, 109, 110]
def q_Clock_clashOf : List Nat := [0, 1, 2, 3, 5, 7, 8, 11, 14, 17, 18, 21, 22, 23, 25, 26, 28, 29, 32, 33, 34, 36, 37, 39, 41, 43, 46, 48, 50, 52, 53, 56, 57, 60, 63, 66, 67, 68, 71, 73, 74, 77, 79, 80, 83, 86, 87, 88]
def q_Clock_firstClash : List Nat := [0, 1, 4, 5, 6, 7, 8, 9, 10, 13, 16, 19, 20, 21, 22, 23, 24, 25, 28, 31, 34, 35, 36, 37, 40, 42, 44, 45, 48, 49, 50, 53, 55, 56, 59, 61, 62, 65, 68, 71, 74, 75, 76]
def q_X_starts : List Nat := [0, 1, 4, 7, 10, 11, 14, 15, 17, 20, 21, 24, 25, 26, 29, 30, 31, 32, 35, 38, 39, 42, 44, 45, 46, 49, 50, 53, 54, 57, 58, 61, 64, 67, 68, 71, 74, 75]
def q_Clock_seekStarts : List Nat := [0, 1, 4, 5, 6, 9, 10, 11, 14, 15, 16, 19, 20, 21, 22, 23, 26, 29, 32, 33, 34, 37, 38, 39, 40, 41, 44, 45, 48, 49, 50, 51, 52, 53, 54, 57, 58, 61, 64, 67, 70, 71, 72, 73, 74, 77, 78]
def q_Clock_clashesByStarts : List Nat := [0, 1, 2, 3, 5, 7, 8, 11, 14, 17, 18, 21, 22, 23, 25, 26, 27, 30, 31, 34, 35, 37, 38, 41, 42, 43, 45, 46, 47, 50, 51, 54, 55, 57, 59, 61, 63, 65, 68, 70, 72, 73, 75, 76, 79, 80, 83, 86, 89, 90, 91, 93, 95, 96, 97, 98, 99, 102, 105, 108, 111, 112, 113]
def q_Clock_seekStartOf : List Nat := [0, 1, 4, 5, 8, 9, 10, 13, 16, 17, 18, 19, 22, 25, 28, 29, 30, 33, 34, 35, 38, 39, 40, 43, 44, 45, 47, 49, 50, 53, 56, 57, 58, 60, 63, 66, 67, 70, 71, 73, 74, 75, 76, 77, 78, 79, 81, 82, 83, 85, 86, 88, 89, 92, 95, 98, 99]
def q_Clock_startsApart : List Nat := [0, 1, 2, 3, 4, 7, 8, 9, 12, 13, 14, 15, 17, 18, 21, 22, 23, 24, 25, 27, 29, 30, 31, 32, 33, 34, 37, 38, 39, 42, 45, 46, 47]
def q_Clock_leastSum : List Nat := [0, 1, 4, 5]
def q_Clock_leastRow : List Nat := [0, 1, 4, 5]
def q_X_soonest : List Nat := [0, 1, 4, 5, 8, 11, 12, 15, 16, 17, 20, 21, 22, 23, 26, 27, 30, 33, 34, 35, 36, 39, 40, 43, 46, 49, 50, 53, 56, 57]
def q_OrderSearch_seekSoonest : List Nat := [0, 1, 2, 5, 6, 7, 10, 11, 14, 17, 18, 19, 20, 21, 24, 25, 28, 29, 30, 33, 34, 37, 38]
def q_OrderSearch_goSoon : List Nat := [0, 1, 2, 5, 8, 11, 12, 13, 16, 17, 20, 21, 22, 25, 26, 28, 29, 32, 35, 37, 38, 41, 44, 45, 47, 49, 52, 53, 54, 56, 58, 59, 62, 65, 68, 69, 70, 73, 74, 77, 78, 80, 83, 84, 86, 87, 90, 93, 95, 96, 99, 102, 103, 104, 107, 110, 111, 114, 115, 117, 119, 121, 122, 123, 124, 127, 129, 132, 133, 136, 137, 140, 142, 144, 147, 150, 151, 152, 153, 154, 156, 158, 159, 162, 165, 166, 168, 169, 171, 172, 173, 175, 177, 178, 180, 181, 184, 187, 190, 191]
def q_OrderSearch_keep : List Nat := [0, 1, 2, 5, 6, 7, 10, 11, 12, 15, 16]
def q_Clock_clashesThere : List Nat := [0, 1, 3, 5, 6, 9, 12, 15, 16, 19, 20, 23, 26, 28, 29, 32, 33, 36, 38, 39, 40, 41, 42, 43, 46, 47, 50, 53, 56, 57, 58, 61, 64, 65, 66]
def q_OrderSearch_bestOrder : List Nat := [0, 1, 4, 5]
def q_OrderSearch_bestValue : List Nat := [0, 1, 4, 5]
def q_X_rich : List Nat := [0, 1, 4, 5, 8, 11, 12, 15, 16, 17, 20, 22, 23, 24, 27, 28, 31, 34, 36, 37, 38, 41, 42, 45, 48, 51, 52, 55, 58, 59]
def q_OrderSearch_seekRichest : List Nat := [0, 1, 2, 5, 6, 7, 10, 11, 12, 13, 14, 17, 20, 23, 24, 27, 28, 29, 30, 33, 34, 37, 40, 41, 42, 43, 44, 47, 48, 51, 52, 53, 54, 57, 58, 61, 62]
def q_OrderSearch_placesOfOthers : List Nat := [0, 1, 2, 3, 4, 5, 6, 9, 12, 15, 16, 17, 20, 23, 24, 25, 26, 29, 30, 31, 34, 35, 36, 37, 40, 43, 44, 45]
def q_OrderSearch_goRich : List Nat := [0, 1, 2, 5, 8, 11, 12, 14, 17, 18, 21, 24, 26, 27, 30, 33, 34, 36, 38, 41, 42, 44, 45, 48, 49, 50, 51, 53, 54, 56, 58, 59, 62, 65, 68, 70, 72, 73, 74, 75, 78, 79, 82, 83, 85, 88, 90, 91, 93, 94, 97, 98, 101, 104, 105, 106, 108, 109, 112, 113, 115, 116, 119, 121, 123, 126, 128, 129, 130, 131, 132, 134, 136, 137, 140, 143, 144, 146, 147, 149, 150, 151, 153, 155, 156, 158, 159, 161, 163, 164, 167, 170, 173, 174]
def q_X_find : List Nat := [0, 1, 4, 5, 8, 11, 12, 15, 16, 19, 22, 23, 26, 27, 30, 33, 34, 37, 40, 43, 44, 45, 46, 49, 50, 51, 52, 54, 57, 58]
def q_Finds_hasRoom : List Nat := [0, 1, 4, 6, 9, 10, 13, 14, 15]
def q_Finds_add : List Nat := [0, 1, 4, 5, 8, 11, 12, 15, 16, 19, 22, 23, 26, 27, 28, 29, 30, 31, 33, 36, 37, 38, 39, 42, 43, 44, 45, 46, 47, 48, 49, 50, 51, 54, 55, 56, 59, 60, 61, 64, 65, 68, 69]
def q_X_fits : List Nat := [0, 1, 4, 5, 8, 11, 12, 15, 16, 19, 22, 23, 24]
def q_Finds_fittingOrders : List Nat := [0, 1, 4, 5, 8, 11, 12, 13, 16, 17, 18, 21, 24, 25, 26]
def q_Finds_waysThrough : List Nat := [0, 1, 2, 5, 8, 9, 10, 11, 12, 13, 16, 17, 18, 19, 20, 21, 22, 23, 26, 27, 28, 29, 32, 33, 34, 35, 36, 38, 39, 42, 43, 44, 45, 46, 48, 50, 51, 54, 57, 60, 62, 64, 65, 66, 67, 68, 71, 72, 75, 76, 77, 78, 79, 82, 83, 84, 86, 87, 88, 89, 90, 91, 94, 97, 100, 103, 104, 107, 108, 109, 110]
def q_X_tables : List Nat := [0, 1, 4, 7, 10, 12, 13, 14, 15, 18, 19, 22, 25, 26, 27, 30, 31, 34, 37, 38, 41, 42, 43, 46, 49, 50, 51]
def q_Finds_isSmall : List Nat := [0, 1, 4, 7, 10, 11, 14, 17, 18, 21, 22, 25, 28, 29, 32, 33, 36, 37, 38]
def q_Finds_howManyTables : List Nat := [0, 1, 4, 5, 8, 9]
def q_Finds_seekTables : List Nat := [0, 1, 4, 7, 8, 11, 14, 15, 16, 19, 22, 23, 26, 28, 31, 32, 35, 36, 39, 42, 43, 44, 47, 48, 51, 52, 55, 58, 59, 60, 63, 64]
def q_Finds_clearSearch : List Nat := [0, 1, 2, 5, 6, 7, 8, 9, 12, 13, 16, 17, 18, 19, 20, 23, 24, 25, 26, 27, 30, 31, 32, 33, 34, 35, 36, 37, 40, 41, 44, 45, 46, 47, 48, 49, 50, 53, 54, 55, 56, 57, 58, 61, 64, 67, 70, 71]
def q_Finds_someAreLawful : List Nat := [0, 1, 2, 3, 4, 7, 10, 13, 14, 15, 16, 17, 20, 23, 26, 27, 30, 31, 32, 33, 34, 37, 38, 39, 40, 43, 44, 45, 48, 51, 52, 53, 54, 55, 58, 61, 64, 67, 68, 69, 72, 73, 76, 79, 80, 83, 84, 85]
def q_Finds_fillIfItCanBe : List Nat := [0, 1, 2, 5, 6, 9, 10, 11, 12, 13, 16, 19, 22, 23, 24, 27, 28, 29, 32, 35, 36, 39, 42, 43, 44, 45, 48, 49]
def q_Finds_shutWhereOthersMustBe : List Nat := [0, 1, 2, 3, 4, 5, 7, 10, 11, 14, 15, 16, 17, 18, 19, 20, 23, 26, 29, 30, 32, 34, 35, 38, 41, 44, 45, 48, 49, 50, 52, 53, 56, 57, 60, 61, 62, 64, 67, 70, 71, 72, 75, 78, 81, 84, 87, 90, 91]
def q_Finds_shutElsewhere : List Nat := [0, 1, 4, 5, 6, 7, 8, 9, 10, 12, 13, 15, 17, 18, 21, 24, 27, 29, 30, 33, 35, 36, 39, 41, 42, 43, 44, 45, 46, 47, 49, 50, 53, 55, 56, 57, 58, 59, 60, 61, 62, 63, 64, 67, 70, 71, 73, 75, 76, 79, 82, 85, 87, 88, 91, 93, 94, 97, 98, 99, 101, 102, 103, 104, 105, 107, 108, 111, 112, 113, 115, 116, 117, 118, 119, 120, 121, 122, 125, 128, 130, 133, 134, 137, 138, 139]
def q_Finds_fill : List Nat := [0, 1, 2, 5, 8, 11, 12, 15, 16, 17, 18, 21, 24, 27, 28, 29, 30, 31, 32, 35, 36, 37, 40, 41, 42, 43, 44, 45, 48, 49, 50, 51, 52, 53, 54, 57, 58, 59, 60, 61, 62, 63, 64, 66, 68, 69, 72, 75, 78, 79, 82, 83, 86, 89, 90, 92, 93, 94, 95, 96, 99, 100, 103, 104, 107, 108, 109, 110, 111, 113, 114, 117, 118, 120, 121, 122, 123, 124, 127, 130, 133, 134, 137, 138, 139, 140, 141, 143, 144, 147, 148, 150, 151, 152, 154, 157, 160, 161, 163, 164, 167, 170, 171, 174, 175, 176, 178, 179, 180, 181, 183, 186, 187, 188, 190, 191, 194, 195, 197, 198, 199, 202, 203, 204, 205, 206, 207, 210, 211, 213, 214, 215, 218, 219, 220, 222, 223, 226, 227, 228, 229, 231, 233, 236, 239, 242, 243]
def q_Finds_keepTable : List Nat := [0, 1, 4, 7, 8, 11, 14, 17, 18, 19, 20, 21, 22, 25, 26, 29, 30, 33, 34, 35, 36, 37, 38, 41, 42, 43, 44, 47, 50, 51, 52, 55, 56, 57, 60, 61]
def q_Finds_mayFollow : List Nat := [0, 1, 2, 5, 6, 7, 10, 11, 14, 15, 16, 17, 18, 19, 22, 25, 28, 29, 32, 33, 34]
def q_Finds_set : List Nat := [0, 1, 4, 5, 6, 9, 10, 11, 13, 14, 15, 16, 17, 18, 21, 22, 23, 24, 25, 26, 27, 28, 29, 30, 33, 34, 35, 36, 37, 38, 39, 40, 41, 42, 45, 46, 47, 48, 49, 50, 51]
def q_Finds_follow : List Nat := [0, 1, 2, 5, 6, 7, 10, 11, 14, 15, 16, 17, 18, 19, 20, 21, 22, 23]
def q_Finds_unset : List Nat := [0, 1, 4, 5, 7, 8, 9, 12, 13, 14, 15, 16, 17, 18, 19, 20, 21, 22, 23, 26, 27, 28, 29, 30, 31, 32, 33, 34, 35, 36, 37, 40, 41, 42, 43, 44, 45, 46]
def q_Finds_openWhatIsLeft : List Nat := [0, 1, 2, 3, 4, 7, 10, 13, 14, 15, 16, 17, 20, 23, 26, 27, 30, 31, 32, 33, 34, 37, 38, 39, 40, 41, 42, 45, 48, 51, 54, 55]
def q_Finds_orderInTable : List Nat := [0, 1, 4, 5, 8, 9, 10, 13, 16, 17, 20, 21, 22, 25, 26, 29, 32, 33, 34, 35, 38, 39, 40, 41, 42, 43, 44, 45]
def q_X_wrong : List Nat := [0, 1, 4, 5, 8, 11, 12, 15, 16, 19, 22, 23, 26, 27, 30, 33, 35, 38, 40, 41, 44, 45, 46, 47, 50, 51, 52, 55, 56, 59, 60, 61, 63, 66, 67, 70, 71, 72, 75, 76, 77, 80, 81, 82, 83, 86, 87]
def q_Table_followsGoneWrong : List Nat := [0, 1, 3, 4, 6, 8, 9, 12, 15, 18, 20, 21, 24, 25, 28, 29, 30, 32, 35, 37, 38, 40, 41, 42, 44, 47, 48, 49, 50, 51, 52, 53, 55, 57, 59, 62, 63, 65, 68, 71, 73, 74]
def q_X_helpers : List Nat := [0, 1, 4, 7, 10, 11, 14, 15, 17, 20, 21, 22, 23, 26, 27, 30, 31]
def q_HelperCount_fewest : List Nat := [0, 1, 2, 5, 6, 9, 10, 13, 14, 15, 16, 17, 18, 21, 24, 25, 26, 29, 32, 35, 38, 41, 42, 43]
def q_HelperCount_fillReach : List Nat := [0, 1, 2, 3, 4, 7, 10, 13, 14, 17, 18, 19, 20, 21, 22, 23, 24, 27, 30, 31, 32, 33, 34, 37, 40, 43, 44, 45, 46, 47, 50, 53, 56, 57, 60, 61, 62, 63, 64, 65, 66, 67, 70, 71, 74, 77, 80, 83, 84]
def q_HelperCount_oneMoveMore : List Nat := [0, 1, 3, 4, 6, 8, 9, 12, 15, 18, 19, 22, 23, 25, 28, 29, 32, 34, 35, 38, 39, 40, 41, 42, 44, 45, 46, 48, 51, 54, 56, 57]
def q_HelperCount_gatherDuties : List Nat := [0, 1, 2, 5, 6, 7, 8, 9, 12, 15, 18, 19, 20, 21, 22, 25, 28, 31, 32, 35, 36, 37, 40, 43, 44, 47, 49, 52, 53, 56, 57, 60, 61, 62, 63, 66, 67, 70, 71, 72, 73, 76, 77, 80, 81, 82, 83, 86, 87, 90, 91, 92, 93, 94, 97, 98, 99, 102, 105, 108, 111, 114, 115]
def q_HelperCount_joinOneMore : List Nat := [0, 1, 2, 3, 4, 7, 10, 11, 14, 15, 16, 17, 20, 23, 24, 27, 28, 29, 30, 31, 32, 35, 36, 37, 38, 39, 42, 45, 46, 48, 51, 52, 53, 56, 57, 58, 61, 62, 63, 64, 67, 68, 69, 72, 73, 74, 77, 80, 81, 82]
def q_HelperCount_lookFrom : List Nat := [0, 1, 2, 3, 4, 7, 10, 11, 14, 15, 16, 17, 20, 21, 22, 23, 26, 29, 30, 33, 34, 35, 36, 37, 40, 41, 42, 43, 46, 47, 48, 49, 52, 54, 57, 58, 61, 62, 65, 66, 69, 70, 71, 72, 73, 74, 77, 78, 79, 82, 85, 88, 89, 90]
def q_HelperCount_canJoin : List Nat := [0, 1, 4, 5, 6, 7, 10, 11, 12, 13, 14, 15, 18, 19, 22, 23, 24, 25, 28, 29, 30, 31, 32, 35, 36, 37, 38, 39, 40, 41, 44, 45, 48, 49, 50]
def q_HelperCount_giveWay : List Nat := [0, 1, 2, 3, 4, 5, 6, 9, 12, 13, 14, 17, 18, 21, 22, 23, 25, 26, 29, 31, 32, 34, 35, 38, 40, 41, 42, 43, 46, 47, 49, 50, 52, 53, 56, 59, 60]
def q_X_pieces : List Nat := [0, 1, 2, 5, 6, 8, 11, 12, 13, 16, 17, 18, 21, 22, 25, 26, 27, 28, 31, 32, 33, 34, 35, 38, 39, 40, 41, 44, 45, 46, 47, 48, 49, 50, 53, 54, 55, 56, 57, 58, 59, 60, 61, 64, 66, 68, 69, 72, 73, 76, 77, 78, 79, 80, 81, 83, 84, 85, 86, 87]
def q_X_howManySets : List Nat := [0, 1, 2, 3, 4, 5, 6, 7, 8, 11, 12, 15, 16, 19, 22, 25, 28, 29, 30]
def q_X_setByNumber : List Nat := [0, 1, 2, 3, 5, 7, 8, 9, 10, 13, 15, 18, 19, 22, 23, 24, 27, 29, 30, 33, 36, 39, 40, 41]
def q_X_drawn : List Nat := [0, 1, 4, 7, 10, 11, 12, 13, 16, 19, 20, 23, 24, 27, 28, 31, 34, 35]
def q_Table_drawOrders : List Nat := [0, 1, 2, 5, 6, 7, 8, 9, 12, 15, 18, 19, 20, 23, 24, 25, 28, 31, 34, 35]
def q_Table_drawOrder : List Nat := [0, 1, 4, 7, 8, 9, 12, 13, 14, 15, 16, 17, 20, 21, 22, 23, 24, 27, 30, 31, 32, 33, 34, 35, 36, 39, 40, 41, 42, 43, 46, 48, 49, 50, 51, 53, 54, 55, 56, 58, 59, 60, 61, 63, 65, 66, 69, 72, 73]
def q_Table_nextDraw : List Nat := [0, 1, 2, 5, 8, 9, 12, 13, 16, 17, 20, 21, 24, 25, 28, 30, 31, 32, 33, 34, 35, 36]
def q_X_image : List Nat := [0, 1, 4, 7, 10, 11, 12, 13, 16, 19, 20, 23, 26, 27]
def q_Past_takeImage : List Nat := [0, 1, 2, 5, 6, 7, 10, 13, 14, 15, 16, 17, 20, 23, 26, 27, 30, 31, 32, 35, 36, 39, 40, 43, 46, 47]
def q_X_back : List Nat := [0, 1, 4, 7, 10, 11, 14, 17, 20, 21, 22]
def q_Past_hasImage : List Nat := [0, 1, 4, 5]
def q_Past_goBack : List Nat := [0, 1, 2, 5, 8, 9, 10, 11, 12, 15, 18, 21, 22, 25, 26, 27, 30, 31, 32, 35, 38, 41, 42, 43, 46, 47, 50, 51]
def q_X_again : List Nat := [0, 1, 4, 7, 10, 11, 14, 17, 20, 21, 22]
def q_Past_likeImage : List Nat := [0, 1, 2, 3, 4, 5, 6, 9, 12, 15, 16, 19, 20, 21, 22, 23, 26, 29, 30, 31, 33, 35, 38, 39, 41, 42, 43, 46, 47, 49, 52, 55, 58, 59, 61, 62, 63, 66, 69, 72, 75, 76, 77]
def q_X_count : List Nat := [0, 1, 52, 53, 56, 59, 60, 61, 64, 67, 68, 69, 72, 75, 76, 77, 80, 83, 84, 85, 88, 91, 92, 93, 96, 99, 100, 101, 104, 107, 108, 109, 112, 115, 116, 117, 120, 123, 124, 126, 127]
def q_Worths_size : List Nat := [0, 1, 4, 5]
def q_Worths_holding : List Nat := [0, 1, 4, 5]
def q_Finds_size : List Nat := [0, 1, 4, 5]
def q_R_init : List Nat := [0, 1, 4, 5, 8, 10, 13, 14, 17, 19, 22, 23, 26, 28, 31, 32, 33, 35, 38, 39, 40, 42, 45, 46, 49, 51, 54, 55, 58, 60, 63, 64, 67, 69, 72, 73, 74, 76, 79, 80, 82, 84, 87, 88, 90, 92, 95, 96, 98, 100, 103, 104, 106, 108, 111, 112, 114, 116, 119, 120, 122, 124, 127, 128, 130, 132, 135, 136, 138, 140, 143, 144, 146, 148, 151, 152, 153, 156, 157, 160, 162, 165, 166, 168, 170, 173, 174, 177, 179, 182, 183, 185, 187, 190, 191, 193, 195, 198, 199, 201, 203, 206, 207, 209, 211, 214, 215, 217, 219, 222, 223, 225, 227, 230, 231, 233, 235, 238, 239, 242, 244, 247, 248, 250, 252, 255, 256, 258, 260, 263, 264, 266, 268, 271, 272, 274, 276, 279, 280]
def q_R_thrown : List Nat := [0, 1, 4, 5]
def q_R_feed : List Nat := [0, 1, 3, 4, 6, 8, 10, 13, 15, 16, 17, 18, 20, 22, 24, 27, 30, 31, 34, 35, 36, 38, 41, 44, 45, 48, 50, 51, 54, 57, 58, 59, 60, 62, 64, 66, 69, 70, 71, 72, 74, 76, 78, 81, 83, 85, 88, 89, 92, 93, 96, 98, 99, 100, 101, 104, 105, 106, 109, 112, 115, 116, 119, 120]
def q_R_byteOf : List Nat := [0, 2, 3, 6, 7, 10, 12, 14, 17, 18, 21, 23, 25, 28, 29, 32, 34, 36, 39, 40, 43, 45, 47, 49, 51, 53, 55, 56, 57, 58, 59, 60, 63, 64, 65]
def q_R_end : List Nat := [0, 1, 4, 5, 6, 9, 12, 13, 14, 15, 16, 19, 20, 21]
def q_R_fault : List Nat := [0, 1, 4, 5, 8, 11, 12, 13, 16, 17, 18, 21, 24, 26, 27]
def q_R_readHunt : List Nat := [0, 1, 2, 5, 6, 7, 10, 11, 12, 15, 16, 17, 20, 21, 22, 25, 26, 27, 30, 31, 32, 33, 34, 35, 38, 39, 42, 43, 46, 47, 50, 51, 52, 54, 57, 58, 61, 63, 66, 67, 70, 73, 74, 76, 79, 80, 83, 85, 88, 89, 92, 95, 96, 98, 101, 102, 105, 106, 107, 108, 111, 114, 115, 118, 119, 122, 123, 126, 127, 130, 132, 135, 136, 139, 140, 141, 142, 143, 146, 147, 150, 151, 154, 155, 156, 159, 162, 163, 166, 167, 170, 171, 174, 175, 178, 179, 182, 183, 186, 187, 190, 193, 194, 197, 198, 201, 202]
def q_R_look : List Nat := [0, 1, 4, 6, 9, 10, 11, 14, 15, 16, 19, 22, 23, 26, 27]
def q_R_here : List Nat := [0, 1, 4, 5, 8, 11, 12, 15, 16, 19, 20, 23, 24, 25]
def q_R_placeText : List Nat := [0, 1, 2, 5, 6, 7, 10, 11, 14, 15, 18, 19, 20, 21, 24, 25, 28, 29, 30, 31, 32, 33, 36, 38, 41, 42, 45, 46, 49, 51, 54, 55, 58, 59, 60, 61, 64, 65, 68, 69, 70, 73, 74, 75, 78, 81, 82, 83, 84, 85, 86, 87, 88, 89, 92, 93, 94, 97, 98, 99, 101, 104, 105, 106, 109, 110, 113, 114, 117, 118, 121, 122, 125, 126, 129, 130, 131, 132, 135, 136, 139, 140, 141, 144, 145, 148, 149, 152, 153, 156, 157, 158, 159, 162, 164, 167, 168, 171, 172, 175, 177, 180, 181, 184, 185, 186, 189, 190, 191, 194, 195, 196, 199, 200]
def q_R_has : List Nat := [0, 1, 2, 3, 4, 5, 6, 9, 10, 13, 14, 15]
def q_R_number : List Nat := [0, 1, 4, 7, 10, 11, 14, 15, 16, 17, 20, 22, 23, 24, 25, 26, 29, 30, 31, 34, 35, 38, 41, 44, 46, 47, 48, 49, 52, 53, 55, 56, 57, 58, 59, 62, 63, 64, 67, 68, 71, 74, 77, 78, 81, 84, 85, 86, 87, 90, 93, 94, 95, 98, 99, 100, 103, 104, 107, 108, 109]
def q_R_isDigit : List Nat := [0, 1, 3, 6, 7, 9, 12, 13, 16, 17, 18]
def q_R_bad : List Nat := [0, 1, 2, 5, 6, 9, 10, 13, 16, 17, 20, 23, 24]
def q_R_in : List Nat := [0, 1, 2, 5, 6, 7, 10, 11, 14, 15, 16]
def q_R_bandText : List Nat := [0, 1, 2, 5, 6, 7, 10, 11, 14, 15, 18, 19, 20, 21, 24, 26, 29, 30, 31, 34, 35, 36, 39, 40, 43, 44, 47, 48, 49, 50, 53, 54, 55, 56, 59, 60, 61, 64, 65]
def q_R_lawText : List Nat := [0, 1, 2, 5, 6, 7, 10, 11, 12, 13, 16, 18, 21, 22, 25, 26, 29, 31, 34, 35, 38, 39, 40, 41, 44, 45, 48, 49, 50, 53, 54, 55, 58, 61, 62, 63, 64, 65, 66, 67, 68, 69, 72, 73, 74, 77, 78, 79, 80, 83, 85, 88, 90, 93, 94, 95, 96, 99, 100, 103, 104, 107, 110, 111, 112, 113, 116, 117, 120, 121, 124, 127, 128, 131, 133, 136, 137, 140, 141, 144, 146, 149, 150, 153, 154, 155, 158, 159]
def q_R_readLaw : List Nat := [0, 1, 2, 5, 6, 9, 10, 13, 14, 17, 18, 21, 23, 26, 27, 28, 31, 32, 33, 36, 37, 40, 43, 44, 47, 48]
def q_R_open : List Nat := [0, 1, 2, 5, 6, 7, 10, 11, 12, 15, 16, 17, 20, 21, 24, 25, 26, 27, 28, 31, 32, 33, 34, 35]
def q_R_clause : List Nat := [0, 2, 3, 6, 7, 8, 11, 12, 15, 16, 17, 18, 19, 22, 23, 26, 27, 30, 32, 35, 36, 39, 40, 41, 44, 45, 46, 49, 50, 53, 54, 57, 58, 61, 63, 66, 67, 70, 71, 72, 75, 76, 77, 80, 81, 84, 85, 88, 89, 90, 93, 94, 95, 98, 99, 102, 103, 104, 105, 108, 110, 113, 114, 117, 119, 122, 123, 126, 127, 128, 129, 132, 133, 136, 139, 140, 143, 144, 147, 148, 151, 152, 155, 158, 161, 162, 165, 166, 167, 168, 171, 172, 175, 176, 179, 180, 183, 184, 187, 188, 189, 192, 193, 194, 195, 196, 199, 200, 203, 204, 207, 208, 211, 213, 216, 217, 220, 221, 222, 223, 226, 227, 228, 231, 232, 235, 236, 237, 240, 241, 244, 245, 246, 247, 250, 251, 254, 255, 256, 259, 260, 263, 264, 265, 266, 269, 270, 273, 274, 275, 276, 277, 278, 279]
def q_R_condition : List Nat := [0, 1, 4, 5, 8, 9, 12, 13]
def q_R_unit : List Nat := [0, 1, 4, 5, 6, 8, 11, 12, 15, 16, 19, 20, 23, 24, 27, 28, 30, 31, 34, 35, 36, 39, 40, 41, 44, 47, 48, 50, 53, 54, 57, 58, 61, 62, 65, 66, 69, 70, 72, 75, 78, 79, 82, 83, 86, 87, 90, 91, 94, 95]
def q_R_opens : List Nat := [0, 1, 4, 6, 9, 10, 13, 14, 15, 18, 19, 20, 23, 24, 25, 28, 29, 30, 33, 34]
def q_R_put : List Nat := [0, 1, 4, 7, 8, 11, 12, 13, 16, 17, 20, 21, 22, 23, 24, 25, 28, 31, 32, 35, 36, 37, 40, 41, 44, 45, 46, 47, 48, 49, 52, 53, 56, 57, 58, 59, 60, 61, 62]
def q_R_closes : List Nat := [0, 1, 4, 5, 8, 9, 12, 13, 16, 17, 20, 21, 22, 25, 26, 27, 30, 31, 32, 35, 36, 37, 40, 41]
def q_R_sum : List Nat := [0, 1, 4, 5, 8, 9, 12, 13, 16, 19, 20, 21, 22, 24, 27, 28, 30, 33, 34, 35, 38, 39, 40, 43, 44, 47, 48, 49, 51, 54, 55, 58, 59, 60, 63, 64, 67, 68, 71, 72, 75, 78, 79, 80, 83, 84]
def q_R_term : List Nat := [0, 1, 4, 5, 8, 9, 12, 13, 16, 19, 20, 21, 22, 24, 27, 28, 30, 33, 34, 35, 38, 39, 40, 43, 44, 47, 48, 49, 51, 54, 55, 58, 59, 60, 63, 64, 67, 68, 71, 72, 75, 78, 79, 80, 83, 84]
def q_R_atom : List Nat := [0, 1, 4, 5, 6, 9, 12, 13, 14, 15, 18, 21, 24, 25, 28, 29, 32, 33, 34, 37, 38, 39, 42, 43, 44, 45, 48, 51, 54, 55, 57, 60, 61, 64, 65, 68, 69, 72, 73, 76, 77, 79, 82, 85, 86, 89, 90]
def q_R_plainNumber : List Nat := [0, 1, 2, 3, 4, 5, 6, 9, 10, 13, 16, 19, 21, 22, 23, 24, 27, 28, 30, 31, 32, 33, 34, 37, 38, 39, 42, 45, 48, 49, 52, 55, 58, 59, 62, 63, 64]
def q_R_letterOf : List Nat := [0, 1, 3, 6, 7, 10, 11, 13, 16, 17, 20, 21, 23, 26, 27, 30, 31, 33, 36, 37, 40, 41, 43, 46, 47, 50, 51, 52]
def q_R_compare : List Nat := [0, 1, 4, 5, 8, 9, 12, 15, 16, 17, 18, 21, 24, 25, 28, 29, 30, 31, 34, 35, 36, 39, 40, 43, 44, 45, 47, 50, 52, 55, 56, 58, 61, 63, 66, 68, 69, 72, 73]
def q_R_isSign : List Nat := [0, 1, 3, 6, 7, 9, 12, 13, 15, 18, 19, 22, 23, 24]
def q_R_goOnAnd : List Nat := [0, 1, 4, 5, 8, 9, 12, 14, 17, 18, 19, 22, 23, 24, 27, 28, 31, 32, 34, 35, 38, 41, 42]
def q_R_goOnOr : List Nat := [0, 1, 4, 5, 8, 9, 12, 14, 17, 18, 19, 22, 23, 24, 27, 28, 31, 32, 35, 36, 38, 39, 42, 45, 46]
def q_R_atEnd : List Nat := [0, 1, 4, 5, 8, 9, 12, 13, 16, 17, 20, 21, 24, 25]
def q_R_text : List Nat := [0, 1, 4, 5, 8, 9, 12, 13, 14, 17, 18, 21, 22, 23, 24, 27, 28, 31, 32, 35, 36, 37, 40, 43, 44, 47, 48, 49, 52, 53, 54, 57, 58, 59, 62, 63, 66, 67, 68, 69, 70, 71]
def q_R_takeHunt : List Nat := [0, 1, 2, 5, 8, 9, 10, 13, 16, 17, 18, 21, 24, 25, 26, 29, 32, 33, 34, 35, 37, 40, 41, 44, 45, 46, 49, 50, 51, 52, 53, 56, 57, 58, 61, 62, 63, 64, 67, 70, 71, 72, 73, 75, 78, 79, 82, 83, 84, 87, 88, 89, 90, 91, 94, 95, 96, 97, 98, 99, 100, 102, 105, 106, 109, 111, 112, 113, 114, 115, 116, 117, 118, 119, 122, 123, 124, 127, 130, 133, 136, 137, 138, 141, 142, 143, 146, 147, 148, 151, 152, 155, 156]
def q_R_place : List Nat := [0, 1, 2, 3, 6, 9, 10, 11, 12, 15, 18, 19, 22, 23, 26, 27, 30, 31, 34, 35, 38, 39, 42, 43, 46, 47, 48, 51, 52, 55, 56, 57, 58]
def q_R_isPlace : List Nat := [0, 1, 2, 3, 6, 7, 8, 11, 12]
def q_R_band : List Nat := [0, 1, 2, 5, 8, 9, 10, 11, 14, 17, 18, 21, 22, 25, 26, 29, 30, 31, 34, 35, 36, 39, 40, 41, 44, 47, 48, 51, 52, 53, 54]
def q_R_isBand : List Nat := [0, 1, 2, 3, 6, 7, 8, 11, 12]
def q_R_orderOf : List Nat := [0, 1, 2, 3, 4, 5, 6, 9, 12, 14, 15, 16, 17, 18, 19, 22, 23, 24, 27, 30, 31, 32]
def q_R_of : List Nat := [0, 1, 4, 6, 7, 8, 9, 10, 11, 12]
def q_R_order : List Nat := [0, 1, 2, 5, 8, 9, 10, 13, 16, 17, 18, 19, 22, 23, 24, 25, 28, 29, 32, 33]
def q_R_isOrder : List Nat := [0, 1, 2, 3, 4, 5, 6, 9, 12, 13, 14, 15, 16, 17, 20, 21, 22, 23, 26, 29, 30, 33, 36, 37, 38, 39, 42, 45, 46, 47, 50, 53, 54, 55, 56, 59, 60, 61, 62, 65, 66, 69, 70, 71]
def q_R_nth : List Nat := [0, 1, 2, 5, 6, 7, 8, 9, 12, 13, 15, 16, 17]
def q_R_ten : List Nat := [0, 1, 2, 3, 4, 5, 6, 9, 10, 12, 13, 14, 17, 20, 21, 22]
def q_R_keep : List Nat := [0, 1, 4, 6, 9, 11, 12, 13, 16, 19, 20, 23, 24, 26, 27, 28, 31, 32, 33, 34, 37, 40, 41, 42, 45, 46, 47, 50, 51, 52, 53, 55, 58, 59, 62, 64, 65, 68, 69, 70, 71, 72, 75, 76, 77, 78, 81, 84, 85, 86, 89, 90, 91, 94, 95]
def q_R_write : List Nat := [0, 1, 2, 3, 4, 7, 10, 11, 14, 16, 17, 18, 19, 20, 21, 22, 23, 26, 27, 30, 33, 34]
def q_R_start : List Nat := [0, 1, 2, 5, 8, 9, 10, 12, 15, 18, 19, 20, 21, 24, 25, 26, 27, 28, 29]
def q_R_worth : List Nat := [0, 1, 2, 3, 6, 7, 8, 11, 14, 15, 16, 17, 18, 21, 22, 23]
def q_R_undo : List Nat := [0, 1, 4, 7, 8, 9, 10, 11, 14, 15, 16, 19, 20, 21, 22, 24, 27, 28, 31, 32, 33, 36, 38, 39, 42, 43, 44, 45, 46, 47, 50, 53, 54, 57, 58]
def q_R_at : List Nat := [0, 1, 2, 5, 8, 9, 10, 11, 14, 15, 16, 19, 22, 23, 24, 25, 28, 31, 32, 33]
def q_R_follows : List Nat := [0, 1, 2, 5, 8, 9, 10, 13, 16, 17, 18, 21, 22, 23, 24, 27, 30, 31, 32]
def q_R_followsOf : List Nat := [0, 1, 2, 3, 5, 7, 8, 11, 14, 15, 16, 17, 19, 22, 23, 24, 26, 27, 28, 31, 34, 35, 38, 39, 40, 41, 44, 47, 48, 49]
def q_R_lawful : List Nat := [0, 1, 4, 7, 8, 11, 12, 13, 16, 19, 22, 23, 26, 27, 28]
def q_R_isLawful : List Nat := [0, 1, 2, 3, 4, 7, 8, 9, 10, 11, 14, 15, 16, 19, 20, 21, 22, 25, 28, 29, 30, 31, 34, 35, 38, 41, 42, 43, 46, 49, 52, 55, 56, 57]
def q_R_doMeet : List Nat := [0, 1, 2, 3, 4, 7, 10, 11, 12, 13, 16, 17, 18, 19, 22, 25, 26, 27, 30, 33, 34, 35]
def q_R_crowd : List Nat := [0, 1, 2, 3, 6, 9, 10, 11, 12, 13, 14, 15, 18, 21, 22, 23, 24, 25, 28, 31, 32, 33, 34, 37, 40, 41, 44, 45, 48, 49, 52, 53, 54, 57, 58, 61, 62, 63, 64, 67, 68, 71, 74, 77, 80, 81, 82]
def q_R_bandsAt : List Nat := [0, 1, 2, 3, 5, 7, 8, 11, 14, 15, 16, 18, 19, 22, 23, 26, 27, 29, 30, 33, 34, 35, 36, 39, 42, 43, 44]
def q_R_even : List Nat := [0, 1, 2, 5, 8, 11, 12, 13, 14, 15, 18, 19, 20, 21, 22, 23, 26, 29, 30, 31, 32, 33, 34, 37, 40, 41, 42, 43, 44, 45, 46, 49, 50, 51, 52, 53, 54, 57, 58, 59, 60, 61, 62, 63, 64, 66, 67, 69, 70, 71, 72, 73]
def q_R_slips : List Nat := [0, 1, 4, 7, 8, 9, 10, 11, 12, 13, 14, 15, 18, 21, 22, 23, 24, 25, 28, 31, 32, 34, 35, 37, 39, 40, 43, 46, 47, 49, 51, 52, 55, 58, 60, 63, 64, 66, 68, 69, 70, 73, 74, 77, 78, 80, 82, 85, 86, 89, 90, 93, 94, 96, 99, 102, 105, 108, 109, 111, 114, 115, 118, 119, 120, 121, 124, 127, 130, 133, 134, 135]
def q_R_well : List Nat := [0, 1, 2, 5, 8, 9, 12, 13, 14, 15, 16, 17, 19, 21, 22, 25, 28, 29, 31, 33, 34, 37, 40, 41, 43, 45, 48, 49, 52, 53, 54, 57, 59, 60, 63, 66, 69, 72, 75, 76, 77]
def q_R_sight : List Nat := [0, 1, 4, 7, 8, 9, 10, 11, 12, 13, 14, 15, 18, 21, 22, 23, 24, 25, 28, 31, 32, 34, 36, 37, 40, 41, 42, 43, 46, 48, 49, 51, 52, 55, 57, 58, 60, 62, 65, 66, 69, 71, 72, 73, 76, 78, 79, 82, 83, 86, 88, 89, 90, 93, 95, 96, 99, 100, 103, 104, 105, 106, 109, 112, 115, 118, 121, 124, 125, 126]
def q_R_comes : List Nat := [0, 1, 2, 5, 8, 9, 10, 11, 14, 15, 16, 19, 22, 23, 24, 25, 28, 31, 32, 33]
def q_R_comesAt : List Nat := [0, 1, 4, 5, 6, 7, 8, 10, 12, 13, 16, 17, 18, 21, 22, 23, 24, 25, 26, 28, 31, 32, 33, 35, 38, 41, 42, 44, 45, 48, 49, 52, 55, 56, 57, 58, 59, 62, 65, 66, 67]
def q_R_ahead : List Nat := [0, 1, 4, 5, 8, 9, 10, 11, 12, 13, 16, 17]
def q_R_steps : List Nat := [0, 1, 2, 5, 6, 9, 10, 13, 14, 15, 16, 17, 18, 21, 22, 25, 26, 29, 30, 31, 33, 34, 35, 38, 39, 40, 41, 44, 46, 47, 50, 51, 52, 53, 56, 57, 58]
def q_R_home : List Nat := [0, 1, 2, 5, 8, 9, 10, 13, 16, 17, 18]
def q_R_homeOf : List Nat := [0, 1, 2, 3, 6, 7, 8, 11, 12, 13, 14, 15, 18, 19, 20, 23, 24, 27, 28, 29, 32, 33, 34, 35, 36, 37, 40, 41, 42, 43]
def q_R_points : List Nat := [0, 1, 2, 5, 8, 9, 10, 13, 16, 19, 20]
def q_R_pointsOf : List Nat := [0, 1, 2, 3, 4, 5, 6, 9, 12, 13, 16, 17, 20, 21, 24, 25, 26, 27, 28, 31, 32, 33, 34, 35, 38, 39, 40, 43, 44, 45, 46, 47, 50, 51, 52, 53, 54, 57, 58, 59, 62, 63, 64, 65, 66, 67, 70, 71, 72, 73, 76, 79, 80, 81, 82, 83, 86, 89, 90, 91, 94, 97, 98, 99]
def q_R_worthOf : List Nat := [0, 2, 3, 4, 5, 6, 8, 9, 10, 11, 14, 15, 16, 17, 20, 21, 24, 25, 26, 27, 30, 31, 32, 35, 36, 37, 38, 41, 42, 43, 44, 47, 48, 49, 52, 55, 56, 57, 58, 61, 62, 63, 64, 67, 68, 69, 72, 73, 76, 79, 80, 81]
def q_R_workOut : List Nat := [0, 1, 3, 6, 7, 8, 9, 10, 12, 14, 17, 18, 19, 20, 21, 24, 25, 28, 30, 31, 34, 35, 38, 40, 41, 42, 45, 46, 49, 51, 52, 55, 57, 58, 61, 62, 65, 67, 68, 71, 72, 75, 76, 79, 81, 82, 83, 84, 87, 90, 91, 94, 96, 97, 99, 102, 103, 106, 108, 109, 110, 111, 112, 115, 117, 118, 119, 120, 121, 122, 125, 128, 129, 132, 134, 135, 136, 137, 140, 142, 143, 144, 147, 149, 150, 151, 152, 153, 154, 157, 159, 160, 161, 164, 165, 168, 171, 172, 175, 176, 177, 178]
def q_R_worked : List Nat := [0, 1, 52, 53, 54, 55, 58, 59, 60, 61, 62, 65, 66, 67, 68, 69, 72, 73, 74, 75, 76, 79, 80, 83, 84, 85, 86, 89, 90, 91, 92, 93, 96, 97, 100, 101, 102, 103, 104, 105, 108, 109, 112, 113, 114, 115, 116, 117, 120, 121, 124, 125, 126, 127, 128, 129, 132, 133, 134, 135, 138, 139, 142, 143, 144, 145, 146, 147, 150, 151, 152, 153, 156, 157, 160, 161, 162]
def q_R_bounded : List Nat := [0, 3, 6, 7, 10, 13, 14, 15]
def q_R_clashes : List Nat := [0, 1, 4, 7, 8, 9, 10, 13, 16, 19, 20, 21, 22, 23, 24, 25, 27, 29, 30, 33, 36, 37, 39, 41, 43, 46, 47, 49, 51, 54, 56, 57, 59, 60, 63, 64, 67, 68, 69, 70, 72, 73, 76, 77, 78, 81, 83, 84, 87, 89, 92, 93, 94, 97, 100, 103, 106, 107, 110, 111, 114, 115, 116]
def q_R_clashOf : List Nat := [0, 1, 2, 3, 5, 7, 8, 11, 14, 15, 17, 19, 20, 23, 26, 27, 28, 30, 33, 34, 35, 37, 40, 43, 45, 46, 47, 49, 52, 53, 54, 56, 59, 62, 63, 66, 67, 69, 70, 71, 73, 76, 77, 78, 80, 83, 86, 88, 90, 93, 94, 95, 98, 100, 101, 104, 106, 109, 110, 111, 114, 117, 120, 123, 124, 125]
def q_R_starts : List Nat := [0, 1, 4, 7, 8, 9, 11, 14, 17, 18, 19, 20, 23, 26, 27, 28, 29, 32, 33, 36, 39, 40, 41, 42, 43, 45, 47, 49, 52, 53, 56, 58, 59, 62, 64, 65, 66, 67, 69, 70, 73, 76, 77, 78, 79, 82, 83, 84, 85, 88, 91, 92, 94, 95, 97, 98, 100, 102, 103, 106, 108, 110, 111, 113, 114, 116, 117, 119, 120, 123, 124, 125, 127, 129, 132, 133, 136, 138, 140, 141, 142, 143, 144, 145, 147, 148, 151, 153, 154, 155, 157, 159, 161, 162, 165, 167, 168, 169, 170, 172, 174, 176, 177, 179, 181, 182, 183, 184, 185, 187, 190, 193, 195, 196, 199, 201, 203, 206, 207, 208, 211, 214, 216, 218, 220, 222, 225, 228, 229, 231, 233, 235, 238, 239, 242, 244, 245, 248, 250, 251, 252, 255, 258, 260, 261, 264, 265, 266, 269, 271, 274, 276, 277]
def q_R_soonest : List Nat := [0, 1, 2, 5, 8, 9, 10, 11, 14, 17, 18, 19, 20, 23, 24, 25, 28, 29, 30, 32, 33, 35, 36, 38, 40, 41, 44, 47, 48, 49, 50, 53, 55, 56, 59, 60, 61, 64, 66, 68, 69, 72, 74, 76, 79, 80, 81, 84, 87, 88, 91, 93, 94, 96, 98, 100, 103, 106, 107, 108, 109, 112, 114, 115, 118, 119, 122, 124, 127, 129, 130]
def q_R_layOrders : List Nat := [0, 1, 2, 5, 6, 7, 8, 9, 12, 13, 14, 15, 18, 19]
def q_R_build : List Nat := [0, 1, 4, 5, 8, 9, 12, 13, 14, 15, 16, 19, 20, 21, 24, 25, 26, 27, 28, 29, 32, 35, 36, 37, 40, 43, 44, 46, 47, 48, 49, 50, 51, 52, 53, 54, 55, 56, 57, 60, 63, 66, 67]
def q_R_doesClash : List Nat := [0, 1, 2, 3, 4, 7, 10, 11, 12, 15, 16, 17, 18, 21, 22, 25, 26, 27, 30, 33, 34, 35]
def q_R_rich : List Nat := [0, 1, 2, 5, 8, 9, 10, 11, 14, 17, 20, 21, 22, 25, 26, 27, 30, 31, 32, 34, 35, 37, 38, 40, 42, 43, 46, 49, 50, 51, 52, 55, 57, 58, 61, 62, 63, 66, 68, 70, 71, 74, 76, 78, 81, 82, 83, 86, 89, 90, 93, 95, 96, 98, 100, 102, 105, 108, 109, 110, 111, 114, 116, 117, 120, 123, 126, 127, 130, 132, 135, 137, 138]
def q_R_meetsAny : List Nat := [0, 1, 2, 3, 4, 7, 10, 11, 12, 15, 16, 17, 18, 21, 24, 25, 26, 29, 32, 33, 34]
def q_R_find : List Nat := [0, 1, 2, 5, 8, 9, 10, 11, 14, 15, 16, 19, 22, 23, 24, 27, 30, 31, 34, 36, 39, 40, 41, 42, 45, 46, 49, 50, 51, 52, 55, 56, 59, 60, 61, 62, 65, 66, 69, 70, 71, 72, 75, 76, 79, 81, 82, 83, 84, 87, 88, 89, 92, 93, 96, 97]
def q_R_fits : List Nat := [0, 1, 2, 5, 8, 9, 10, 11, 14, 15, 16, 17, 18, 19, 20, 23, 26, 27, 28, 29, 30, 33, 34, 35, 38, 41, 42, 45, 46, 47, 48, 51, 54, 55, 56]
def q_R_agrees : List Nat := [0, 1, 2, 3, 4, 7, 10, 11, 14, 15, 16, 17, 20, 21, 22, 23, 26, 27, 28, 31, 32, 35, 36, 37, 40, 41, 44, 45, 46, 49, 50, 51, 54, 55, 56, 59, 62, 63, 64]
def q_R_tables : List Nat := [0, 1, 4, 7, 8, 11, 12, 15, 16, 19, 20, 23, 26, 27, 28, 29, 32, 33, 34, 37, 38, 39, 42, 45, 46, 47, 48, 51, 52, 53, 54, 56, 59, 60, 63, 64, 65, 68, 69, 70, 71, 74, 77, 78, 79, 82, 83, 84, 87, 88, 89, 90, 93, 96, 97, 100, 101, 104, 105, 106, 109, 110, 111, 114, 115, 116, 117, 119, 122, 123, 126, 127, 128, 131, 132, 133, 134, 137, 140, 141, 142, 145, 146, 149, 152, 153, 156, 157]
def q_R_tablesFrom : List Nat := [0, 1, 2, 5, 8, 9, 10, 13, 14, 17, 20, 21, 22, 25, 28, 31, 32, 35, 38, 39, 40, 43, 44, 45, 48, 49, 50, 51, 52, 53, 56, 59, 60, 63, 66, 69, 70, 71, 72, 75, 76, 77, 80, 83, 84, 85, 86, 89, 90, 91, 94, 95, 96, 99, 102, 103, 104, 105, 106, 109, 112, 115, 116]
def q_R_goesWith : List Nat := [0, 1, 2, 3, 4, 7, 8, 9, 10, 13, 16, 17, 18, 19, 22, 23, 26, 29, 30, 31, 32, 35, 36, 39, 42, 43, 44, 47, 50, 51, 52]
def q_R_wrong : List Nat := [0, 1, 2, 5, 8, 9, 10, 11, 14, 15, 16, 19, 22, 23, 24, 27, 30, 32, 33, 34, 37, 40, 41, 42, 43, 46, 47, 50, 51, 52, 53, 54, 55, 58, 60, 61, 64, 66, 67, 68, 69, 70, 71, 72, 73, 74, 75, 78, 79, 80, 81, 82, 83, 84, 86, 87, 89, 90, 92, 94, 95, 98, 101, 103, 105, 106, 109, 110, 111, 113, 116, 119, 120, 121, 123, 126, 129, 130, 133, 135, 136, 137, 138, 139, 141, 142, 144, 147, 149, 152, 154, 155]
def q_R_helpers : List Nat := [0, 1, 4, 7, 8, 9, 11, 14, 17, 18, 19, 20, 21, 24, 25, 26, 27, 28, 31, 34, 35, 36, 37, 38, 41, 44, 45, 46, 47, 50, 53, 54, 57, 58, 61, 62, 63, 64, 67, 68, 71, 72, 73, 74, 75, 78, 79, 80, 83, 86, 89, 92, 95, 96, 97, 98, 99, 102, 105, 106, 107, 108, 109, 112, 115, 116, 119, 120, 121, 122, 125, 126, 127, 128, 130, 131, 134, 136, 137, 138, 139, 140, 142, 145, 146, 147, 148, 151, 152, 153, 154, 155, 157, 160, 161, 164, 165, 166, 169, 172, 173, 176, 177, 178, 181, 184, 187, 190, 191, 192, 193, 194, 195, 196, 199, 202, 203, 206, 207, 208, 209, 212, 215, 216, 217, 218, 219, 222, 225, 226, 228, 230, 231, 234, 237, 238, 241, 243, 244, 245, 248, 251, 252, 253, 254, 257, 260, 261, 264, 265, 266, 267, 270, 273, 274, 277, 278, 279, 280]
def q_R_hop : List Nat := [0, 1, 3, 4, 6, 8, 9, 12, 13, 15, 16, 18, 20, 21, 24, 27, 28, 30, 32, 33, 36, 39, 41, 43, 45, 48, 51, 52, 54, 56, 59, 60, 63, 64, 66, 67, 70, 71, 72, 74, 77, 80, 83, 86, 88, 90, 93, 96, 98, 99]
def q_R_match : List Nat := [0, 1, 2, 3, 4, 7, 10, 11, 14, 16, 17, 18, 19, 20, 21, 24, 25, 28, 29, 30, 33, 34, 37, 38, 39, 40, 41, 44, 45, 46, 47, 50, 51, 52, 55, 56, 57, 60, 63, 64, 67, 68, 69, 70, 71, 72, 75, 78, 79, 80]
def q_R_pieces : List Nat := [0, 1, 2, 4, 7, 10, 11, 12, 13, 16, 19, 20, 23, 24, 25, 26, 27, 30, 31, 34, 35, 36, 37, 38, 41, 44, 45, 46, 47, 48, 49, 50, 53, 54, 55, 57, 58, 60, 62, 63, 64, 65, 68, 70, 73, 74, 75, 76, 79, 81, 82, 83, 84, 87, 88, 89, 90, 91, 92, 94, 95, 96, 97, 98, 101, 104, 107, 108, 109]
def q_R_choose : List Nat := [0, 1, 2, 3, 4, 5, 6, 9, 10, 11, 12, 13, 14, 15, 16, 17, 18, 19, 22, 25, 26, 27, 30, 31, 34, 35, 36]
def q_R_drawn : List Nat := [0, 1, 4, 7, 8, 9, 10, 13, 14, 15, 16, 18, 20, 21, 24, 27, 28, 30, 32, 33, 36, 39, 40, 43, 45, 47, 48, 50, 51, 53, 54, 57, 60, 61, 64, 65, 66, 68, 70, 73, 74, 77, 78, 81, 82, 83, 84, 86, 87, 89, 90, 91, 92, 93, 94, 96, 97, 100, 102, 104, 105, 107, 108, 109, 111, 112, 115, 117, 119, 120, 122, 123, 124, 127, 129, 131, 132, 134, 135, 136, 137, 138, 141, 143, 145, 146, 148, 149, 151, 152, 155, 158, 161, 164, 165, 168, 169]
def q_R_image : List Nat := [0, 1, 4, 7, 8, 9, 10, 11, 12, 14, 17, 18, 21, 22, 23, 26, 27, 28, 29, 32, 35, 36, 37, 38, 40, 43, 44, 47, 48, 49, 52, 53, 54, 55, 58, 61, 62, 63, 66, 67, 70, 71]
def q_R_back : List Nat := [0, 1, 4, 7, 8, 9, 10, 11, 12, 14, 17, 18, 21, 22, 23, 26, 27, 28, 29, 32, 35, 36, 37, 38, 40, 43, 44, 47, 48, 49, 52, 53, 54, 55, 58, 61, 62, 63, 66, 67, 68]
def q_R_again : List Nat := [0, 1, 4, 7, 8, 9, 10, 11, 12, 13, 14, 15, 18, 21, 22, 23, 24, 25, 28, 31, 32, 33, 34, 35, 38, 39, 42, 44, 45, 46, 47, 48, 49, 52, 53, 56, 57, 58, 59, 62, 65, 68, 71, 72, 73]
def q_R_count : List Nat := [0, 1, 52, 53, 56, 57, 58, 61, 62, 63, 66, 67, 68, 71, 72, 73, 76, 77, 78, 81, 82, 83, 86, 87, 88, 91, 92, 93, 96, 97, 100, 101]
def q_Law_law : List Nat := [0, 3, 4, 7, 8, 11, 12, 15, 16, 17, 19, 20, 21, 23, 25, 26, 27, 29, 30, 33, 34, 36, 37, 39, 40, 200, 201, 202, 204, 205, 206, 207, 208, 210, 211, 212, 213, 214, 216, 217, 218, 219, 220, 222, 223, 224, 225, 226, 228, 229, 230, 231, 234, 235, 236, 238, 239, 240, 241, 242, 244, 245, 246, 247, 248, 250, 251, 252, 253, 254, 256, 257, 258, 259, 260, 262, 263, 264, 265, 268, 271, 272, 273, 274, 275, 277, 278, 279, 280, 283, 284, 285, 287, 288, 289, 290, 293, 296, 297, 298, 299, 300, 302, 303, 304, 305, 308, 309, 310, 312, 313, 314, 315, 318, 321, 322, 323, 324, 325, 327, 328, 329, 330, 333, 334, 335, 337, 338, 339, 340, 343, 346, 347, 348, 349, 350, 352, 353, 354, 355, 356, 358, 359, 360, 361, 362, 365, 367, 368, 369, 371, 372, 373, 374, 375, 377, 378, 379, 380, 383, 385, 386, 389, 391, 394, 395, 396, 398, 401, 402, 403, 404, 406, 407, 408, 411, 412, 413, 416, 417, 418, 420, 421, 422, 423, 424, 426, 427, 428, 429, 432, 433, 434, 436, 437, 438, 439, 440, 442, 443, 444, 445, 448, 451, 452, 453, 454, 455, 457, 458, 459, 460, 461, 463, 464, 465, 466, 469, 470, 471, 473, 474, 475, 476, 477, 479, 480, 481, 482, 485, 488, 489, 490, 491, 492, 494, 495, 496, 497, 498, 500, 501, 502, 503, 506, 507, 508, 510, 511, 512, 513, 514, 516, 517, 518, 519, 522, 525, 526, 527, 528, 529, 531, 532, 533, 534, 537, 538, 539, 541, 542, 543, 544, 547, 550, 551, 552, 553, 556, 557, 560, 563, 564, 565, 566, 567, 569, 570, 571, 572, 573, 575, 576, 577, 578, 581, 582, 583, 585, 586, 587, 588, 589, 591, 592, 593, 594, 597, 600, 601, 602, 603, 604, 606, 607, 608, 609, 610, 612, 613, 614, 615, 618, 619, 620, 622, 623, 624, 625, 626, 628, 629, 630, 631, 634, 637, 638, 639, 640, 643, 644, 647, 650, 651, 652, 653, 654, 656, 657, 658, 659, 662, 663, 664, 666, 667, 668, 669, 672, 675, 676, 677, 678, 679, 681, 682, 683, 684, 685, 687, 688, 689, 690, 691, 693, 694, 695, 696, 699, 700, 701, 703, 704, 705, 706, 707, 709, 710, 711, 712, 713, 715, 716, 717, 718, 721, 724, 725, 726, 727, 730, 731, 734, 737, 738, 739, 740, 741, 743, 744, 745, 746, 747, 749, 750, 751, 752, 755, 756, 757, 759, 760, 761, 762, 763, 765, 766, 767, 768, 771, 774, 775, 776, 777, 780, 781, 784, 787, 788, 789, 790, 791, 793, 794, 795, 796, 799, 800, 801, 803, 804, 805, 806, 809, 812, 813, 814, 815, 816, 818, 819, 820, 821, 822, 824, 825, 826, 827, 830, 831, 832, 834, 835, 836, 837, 838, 840, 841, 842, 843, 846, 849, 850, 851, 852, 853, 855, 856, 857, 858, 861, 862, 863, 865, 866, 867, 868, 871, 874, 875, 876, 877, 878, 880, 881, 882, 883, 886, 887, 888, 890, 891, 892, 893, 896, 899, 900, 901, 902, 903, 905, 906, 907, 908, 909, 911, 912, 913, 914, 917, 918, 919, 921, 922, 923, 924, 925, 927, 928, 929, 930, 933, 936, 937, 938, 939, 940, 942, 943, 944, 945, 946, 948, 949, 950, 951, 954, 955, 956, 958, 959, 960, 961, 962, 964, 965, 966, 967, 970, 973, 974, 975, 976, 977, 979, 980, 981, 982, 983, 985, 986, 987, 988, 991, 992, 993, 995, 996, 997, 998, 999, 1001, 1002, 1003, 1004, 1007, 1010, 1011, 1012, 1013, 1014, 1016, 1017, 1018, 1019, 1020, 1022, 1023, 1024, 1025, 1026, 1028, 1029, 1030, 1031, 1032, 1034, 1035, 1036, 1037, 1040, 1041, 1044, 1045, 1048, 1049, 1050, 1052, 1053, 1054, 1055, 1056, 1058, 1059, 1060, 1061, 1062, 1064, 1065, 1066, 1067, 1068, 1070, 1071, 1072, 1073, 1076, 1077, 1080, 1081, 1084, 1087, 1088, 1089, 1090, 1091, 1093, 1094, 1095, 1096, 1099, 1100, 1101, 1103, 1104, 1105, 1106, 1109, 1112, 1113, 1114, 1115, 1116, 1118, 1119, 1120, 1121, 1122, 1124, 1125, 1126, 1127, 1130, 1131, 1132, 1134, 1135, 1136, 1137, 1138, 1140, 1141, 1142, 1143, 1146, 1149, 1150, 1151, 1152, 1153, 1155, 1156, 1157, 1158, 1159, 1161, 1162, 1163, 1164, 1165, 1167, 1168, 1169, 1170, 1171, 1173, 1174, 1175, 1176, 1179, 1180, 1181, 1183, 1184, 1185, 1186, 1187, 1189, 1190, 1191, 1192, 1193, 1195, 1196, 1197, 1198, 1199, 1201, 1202, 1203, 1204, 1207, 1210, 1211, 1212, 1213, 1214, 1216, 1217, 1218, 1219, 1222, 1223, 1224, 1226, 1227, 1228, 1229, 1232, 1235, 1236, 1237, 1238, 1239, 1241, 1242, 1243, 1244, 1245, 1247, 1248, 1249, 1250, 1251, 1253, 1254, 1255, 1256, 1259, 1260, 1261, 1263, 1264, 1265, 1266, 1267, 1269, 1270, 1271, 1272, 1273, 1275, 1276, 1277, 1278, 1281, 1284, 1285, 1286, 1287, 1288, 1290, 1291, 1292, 1293, 1294, 1296, 1297, 1298, 1300, 1301, 1302, 1303, 1304, 1307, 1308, 1309, 1312, 1313, 1314, 1316, 1317, 1318, 1319, 1320, 1322, 1323, 1324, 1326, 1327, 1328, 1329, 1330, 1333, 1334, 1335, 1338, 1341, 1342, 1343, 1344, 1347, 1348, 1351, 1354, 1355, 1356, 1357, 1360, 1361, 1364, 1367, 1368, 1369, 1370, 1373, 1374, 1377, 1380, 1381, 1382, 1383, 1384, 1386, 1387, 1388, 1389, 1392, 1393, 1394, 1396, 1397, 1398, 1399, 1402, 1405, 1406, 1407, 1410, 1413, 1414, 1415]
def jm_pcss : List (List Nat) := [q_X_init, q_Tape_init, q_HuntReader_init, q_Hunt_init, q_WorthReader_init, q_Worths_init, q_Table_init, q_Past_init, q_Clock_init, q_OrderSearch_init, q_Finds_init, q_HelperCount_init, q_X_feed, q_Tape_bytesIn, q_Tape_hasRoom, q_Tape_add, q_Tape_length, q_X_end, q_Tape_cut, q_X_fault, q_HuntReader_read, q_Tape_rewind, q_Hunt_clear, q_HuntReader_readClause, q_Tape_nextSign, q_HuntReader_addClause, q_Hunt_addPlace, q_Hunt_addBand, q_Tape_pass, q_HuntReader_readItems, q_HuntReader_itemOf, q_HuntReader_readValue, q_Tape_takeNumber, q_Tape_isDigit, q_Tape_stepBack, q_Hunt_put, q_Tape_position, q_Hunt_isWhole, q_Tape_take, q_WorthReader_read, q_WorthReader_readClause, q_WorthReader_readCondition, q_WorthReader_readTruth, q_WorthReader_readUnit, q_WorthReader_readSum, q_WorthReader_readTerm, q_WorthReader_readAtom, q_Worths_letterOf, q_WorthReader_write, q_WorthReader_readComparison, q_WorthReader_isComparison, q_WorthReader_readMoreUnits, q_WorthReader_readMoreTruths, q_WorthReader_readWhatFollowsCondition, q_X_text, q_HuntReader_draft, q_Hunt_copyFrom, q_Table_reset, q_Hunt_places, q_Hunt_bands, q_Past_forget, q_Finds_forget, q_Worths_hasRoom, q_WorthReader_code, q_WorthReader_size, q_Worths_keep, q_X_band, q_Hunt_hasBand, q_Hunt_slow, q_Table_digitsOf, q_Table_placeOf, q_Hunt_hasPlace, q_Table_startOf, q_X_order, q_Table_isOrder, q_Past_remember, q_Past_keepOrders, q_Table_putOrder, q_Past_acts, q_X_start, q_Table_putStart, q_X_worth, q_Worths_hold, q_X_undo, q_Past_undoLatest, q_Past_bringOrders, q_X_at, q_X_follows, q_Table_timesFollowed, q_X_lawful, q_Hunt_isTold, q_Table_keepsTheLaw, q_Hunt_follow, q_Table_firstMeetingTurn, q_Table_firstMeetingPlace, q_Table_bandsAt, q_JInteger_bitCount, q_X_crowd, q_X_even, q_X_evenTurn, q_X_slips, q_Table_pairsOfPlaces, q_JLong_bitCount, q_X_well, q_Table_comerTo, q_X_sight, q_Table_timesSeen, q_Table_inOneLine, q_Hunt_x, q_Hunt_y, q_X_points, q_Clock_pointsOf, q_Clock_wayOf, q_Hunt_steps, q_Worths_valueOf, q_Worths_run, q_Worths_letterValue, q_Worths_join, q_Worths_joined, q_Worths_bounded, q_Hunt_stay, q_X_comes, q_Clock_minuteOf, q_X_home, q_Clock_minuteHome, q_X_clashes, q_Clock_clashingPairs, q_Clock_lookWhoComesWhen, q_Clock_clashOf, q_Clock_firstClash, q_X_starts, q_Clock_seekStarts, q_Clock_clashesByStarts, q_Clock_seekStartOf, q_Clock_startsApart, q_Clock_leastSum, q_Clock_leastRow, q_X_soonest, q_OrderSearch_seekSoonest, q_OrderSearch_goSoon, q_OrderSearch_keep, q_Clock_clashesThere, q_OrderSearch_bestOrder, q_OrderSearch_bestValue, q_X_rich, q_OrderSearch_seekRichest, q_OrderSearch_placesOfOthers, q_OrderSearch_goRich, q_X_find, q_Finds_hasRoom, q_Finds_add, q_X_fits, q_Finds_fittingOrders, q_Finds_waysThrough, q_X_tables, q_Finds_isSmall, q_Finds_howManyTables, q_Finds_seekTables, q_Finds_clearSearch, q_Finds_someAreLawful, q_Finds_fillIfItCanBe, q_Finds_shutWhereOthersMustBe, q_Finds_shutElsewhere, q_Finds_fill, q_Finds_keepTable, q_Finds_mayFollow, q_Finds_set, q_Finds_follow, q_Finds_unset, q_Finds_openWhatIsLeft, q_Finds_orderInTable, q_X_wrong, q_Table_followsGoneWrong, q_X_helpers, q_HelperCount_fewest, q_HelperCount_fillReach, q_HelperCount_oneMoveMore, q_HelperCount_gatherDuties, q_HelperCount_joinOneMore, q_HelperCount_lookFrom, q_HelperCount_canJoin, q_HelperCount_giveWay, q_X_pieces, q_X_howManySets, q_X_setByNumber, q_X_drawn, q_Table_drawOrders, q_Table_drawOrder, q_Table_nextDraw, q_X_image, q_Past_takeImage, q_X_back, q_Past_hasImage, q_Past_goBack, q_X_again, q_Past_likeImage, q_X_count, q_Worths_size, q_Worths_holding, q_Finds_size, q_R_init, q_R_thrown, q_R_feed, q_R_byteOf, q_R_end, q_R_fault, q_R_readHunt, q_R_look, q_R_here, q_R_placeText, q_R_has, q_R_number, q_R_isDigit, q_R_bad, q_R_in, q_R_bandText, q_R_lawText, q_R_readLaw, q_R_open, q_R_clause, q_R_condition, q_R_unit, q_R_opens, q_R_put, q_R_closes, q_R_sum, q_R_term, q_R_atom, q_R_plainNumber, q_R_letterOf, q_R_compare, q_R_isSign, q_R_goOnAnd, q_R_goOnOr, q_R_atEnd, q_R_text, q_R_takeHunt, q_R_place, q_R_isPlace, q_R_band, q_R_isBand, q_R_orderOf, q_R_of, q_R_order, q_R_isOrder, q_R_nth, q_R_ten, q_R_keep, q_R_write, q_R_start, q_R_worth, q_R_undo, q_R_at, q_R_follows, q_R_followsOf, q_R_lawful, q_R_isLawful, q_R_doMeet, q_R_crowd, q_R_bandsAt, q_R_even, q_R_slips, q_R_well, q_R_sight, q_R_comes, q_R_comesAt, q_R_ahead, q_R_steps, q_R_home, q_R_homeOf, q_R_points, q_R_pointsOf, q_R_worthOf, q_R_workOut, q_R_worked, q_R_bounded, q_R_clashes, q_R_clashOf, q_R_starts, q_R_soonest, q_R_layOrders, q_R_build, q_R_doesClash, q_R_rich, q_R_meetsAny, q_R_find, q_R_fits, q_R_agrees, q_R_tables, q_R_tablesFrom, q_R_goesWith, q_R_wrong, q_R_helpers, q_R_hop, q_R_match, q_R_pieces, q_R_choose, q_R_drawn, q_R_image, q_R_back, q_R_again, q_R_count, q_Law_law]
def jm_pc (y i : Nat) : Nat := ja_nth (ja_nth jm_pcss y []) i 0
def jm_fl : List (Nat × Nat × Nat × Nat × Nat × Nat) := [(8, 11, 8, 0, 1, 36), (8, 15, 8, 1, 1, 37), (8, 19, 8, 2, 1, 38), (3, 9, 3, 0, 1, 59), (3, 15, 3, 1, 1, 60), (3, 18, 3, 2, 1, 61), (3, 21, 3, 3, 1, 62), (3, 25, 3, 4, 1, 63), (3, 28, 3, 5, 1, 64), (3, 31, 3, 6, 1, 65), (4, 18, 4, 0, 1, 81), (4, 12, 4, 1, 1, 82), (4, 30, 4, 2, 1, 83), (9, 17, 9, 0, 1, 97), (9, 11, 9, 1, 1, 98), (9, 21, 9, 2, 1, 99), (10, 15, 10, 0, 1, 117), (10, 18, 10, 1, 1, 118), (10, 22, 10, 2, 1, 119), (10, 25, 10, 3, 1, 120), (10, 32, 10, 4, 1, 121), (10, 28, 10, 5, 1, 122), (7, 20, 7, 0, 1, 143), (7, 11, 7, 1, 1, 144), (7, 16, 7, 2, 1, 145), (7, 80, 7, 3, 1, 146), (6, 23, 6, 0, 1, 163), (6, 27, 6, 1, 1, 164), (6, 13, 6, 2, 1, 165), (6, 55, 6, 3, 1, 166), (6, 31, 6, 4, 1, 167), (6, 16, 6, 5, 1, 168), (6, 20, 6, 6, 1, 169), (6, 35, 6, 7, 1, 170), (0, 23, 0, 0, 1, 195), (0, 27, 0, 1, 1, 196), (0, 11, 0, 2, 1, 197), (0, 16, 0, 3, 1, 198), (0, 19, 0, 4, 1, 199), (0, 97, 0, 5, 1, 200), (0, 90, 0, 6, 1, 201), (0, 94, 0, 7, 1, 202), (5, 15, 5, 0, 1, 226), (5, 19, 5, 1, 1, 227), (5, 23, 5, 2, 1, 228), (5, 27, 5, 3, 1, 229), (5, 9, 5, 4, 1, 230), (5, 42, 5, 5, 1, 231), (5, 38, 5, 6, 1, 232), (5, 31, 5, 7, 1, 233), (5, 35, 5, 8, 1, 234), (1, 38, 1, 0, 2, 21), (1, 11, 1, 1, 2, 22), (1, 16, 1, 2, 2, 23), (1, 42, 1, 3, 2, 24), (1, 86, 1, 4, 2, 25), (1, 46, 1, 5, 2, 26), (1, 83, 1, 6, 2, 27), (1, 105, 1, 7, 2, 28), (1, 20, 1, 8, 2, 29), (1, 23, 1, 9, 2, 30), (1, 26, 1, 10, 2, 31), (1, 29, 1, 11, 2, 32), (1, 32, 1, 12, 2, 33), (1, 35, 1, 13, 2, 34), (2, 35, 2, 0, 2, 71), (2, 39, 2, 1, 2, 72), (2, 11, 2, 2, 2, 73), (2, 16, 2, 3, 2, 74), (2, 20, 2, 4, 2, 75), (2, 23, 2, 5, 2, 76), (2, 26, 2, 6, 2, 77), (2, 29, 2, 7, 2, 78), (2, 32, 2, 8, 2, 79), (2, 50, 2, 9, 2, 80), (2, 76, 2, 10, 2, 81), (11, 10, 11, 0, 2, 105), (11, 21, 11, 1, 2, 106), (11, 28, 11, 2, 2, 107), (11, 35, 11, 3, 2, 108), (11, 42, 11, 4, 2, 109), (11, 51, 11, 5, 2, 110), (11, 60, 11, 6, 2, 111), (11, 67, 11, 7, 2, 112), (11, 76, 11, 8, 2, 113), (11, 83, 11, 9, 2, 114), (11, 90, 11, 10, 2, 115), (12, 114, 12, 0, 6, 93), (12, 9, 12, 1, 6, 94), (12, 121, 12, 2, 6, 95), (12, 124, 12, 3, 6, 96), (12, 131, 12, 4, 6, 97), (12, 137, 12, 5, 6, 98), (12, 13, 12, 6, 6, 99), (12, 16, 12, 7, 6, 100), (12, 19, 12, 8, 6, 101), (12, 22, 12, 9, 6, 102), (12, 25, 12, 10, 6, 103), (12, 28, 12, 11, 6, 104), (12, 31, 12, 12, 6, 105), (12, 293, 12, 13, 6, 106), (12, 134, 12, 14, 6, 107), (12, 34, 12, 15, 6, 108), (12, 37, 12, 16, 6, 109), (12, 40, 12, 17, 6, 110), (12, 43, 12, 18, 6, 111), (12, 46, 12, 19, 6, 112), (12, 233, 12, 20, 6, 113), (12, 244, 12, 21, 6, 114), (12, 247, 12, 22, 6, 115), (12, 250, 12, 23, 6, 116), (12, 49, 12, 24, 6, 117), (12, 52, 12, 25, 6, 118), (12, 55, 12, 26, 6, 119), (12, 268, 12, 27, 6, 120), (12, 271, 12, 28, 6, 121), (12, 274, 12, 29, 6, 122), (12, 277, 12, 30, 6, 123), (12, 58, 12, 31, 6, 124), (12, 61, 12, 32, 6, 125), (12, 64, 12, 33, 6, 126), (12, 68, 12, 34, 6, 127), (12, 283, 12, 35, 6, 128), (12, 71, 12, 36, 6, 129), (12, 74, 12, 37, 6, 130), (12, 372, 12, 38, 6, 131), (12, 77, 12, 39, 6, 132), (12, 80, 12, 40, 6, 133), (12, 83, 12, 41, 6, 134), (12, 86, 12, 42, 6, 135), (12, 280, 12, 43, 6, 136), (12, 390, 12, 44, 6, 137), (12, 393, 12, 45, 6, 138), (12, 396, 12, 46, 6, 139), (12, 399, 12, 47, 6, 140), (12, 90, 12, 48, 6, 141), (12, 93, 12, 49, 6, 142), (12, 96, 12, 50, 6, 143), (12, 408, 12, 51, 6, 144), (12, 99, 12, 52, 6, 145), (12, 102, 12, 53, 6, 146), (12, 105, 12, 54, 6, 147), (12, 108, 12, 55, 6, 148), (12, 111, 12, 56, 6, 149), (12, 286, 12, 57, 6, 150)]
def jm_sl : List (Nat × Nat × Nat × Nat × Nat) := [(4, 81, 173, 2, 228), (4, 85, 174, 2, 230)]
def jm_cls : List (Nat × Nat × Nat × Nat × Nat × Nat × Nat × Nat × Nat) := [(13, 8, 11, 1, 22, 1, 23, 1, 1), (11, 7, 8, 1, 30, 1, 31, 1, 2), (11, 16, 4, 1, 47, 1, 48, 1, 3), (4, 9, 3, 1, 53, 1, 54, 1, 4), (11, 25, 9, 1, 91, 1, 92, 1, 5), (11, 32, 3, 1, 107, 1, 54, 1, 4), (11, 39, 10, 1, 109, 1, 110, 1, 6), (11, 46, 7, 1, 136, 1, 137, 1, 7), (11, 55, 6, 1, 156, 1, 157, 1, 8), (11, 64, 0, 1, 188, 1, 189, 1, 9), (11, 71, 5, 1, 220, 1, 221, 1, 10), (11, 80, 1, 2, 14, 2, 15, 1, 11), (11, 87, 2, 2, 64, 2, 65, 1, 12), (13, 16, 12, 6, 87, 6, 88, 1, 13)]
def jm_c2 : List (Nat × Nat × Nat × Nat) := [(10, 13, 1, 115), (7, 9, 1, 142), (6, 11, 1, 162), (0, 9, 1, 194), (1, 9, 2, 20), (2, 9, 2, 70)]
def jm_ks : List (Nat × Nat × Int × Nat × Nat) := [(9, 57, 40000, 3, 77), (14, 265, 1431655765, 4, 25), (14, 266, 858993459, 4, 26), (14, 267, 252645135, 4, 27), (10, 72, 1000000, 4, 135), (10, 75, -1000000, 4, 137), (10, 58, 40000, 4, 138), (11, 232, -1000000, 4, 146), (12, 361, -1000000, 8, 90)]
def jm_kl : List (Nat × Nat × Int × Nat × Nat) := [(15, 314, 6148914691236517205, 4, 53), (15, 316, 3689348814741910323, 4, 54), (15, 318, 1085102592571150095, 4, 55), (10, 70, 1000000, 4, 134), (10, 73, -1000000, 4, 136), (7, 96, 6364136223846793005, 5, 203), (7, 98, 1442695040888963407, 5, 204), (12, 204, -1000000, 8, 82), (12, 206, 1000000, 8, 83), (12, 420, 6364136223846793005, 8, 181), (12, 422, 1442695040888963407, 8, 182), (13, 156, 4294967295, 8, 199)]
def jm_ml0 : List (Nat × Nat × Nat × Nat × Nat) := [(13, 15, 0, 1, 24), (11, 18, 2, 1, 49), (11, 27, 4, 1, 93), (11, 48, 6, 1, 138), (11, 57, 7, 1, 158), (11, 66, 8, 1, 190), (11, 73, 9, 1, 222), (11, 82, 10, 2, 16), (11, 89, 11, 2, 66), (13, 19, 12, 2, 139), (11, 94, 13, 2, 143), (11, 98, 14, 2, 146), (11, 102, 15, 2, 150), (11, 106, 16, 2, 154), (13, 24, 17, 2, 158), (11, 110, 18, 2, 162), (13, 29, 19, 2, 166), (11, 113, 20, 2, 170), (4, 22, 21, 2, 174), (4, 27, 22, 2, 178), (4, 34, 23, 2, 182), (4, 42, 24, 2, 186), (4, 55, 25, 2, 190), (4, 64, 26, 2, 194), (4, 67, 27, 2, 198), (4, 58, 28, 2, 202), (4, 61, 29, 2, 206), (4, 70, 30, 2, 210), (4, 74, 31, 2, 213), (4, 77, 32, 2, 217), (8, 22, 24, 2, 221), (8, 29, 33, 2, 222), (4, 88, 34, 2, 232), (4, 91, 35, 2, 236), (4, 38, 36, 3, 0), (4, 45, 37, 3, 4), (4, 48, 16, 3, 8), (4, 51, 38, 3, 9), (8, 26, 28, 3, 13), (11, 116, 39, 3, 14), (9, 25, 21, 3, 18), (9, 28, 40, 3, 19), (9, 39, 38, 3, 23), (9, 36, 24, 3, 24), (9, 43, 41, 3, 25), (9, 70, 42, 3, 29), (9, 73, 43, 3, 33), (9, 49, 44, 3, 37), (9, 79, 45, 3, 41), (9, 82, 46, 3, 45), (9, 85, 47, 3, 49), (9, 76, 28, 3, 52), (9, 58, 48, 3, 53), (9, 89, 32, 3, 57), (9, 61, 49, 3, 58), (9, 52, 50, 3, 62), (9, 64, 51, 3, 65), (9, 67, 52, 3, 69), (9, 46, 53, 3, 73), (9, 32, 36, 3, 78), (13, 34, 54, 3, 79), (11, 117, 55, 3, 83), (11, 121, 56, 3, 87), (11, 124, 57, 3, 94), (7, 24, 58, 3, 98), (7, 30, 59, 3, 102), (11, 127, 60, 3, 106), (11, 130, 61, 3, 110), (1, 50, 59, 3, 114), (1, 56, 58, 3, 115), (11, 131, 59, 3, 116), (11, 134, 62, 3, 117), (11, 137, 63, 3, 121), (11, 141, 64, 3, 125), (11, 144, 65, 3, 129), (13, 48, 66, 3, 134), (11, 160, 67, 3, 138), (11, 163, 68, 3, 142), (3, 44, 67, 3, 146), (11, 166, 69, 3, 147), (7, 40, 70, 3, 151), (7, 33, 67, 3, 155), (7, 37, 71, 3, 156), (11, 169, 72, 3, 160), (13, 52, 73, 3, 164), (11, 172, 74, 3, 168), (11, 175, 75, 3, 172), (6, 58, 76, 3, 176), (6, 39, 59, 3, 180), (6, 45, 69, 3, 181), (11, 178, 77, 3, 183), (11, 182, 78, 3, 187), (13, 56, 79, 3, 191), (11, 185, 80, 3, 195), (13, 61, 81, 3, 199), (11, 188, 82, 3, 203), (13, 65, 83, 3, 207), (11, 191, 84, 3, 211), (6, 68, 85, 3, 215), (6, 51, 77, 3, 219)]
def jm_ml1 : List (Nat × Nat × Nat × Nat × Nat) := [(13, 69, 86, 3, 220), (11, 194, 70, 3, 224), (13, 73, 87, 3, 225), (11, 198, 88, 3, 229), (13, 77, 89, 3, 233), (11, 201, 90, 3, 237), (11, 204, 91, 4, 1), (7, 56, 88, 4, 5), (7, 59, 92, 4, 6), (7, 62, 93, 4, 10), (7, 53, 94, 4, 14), (7, 44, 95, 4, 18), (7, 47, 96, 4, 22), (13, 81, 97, 4, 28), (11, 207, 93, 4, 32), (11, 210, 94, 4, 33), (11, 213, 95, 4, 34), (13, 85, 98, 4, 35), (11, 216, 99, 4, 39), (13, 90, 100, 4, 42), (11, 219, 101, 4, 46), (7, 65, 102, 4, 50), (13, 94, 103, 4, 56), (11, 148, 71, 4, 60), (11, 222, 104, 4, 61), (13, 98, 105, 4, 65), (11, 225, 106, 4, 69), (7, 70, 107, 4, 73), (7, 74, 108, 4, 77), (3, 40, 71, 4, 81), (7, 77, 109, 4, 82), (13, 102, 110, 4, 86), (11, 228, 111, 4, 90), (0, 41, 72, 4, 94), (0, 46, 58, 4, 95), (0, 50, 70, 4, 96), (0, 53, 112, 4, 97), (0, 31, 113, 4, 101), (3, 47, 108, 4, 105), (3, 56, 109, 4, 109), (0, 37, 68, 4, 110), (0, 63, 114, 4, 111), (10, 47, 115, 4, 116), (10, 51, 116, 4, 120), (10, 55, 117, 4, 124), (10, 62, 118, 4, 128), (10, 66, 119, 4, 131), (0, 57, 120, 4, 142), (13, 106, 121, 4, 147), (11, 233, 122, 4, 151), (13, 110, 123, 4, 155), (11, 236, 124, 4, 159), (0, 60, 122, 4, 163), (13, 114, 125, 4, 164), (11, 239, 126, 4, 168), (0, 84, 127, 4, 172), (0, 69, 59, 4, 176), (0, 72, 71, 4, 177), (0, 87, 128, 4, 178), (11, 242, 129, 4, 184), (13, 118, 130, 4, 188), (11, 245, 131, 4, 192), (0, 100, 132, 4, 196), (0, 103, 133, 4, 200), (0, 107, 134, 4, 204), (11, 248, 135, 4, 208), (11, 251, 136, 4, 212), (13, 122, 137, 4, 216), (11, 254, 138, 4, 220), (5, 45, 127, 4, 224), (5, 50, 72, 4, 225), (5, 56, 139, 4, 226), (5, 60, 58, 4, 230), (5, 66, 112, 4, 231), (5, 70, 140, 4, 232), (5, 74, 120, 4, 236), (5, 77, 141, 4, 237), (11, 257, 142, 5, 1), (11, 260, 143, 5, 5), (13, 126, 144, 5, 9), (11, 263, 145, 5, 13), (5, 81, 146, 5, 17), (5, 88, 59, 5, 21), (5, 91, 70, 5, 22), (5, 84, 147, 5, 23), (5, 95, 113, 5, 27), (5, 98, 68, 5, 28), (5, 101, 114, 5, 29), (13, 130, 148, 5, 30), (11, 266, 149, 5, 34), (11, 267, 150, 5, 38), (1, 59, 67, 5, 42), (1, 63, 71, 5, 43), (13, 135, 151, 5, 44), (11, 270, 152, 5, 48), (1, 66, 153, 5, 52), (1, 70, 96, 5, 56), (13, 139, 154, 5, 57), (11, 273, 155, 5, 61), (1, 76, 90, 5, 65)]
def jm_ml2 : List (Nat × Nat × Nat × Nat × Nat) := [(11, 276, 156, 5, 66), (1, 80, 157, 5, 70), (1, 89, 155, 5, 74), (1, 92, 158, 5, 75), (1, 95, 159, 5, 79), (1, 101, 160, 5, 83), (1, 108, 161, 5, 87), (1, 115, 162, 5, 91), (1, 111, 163, 5, 95), (1, 119, 164, 5, 99), (1, 122, 165, 5, 103), (1, 136, 92, 5, 107), (1, 125, 166, 5, 108), (1, 129, 167, 5, 112), (1, 132, 168, 5, 116), (1, 98, 169, 5, 120), (11, 279, 170, 5, 124), (13, 143, 171, 5, 128), (11, 282, 172, 5, 132), (13, 148, 173, 5, 136), (11, 286, 174, 5, 140), (2, 43, 175, 5, 144), (2, 58, 58, 5, 148), (2, 63, 176, 5, 149), (2, 67, 113, 5, 153), (2, 47, 177, 5, 154), (2, 71, 95, 5, 158), (2, 54, 178, 5, 159), (2, 79, 179, 5, 163), (2, 86, 180, 5, 167), (2, 83, 181, 5, 171), (13, 152, 182, 5, 175), (11, 289, 183, 5, 179), (11, 295, 96, 5, 182), (11, 292, 184, 5, 183), (13, 158, 185, 5, 186), (11, 300, 186, 5, 190), (7, 84, 187, 5, 194), (7, 93, 188, 5, 199), (13, 163, 189, 5, 205), (11, 304, 190, 5, 209), (6, 71, 72, 5, 213), (13, 167, 191, 5, 214), (11, 307, 192, 5, 218), (11, 310, 193, 5, 222), (6, 74, 80, 5, 226), (13, 171, 194, 5, 227), (11, 313, 195, 5, 231), (6, 77, 58, 5, 235), (6, 80, 70, 5, 236), (13, 175, 196, 5, 237), (11, 316, 58, 6, 1), (11, 319, 197, 6, 2), (11, 320, 92, 6, 6), (11, 323, 120, 6, 7), (11, 326, 198, 6, 8), (11, 329, 199, 6, 12), (11, 154, 108, 6, 85), (11, 157, 109, 6, 86), (13, 18, 200, 6, 89), (13, 44, 201, 7, 29), (13, 23, 202, 7, 33), (12, 117, 203, 7, 37), (13, 28, 204, 7, 40), (13, 33, 205, 7, 44), (12, 262, 206, 7, 48), (12, 143, 207, 7, 52), (12, 127, 208, 7, 56), (12, 253, 209, 7, 60), (12, 236, 210, 7, 64), (12, 240, 211, 7, 67), (12, 146, 212, 7, 71), (12, 140, 213, 7, 74), (12, 229, 214, 7, 78), (12, 256, 215, 7, 81), (12, 259, 216, 7, 85), (12, 265, 217, 7, 89), (12, 195, 218, 7, 93), (12, 198, 219, 7, 97), (12, 183, 220, 7, 101), (12, 180, 221, 7, 105), (12, 161, 222, 7, 109), (12, 153, 223, 7, 113), (12, 167, 224, 7, 117), (12, 164, 225, 7, 121), (12, 174, 226, 7, 125), (12, 171, 227, 7, 129), (12, 150, 228, 7, 133), (12, 157, 229, 7, 137), (12, 186, 230, 7, 140), (12, 177, 231, 7, 144), (12, 189, 232, 7, 147), (12, 192, 233, 7, 151), (12, 201, 234, 7, 155), (13, 37, 235, 7, 159), (12, 290, 236, 7, 163), (13, 43, 237, 7, 167), (12, 296, 238, 7, 171), (13, 51, 239, 7, 175), (12, 302, 240, 7, 179)]
def jm_ml3 : List (Nat × Nat × Nat × Nat × Nat) := [(12, 305, 241, 7, 183), (12, 299, 242, 7, 187), (13, 55, 243, 7, 191), (12, 314, 244, 7, 195), (12, 311, 245, 7, 199), (12, 308, 246, 7, 203), (12, 317, 247, 7, 206), (12, 320, 248, 7, 210), (13, 60, 249, 7, 214), (13, 64, 250, 7, 218), (13, 68, 251, 7, 222), (13, 72, 252, 7, 226), (13, 76, 253, 7, 230), (12, 323, 254, 7, 234), (13, 80, 255, 7, 238), (12, 329, 256, 8, 2), (12, 326, 257, 8, 6), (13, 84, 258, 8, 10), (12, 332, 259, 8, 14), (12, 335, 96, 8, 18), (13, 89, 260, 8, 19), (13, 93, 261, 8, 23), (13, 97, 262, 8, 27), (13, 101, 263, 8, 31), (13, 109, 264, 8, 35), (12, 349, 265, 8, 39), (12, 343, 266, 8, 43), (12, 346, 267, 8, 47), (13, 113, 268, 8, 52), (12, 352, 269, 8, 56), (13, 105, 270, 8, 60), (12, 358, 271, 8, 64), (12, 355, 272, 8, 68), (12, 225, 273, 8, 72), (12, 221, 274, 8, 76), (12, 217, 275, 8, 79), (13, 117, 276, 8, 91), (12, 366, 277, 8, 95), (13, 121, 278, 8, 101), (12, 369, 276, 8, 105), (13, 125, 279, 8, 106), (12, 378, 280, 8, 110), (12, 375, 281, 8, 114), (12, 381, 282, 8, 118), (13, 129, 283, 8, 122), (12, 384, 284, 8, 126), (13, 134, 285, 8, 130), (13, 138, 286, 8, 134), (12, 387, 287, 8, 138), (13, 142, 288, 8, 142), (12, 405, 289, 8, 146), (12, 402, 290, 8, 150), (13, 147, 291, 8, 154), (13, 151, 292, 8, 158), (12, 414, 293, 8, 162), (12, 411, 294, 8, 166), (13, 155, 295, 8, 170), (12, 417, 296, 8, 174), (13, 162, 297, 8, 177), (13, 166, 298, 8, 183), (13, 170, 299, 8, 187), (13, 174, 300, 8, 191), (13, 178, 301, 8, 195)]
def jm_ml : List (Nat × Nat × Nat × Nat × Nat) := jm_ml0 ++ jm_ml1 ++ jm_ml2 ++ jm_ml3
def jm_ne : List (Nat × Nat × Nat × Nat × Nat) := [(11, 9, 1, 1, 32), (4, 11, 3, 1, 55), (11, 34, 3, 1, 108), (11, 41, 5, 1, 111)]
def jm_oi : List (Nat × Nat × Nat × Nat) := [(11, 1, 1, 27), (8, 3, 1, 35), (4, 3, 1, 52), (3, 3, 1, 58), (9, 3, 1, 96), (10, 3, 1, 114), (7, 3, 1, 141), (6, 3, 1, 161), (0, 3, 1, 193), (5, 3, 1, 225), (1, 3, 2, 19), (2, 3, 2, 69), (12, 3, 6, 92)]
def jm_ac : List (Nat × Nat × Nat × Nat) := [(3, 34, 3, 91), (10, 35, 3, 133)]
def jm_mws : List (Nat × Nat × Nat × Nat × Nat × Nat × Nat) := [(0, 1, 25, 0, 0, 1, 1), (0, 1, 33, 0, 0, 1, 2), (0, 1, 50, 0, 0, 1, 3), (0, 1, 56, 0, 0, 1, 4), (0, 1, 94, 0, 0, 1, 5), (0, 1, 112, 0, 0, 1, 6), (0, 1, 139, 0, 0, 1, 7), (0, 1, 159, 0, 0, 1, 8), (0, 1, 191, 0, 0, 1, 9), (0, 1, 223, 0, 0, 1, 10), (0, 2, 17, 0, 0, 1, 11), (0, 2, 67, 0, 0, 1, 12), (0, 2, 140, 2, 141, 1, 1), (1, 2, 144, 0, 0, 1, 2), (0, 2, 147, 2, 148, 1, 2), (0, 2, 151, 2, 152, 1, 2), (0, 2, 155, 2, 156, 1, 2), (0, 2, 159, 2, 160, 1, 1), (0, 2, 163, 2, 164, 1, 2), (0, 2, 167, 2, 168, 1, 1), (0, 2, 171, 2, 172, 1, 3), (0, 2, 175, 2, 176, 1, 2), (0, 2, 179, 2, 180, 1, 4), (0, 2, 184, 0, 0, 1, 3), (0, 2, 187, 2, 188, 1, 2), (0, 2, 192, 0, 1, 1, 3), (0, 2, 195, 2, 196, 1, 4), (0, 2, 199, 2, 200, 1, 4), (0, 2, 203, 2, 204, 1, 2), (0, 2, 208, 0, 2, 1, 3), (1, 2, 211, 0, 0, 1, 3), (0, 2, 215, 0, 3, 1, 3), (0, 2, 218, 2, 219, 1, 2), (1, 2, 223, 0, 0, 1, 2), (0, 2, 233, 2, 234, 1, 2), (0, 2, 237, 2, 238, 1, 4), (0, 3, 1, 3, 2, 1, 2), (0, 3, 5, 3, 6, 1, 4), (0, 3, 10, 3, 11, 1, 2), (0, 3, 15, 3, 16, 1, 5), (0, 3, 21, 0, 4, 1, 5), (0, 3, 27, 0, 5, 1, 5), (0, 3, 31, 0, 6, 1, 5), (0, 3, 35, 0, 7, 1, 5), (0, 3, 39, 0, 8, 1, 5), (0, 3, 43, 0, 9, 1, 5), (0, 3, 47, 0, 10, 1, 5), (1, 3, 50, 0, 0, 1, 6), (0, 3, 55, 0, 11, 1, 5), (0, 3, 60, 0, 12, 1, 5), (1, 3, 63, 0, 0, 1, 5), (0, 3, 67, 0, 13, 1, 5), (0, 3, 71, 0, 14, 1, 5), (0, 3, 75, 0, 15, 1, 5), (0, 3, 80, 3, 81, 1, 1), (0, 3, 84, 3, 85, 1, 3), (0, 3, 88, 3, 89, 1, 4), (0, 3, 95, 3, 96, 1, 7), (0, 3, 99, 3, 100, 1, 4), (0, 3, 103, 3, 104, 1, 4), (0, 3, 107, 3, 108, 1, 8), (0, 3, 111, 3, 112, 1, 11), (0, 3, 118, 3, 119, 1, 6), (0, 3, 122, 3, 123, 1, 5), (0, 3, 126, 3, 127, 1, 5), (0, 3, 130, 3, 131, 1, 6), (0, 3, 135, 3, 136, 1, 1), (0, 3, 139, 3, 140, 1, 4), (0, 3, 143, 3, 144, 1, 4), (0, 3, 148, 3, 149, 1, 7), (0, 3, 152, 3, 153, 1, 7), (0, 3, 157, 3, 158, 1, 4), (0, 3, 161, 3, 162, 1, 7), (0, 3, 165, 3, 166, 1, 1), (0, 3, 169, 3, 170, 1, 7), (0, 3, 173, 3, 174, 1, 8), (0, 3, 178, 0, 16, 1, 8), (0, 3, 184, 3, 185, 1, 7), (0, 3, 188, 3, 189, 1, 8), (0, 3, 192, 3, 193, 1, 1), (0, 3, 196, 3, 197, 1, 7), (0, 3, 200, 3, 201, 1, 1), (0, 3, 204, 3, 205, 1, 6), (0, 3, 208, 3, 209, 1, 1), (0, 3, 212, 3, 213, 1, 8), (0, 3, 217, 0, 17, 1, 8), (0, 3, 221, 3, 222, 1, 1), (0, 3, 226, 3, 227, 1, 1), (0, 3, 230, 3, 231, 1, 7), (0, 3, 234, 3, 235, 1, 1), (0, 3, 238, 3, 239, 1, 4), (0, 4, 2, 4, 3, 1, 7), (0, 4, 7, 4, 8, 1, 4), (0, 4, 11, 4, 12, 1, 7), (0, 4, 15, 4, 16, 1, 7), (0, 4, 19, 4, 20, 1, 7), (1, 4, 23, 0, 0, 1, 20), (0, 4, 29, 4, 30, 1, 1), (0, 4, 36, 4, 37, 1, 1), (1, 4, 40, 0, 0, 1, 1), (0, 4, 43, 4, 44, 1, 1), (0, 4, 47, 4, 48, 1, 7), (1, 4, 51, 0, 0, 1, 21), (0, 4, 57, 4, 58, 1, 1), (0, 4, 62, 4, 63, 1, 7), (0, 4, 66, 4, 67, 1, 1), (0, 4, 70, 4, 71, 1, 7), (0, 4, 75, 0, 18, 1, 7), (0, 4, 78, 4, 79, 1, 4), (0, 4, 83, 4, 84, 1, 4), (0, 4, 87, 4, 88, 1, 1), (0, 4, 91, 4, 92, 1, 9), (0, 4, 98, 4, 99, 1, 9), (0, 4, 102, 4, 103, 1, 4), (0, 4, 112, 4, 113, 1, 6), (0, 4, 118, 0, 19, 1, 6), (0, 4, 122, 0, 20, 1, 6), (0, 4, 126, 0, 21, 1, 6), (1, 4, 129, 0, 0, 1, 6), (1, 4, 132, 0, 0, 1, 6), (0, 4, 143, 4, 144, 1, 4), (0, 4, 148, 4, 149, 1, 1), (0, 4, 152, 4, 153, 1, 9), (0, 4, 156, 4, 157, 1, 1), (0, 4, 160, 4, 161, 1, 9), (0, 4, 165, 4, 166, 1, 1), (0, 4, 169, 4, 170, 1, 9), (0, 4, 173, 4, 174, 1, 9), (0, 4, 180, 0, 22, 1, 9), (0, 4, 185, 4, 186, 1, 9), (0, 4, 189, 4, 190, 1, 1), (0, 4, 193, 4, 194, 1, 9), (0, 4, 198, 0, 23, 1, 9), (0, 4, 202, 0, 24, 1, 9), (0, 4, 206, 0, 25, 1, 9), (0, 4, 209, 4, 210, 1, 9), (0, 4, 213, 4, 214, 1, 9), (0, 4, 217, 4, 218, 1, 1), (0, 4, 221, 4, 222, 1, 10), (0, 4, 228, 0, 26, 1, 10), (0, 4, 234, 0, 27, 1, 10), (0, 4, 238, 4, 239, 1, 9), (0, 5, 2, 5, 3, 1, 10), (0, 5, 6, 5, 7, 1, 10), (0, 5, 10, 5, 11, 1, 1), (0, 5, 14, 5, 15, 1, 10), (0, 5, 19, 0, 28, 1, 10), (0, 5, 25, 0, 29, 1, 10), (0, 5, 31, 5, 32, 1, 1), (0, 5, 35, 5, 36, 1, 11), (0, 5, 39, 5, 40, 1, 11), (0, 5, 45, 5, 46, 1, 1), (0, 5, 49, 5, 50, 1, 11), (0, 5, 54, 0, 30, 1, 11), (0, 5, 58, 5, 59, 1, 1), (0, 5, 62, 5, 63, 1, 11), (0, 5, 67, 5, 68, 1, 11), (0, 5, 72, 0, 31, 1, 11), (0, 5, 77, 0, 32, 1, 11), (0, 5, 81, 0, 33, 1, 11), (0, 5, 85, 0, 34, 1, 11), (0, 5, 89, 0, 35, 1, 11), (0, 5, 93, 0, 36, 1, 11), (0, 5, 97, 0, 37, 1, 11), (0, 5, 101, 0, 38, 1, 11), (0, 5, 105, 0, 39, 1, 11), (0, 5, 110, 0, 40, 1, 11), (0, 5, 114, 0, 41, 1, 11), (0, 5, 118, 0, 42, 1, 11), (0, 5, 122, 0, 43, 1, 11), (0, 5, 125, 5, 126, 1, 11), (0, 5, 129, 5, 130, 1, 1), (0, 5, 133, 5, 134, 1, 7), (0, 5, 137, 5, 138, 1, 1), (0, 5, 141, 5, 142, 1, 12), (0, 5, 146, 0, 44, 1, 12), (0, 5, 151, 0, 45, 1, 12), (0, 5, 156, 0, 46, 1, 12), (0, 5, 161, 0, 47, 1, 12), (0, 5, 165, 0, 48, 1, 12), (0, 5, 169, 0, 49, 1, 12), (0, 5, 173, 0, 50, 1, 12), (0, 5, 176, 5, 177, 1, 1), (1, 5, 180, 0, 0, 1, 1), (1, 5, 184, 0, 0, 1, 1), (0, 5, 187, 5, 188, 1, 1), (0, 5, 191, 5, 192, 1, 7), (0, 5, 196, 0, 51, 1, 7), (0, 5, 201, 0, 52, 1, 7), (0, 5, 206, 5, 207, 1, 1), (0, 5, 210, 5, 211, 1, 8), (0, 5, 215, 5, 216, 1, 1), (0, 5, 219, 5, 220, 1, 8), (0, 5, 223, 5, 224, 1, 8), (0, 5, 228, 5, 229, 1, 1), (0, 5, 232, 5, 233, 1, 8), (0, 5, 238, 5, 239, 1, 1), (0, 6, 3, 6, 4, 1, 6), (0, 6, 9, 6, 10, 1, 6), (0, 6, 13, 6, 14, 1, 11), (0, 6, 90, 0, 0, 1, 13), (0, 7, 30, 7, 31, 1, 13), (0, 7, 34, 7, 35, 1, 13), (1, 7, 38, 0, 0, 1, 13), (0, 7, 41, 7, 42, 1, 13), (0, 7, 45, 7, 46, 1, 13), (0, 7, 50, 0, 54, 1, 13), (0, 7, 54, 0, 55, 1, 13), (0, 7, 58, 0, 56, 1, 13), (0, 7, 62, 0, 57, 1, 13), (1, 7, 65, 0, 0, 1, 13), (0, 7, 69, 0, 58, 1, 13), (1, 7, 72, 0, 0, 1, 13), (0, 7, 76, 0, 59, 1, 13), (1, 7, 79, 0, 0, 1, 13), (0, 7, 83, 0, 60, 1, 13), (0, 7, 87, 0, 61, 1, 13), (0, 7, 91, 0, 62, 1, 13), (0, 7, 95, 0, 63, 1, 13), (0, 7, 99, 0, 64, 1, 13), (0, 7, 103, 0, 65, 1, 13), (0, 7, 107, 0, 66, 1, 13), (0, 7, 111, 0, 67, 1, 13), (0, 7, 115, 0, 68, 1, 13), (0, 7, 119, 0, 69, 1, 13), (0, 7, 123, 0, 70, 1, 13), (0, 7, 127, 0, 71, 1, 13), (0, 7, 131, 0, 72, 1, 13), (0, 7, 135, 0, 73, 1, 13), (1, 7, 138, 0, 0, 1, 13), (0, 7, 142, 0, 74, 1, 13), (1, 7, 145, 0, 0, 1, 13), (0, 7, 149, 0, 75, 1, 13), (0, 7, 153, 0, 76, 1, 13), (0, 7, 157, 0, 77, 1, 13), (0, 7, 160, 7, 161, 1, 13), (0, 7, 165, 0, 78, 1, 13), (0, 7, 168, 7, 169, 1, 13), (0, 7, 173, 0, 79, 1, 13), (0, 7, 176, 7, 177, 1, 13), (0, 7, 181, 0, 80, 1, 13), (0, 7, 185, 0, 81, 1, 13), (0, 7, 189, 0, 82, 1, 13), (0, 7, 192, 7, 193, 1, 13), (0, 7, 197, 0, 83, 1, 13), (0, 7, 201, 0, 84, 1, 13), (1, 7, 204, 0, 0, 1, 13), (0, 7, 208, 0, 85, 1, 13), (0, 7, 212, 0, 86, 1, 13), (0, 7, 215, 7, 216, 1, 13), (0, 7, 219, 7, 220, 1, 13), (0, 7, 223, 7, 224, 1, 13), (0, 7, 227, 7, 228, 1, 13), (0, 7, 231, 7, 232, 1, 13), (0, 7, 236, 0, 87, 1, 13), (0, 7, 239, 8, 0, 1, 13), (0, 8, 4, 0, 88, 1, 13), (0, 8, 8, 0, 89, 1, 13), (0, 8, 11, 8, 12, 1, 13), (0, 8, 16, 0, 90, 1, 13), (0, 8, 20, 8, 21, 1, 13), (0, 8, 24, 8, 25, 1, 13), (0, 8, 28, 8, 29, 1, 13), (0, 8, 32, 8, 33, 1, 13), (0, 8, 36, 8, 37, 1, 13), (0, 8, 41, 0, 91, 1, 13), (0, 8, 45, 0, 92, 1, 13), (0, 8, 49, 0, 93, 1, 13), (0, 8, 53, 8, 54, 1, 13), (0, 8, 58, 0, 94, 1, 13), (0, 8, 61, 8, 62, 1, 13), (0, 8, 66, 0, 95, 1, 13), (0, 8, 70, 0, 96, 1, 13), (0, 8, 74, 0, 97, 1, 13), (1, 8, 77, 0, 0, 1, 13), (1, 8, 80, 0, 0, 1, 13), (0, 8, 92, 8, 93, 1, 13), (0, 8, 97, 0, 98, 1, 13), (0, 8, 102, 8, 103, 1, 13), (0, 8, 107, 8, 108, 1, 13), (0, 8, 112, 0, 99, 1, 13), (0, 8, 116, 0, 100, 1, 13), (0, 8, 120, 0, 101, 1, 13), (0, 8, 123, 8, 124, 1, 13), (0, 8, 128, 0, 102, 1, 13), (0, 8, 131, 8, 132, 1, 13), (0, 8, 135, 8, 136, 1, 13), (0, 8, 140, 0, 103, 1, 13), (0, 8, 143, 8, 144, 1, 13), (0, 8, 148, 0, 104, 1, 13), (0, 8, 152, 0, 105, 1, 13), (0, 8, 155, 8, 156, 1, 13), (0, 8, 159, 8, 160, 1, 13), (0, 8, 164, 0, 106, 1, 13), (0, 8, 168, 0, 107, 1, 13), (0, 8, 171, 8, 172, 1, 13), (1, 8, 175, 0, 0, 1, 13), (0, 8, 178, 8, 179, 1, 13), (0, 8, 184, 8, 185, 1, 13), (0, 8, 188, 8, 189, 1, 13), (0, 8, 192, 8, 193, 1, 13), (0, 8, 196, 8, 197, 1, 13), (1, 0, 0, 0, 0, 0, 0)]
def jm_mw (y : Nat) : Nat × Nat × Nat × Nat × Nat × Nat × Nat := ja_nth jm_mws y (2, 0, 0, 0, 0, 0, 0)
def jm_chs : List (List Cond) := [k2_sels lw_privs, tables_1_1, tables_1_2, tables_1_3, tables_1_4, tables_1_5, tables_1_6, tables_1_7, tables_1_8]
def jm_ch (k : Nat) : List Cond := ja_nth jm_chs k []
/-- the words that stay when classes are linked -/
def jm_W : List Cond := lw_tbl.filter goodWord
theorem jm_chT : ∀ t ∈ jm_chs, ∀ w ∈ t, w ∈ lw_tbl := by
  unfold jm_chs lw_tbl tables_1
  refine List.forall_mem_cons.mpr ⟨fun w h => List.mem_append_left _ h, ?_⟩
  refine List.forall_mem_cons.mpr ⟨fun w h => List.mem_append_right _ (List.mem_append_left _ (h)), ?_⟩
  refine List.forall_mem_cons.mpr ⟨fun w h => List.mem_append_right _ (List.mem_append_right _ (List.mem_append_left _ (h))), ?_⟩
  refine List.forall_mem_cons.mpr ⟨fun w h => List.mem_append_right _ (List.mem_append_right _ (List.mem_append_right _ (List.mem_append_left _ (h)))), ?_⟩
  refine List.forall_mem_cons.mpr ⟨fun w h => List.mem_append_right _ (List.mem_append_right _ (List.mem_append_right _ (List.mem_append_right _ (List.mem_append_left _ (h))))), ?_⟩
  refine List.forall_mem_cons.mpr ⟨fun w h => List.mem_append_right _ (List.mem_append_right _ (List.mem_append_right _ (List.mem_append_right _ (List.mem_append_right _ (List.mem_append_left _ (h)))))), ?_⟩
  refine List.forall_mem_cons.mpr ⟨fun w h => List.mem_append_right _ (List.mem_append_right _ (List.mem_append_right _ (List.mem_append_right _ (List.mem_append_right _ (List.mem_append_right _ (List.mem_append_left _ (h))))))), ?_⟩
  refine List.forall_mem_cons.mpr ⟨fun w h => List.mem_append_right _ (List.mem_append_right _ (List.mem_append_right _ (List.mem_append_right _ (List.mem_append_right _ (List.mem_append_right _ (List.mem_append_right _ (List.mem_append_left _ (h)))))))), ?_⟩
  refine List.forall_mem_cons.mpr ⟨fun w h => List.mem_append_right _ (List.mem_append_right _ (List.mem_append_right _ (List.mem_append_right _ (List.mem_append_right _ (List.mem_append_right _ (List.mem_append_right _ (List.mem_append_right _ (h)))))))), ?_⟩
  exact fun _ h => absurd h List.not_mem_nil
theorem jm_chI (k : Nat) {w : Cond} (h : w ∈ jm_ch k) : w ∈ lw_tbl := ja_nthP (P := fun t => ∀ w ∈ t, w ∈ lw_tbl) (fun _ h => absurd h List.not_mem_nil) jm_chs jm_chT k w h
theorem jm_in {k i : Nat} {w : Cond} (h : (jm_ch k)[i]? = some w) (hg : goodWord w = true) : w ∈ jm_W := List.mem_filter.mpr ⟨jm_chI k (List.mem_of_getElem? h), hg⟩
set_option maxRecDepth 100000 in
theorem jf_ok : ∀ q ∈ jm_fl, (jm_ch q.2.2.2.2.1)[q.2.2.2.2.2]? = some (Cond.fieldLink (jm_cn q.1) q.2.1 (jm_T q.2.2.1 q.2.2.2.1).1 (jm_T q.2.2.1 q.2.2.2.1).2.1 (jm_T q.2.2.1 q.2.2.2.1).2.2.1) := by decide +kernel
set_option maxRecDepth 100000 in
theorem js_ok : ∀ q ∈ jm_sl, (jm_ch q.2.2.2.1)[q.2.2.2.2]? = some (Cond.fieldLink (jm_cn q.1) q.2.1 "HuntTable$HuntReader" (if q.2.2.1 = 173 then "LEAST" else "MOST") "[I") := by decide +kernel
set_option maxRecDepth 100000 in
theorem jc_ok : ∀ q ∈ jm_cls, (jm_ch q.2.2.2.1)[q.2.2.2.2.1]? = some (Cond.classLink (jm_cn q.1) q.2.1 (jm_cn q.2.2.1)) ∧ (jm_ch q.2.2.2.2.2.1)[q.2.2.2.2.2.2.1]? = some (Cond.instantiable (jm_cn q.2.2.1) (jm_N q.2.2.1)) ∧ (jm_ch q.2.2.2.2.2.2.2.1)[q.2.2.2.2.2.2.2.2]? = some (Cond.initialized (jm_cn q.2.2.1)) := by decide +kernel
set_option maxRecDepth 100000 in
theorem jc2_ok : ∀ q ∈ jm_c2, (jm_ch q.2.2.1)[q.2.2.2]? = some (Cond.classLink (jm_cn q.1) q.2.1 "[[I") := by decide +kernel
set_option maxRecDepth 100000 in
theorem jk_ok : ∀ q ∈ jm_ks, (jm_ch q.2.2.2.1)[q.2.2.2.2]? = some (Cond.constant (jm_cn q.1) q.2.1 (Int32.ofInt q.2.2.1)) := by decide +kernel
set_option maxRecDepth 100000 in
theorem jkl_ok : ∀ q ∈ jm_kl, (jm_ch q.2.2.2.1)[q.2.2.2.2]? = some (Cond.constantLong (jm_cn q.1) q.2.1 (Int64.ofInt q.2.2.1)) := by decide +kernel
set_option maxRecDepth 100000 in
theorem jl_ok0 : ∀ q ∈ jm_ml0, (jm_ch q.2.2.2.1)[q.2.2.2.2]? = some (Cond.methodLink (jm_cn q.1) q.2.1 (jm_nm q.2.2.1)) := by decide +kernel
set_option maxRecDepth 100000 in
theorem jl_ok1 : ∀ q ∈ jm_ml1, (jm_ch q.2.2.2.1)[q.2.2.2.2]? = some (Cond.methodLink (jm_cn q.1) q.2.1 (jm_nm q.2.2.1)) := by decide +kernel
set_option maxRecDepth 100000 in
theorem jl_ok2 : ∀ q ∈ jm_ml2, (jm_ch q.2.2.2.1)[q.2.2.2.2]? = some (Cond.methodLink (jm_cn q.1) q.2.1 (jm_nm q.2.2.1)) := by decide +kernel
set_option maxRecDepth 100000 in
theorem jl_ok3 : ∀ q ∈ jm_ml3, (jm_ch q.2.2.2.1)[q.2.2.2.2]? = some (Cond.methodLink (jm_cn q.1) q.2.1 (jm_nm q.2.2.1)) := by decide +kernel
set_option maxRecDepth 100000 in
theorem jn_ok : ∀ q ∈ jm_ne, (jm_ch q.2.2.2.1)[q.2.2.2.2]? = some (Cond.methodLinkNest (jm_cn q.1) q.2.1 (jm_nm q.2.2.1) "HuntTable") := by decide +kernel
set_option maxRecDepth 100000 in
theorem jo_ok : ∀ q ∈ jm_oi, (jm_ch q.2.2.1)[q.2.2.2]? = some (Cond.methodLink (jm_cn q.1) q.2.1 Lib.objectInit) := by decide +kernel
set_option maxRecDepth 100000 in
theorem ja_ok2 : ∀ q ∈ jm_ac, (jm_ch q.2.2.1)[q.2.2.2]? = some (Cond.methodLink (jm_cn q.1) q.2.1 arraycopyName) := by decide +kernel
set_option maxRecDepth 100000 in
theorem jw_code0 : ∀ x ∈ jm_all0, Cond.code x.1 x.2.1 x.2.2.1 x.2.2.2 ∈ lw_tbl := by
  unfold jm_all0
  refine List.forall_mem_cons.mpr ⟨jm_chI 1 (List.mem_of_getElem? (l := tables_1_1) (i := 26) rfl), ?_⟩
  refine List.forall_mem_cons.mpr ⟨jm_chI 1 (List.mem_of_getElem? (l := tables_1_1) (i := 34) rfl), ?_⟩
  refine List.forall_mem_cons.mpr ⟨jm_chI 1 (List.mem_of_getElem? (l := tables_1_1) (i := 51) rfl), ?_⟩
  refine List.forall_mem_cons.mpr ⟨jm_chI 1 (List.mem_of_getElem? (l := tables_1_1) (i := 57) rfl), ?_⟩
  refine List.forall_mem_cons.mpr ⟨jm_chI 1 (List.mem_of_getElem? (l := tables_1_1) (i := 95) rfl), ?_⟩
  refine List.forall_mem_cons.mpr ⟨jm_chI 1 (List.mem_of_getElem? (l := tables_1_1) (i := 113) rfl), ?_⟩
  refine List.forall_mem_cons.mpr ⟨jm_chI 1 (List.mem_of_getElem? (l := tables_1_1) (i := 140) rfl), ?_⟩
  refine List.forall_mem_cons.mpr ⟨jm_chI 1 (List.mem_of_getElem? (l := tables_1_1) (i := 160) rfl), ?_⟩
  refine List.forall_mem_cons.mpr ⟨jm_chI 1 (List.mem_of_getElem? (l := tables_1_1) (i := 192) rfl), ?_⟩
  refine List.forall_mem_cons.mpr ⟨jm_chI 1 (List.mem_of_getElem? (l := tables_1_1) (i := 224) rfl), ?_⟩
  refine List.forall_mem_cons.mpr ⟨jm_chI 2 (List.mem_of_getElem? (l := tables_1_2) (i := 18) rfl), ?_⟩
  refine List.forall_mem_cons.mpr ⟨jm_chI 2 (List.mem_of_getElem? (l := tables_1_2) (i := 68) rfl), ?_⟩
  refine List.forall_mem_cons.mpr ⟨jm_chI 2 (List.mem_of_getElem? (l := tables_1_2) (i := 142) rfl), ?_⟩
  refine List.forall_mem_cons.mpr ⟨jm_chI 2 (List.mem_of_getElem? (l := tables_1_2) (i := 145) rfl), ?_⟩
  refine List.forall_mem_cons.mpr ⟨jm_chI 2 (List.mem_of_getElem? (l := tables_1_2) (i := 149) rfl), ?_⟩
  refine List.forall_mem_cons.mpr ⟨jm_chI 2 (List.mem_of_getElem? (l := tables_1_2) (i := 153) rfl), ?_⟩
  refine List.forall_mem_cons.mpr ⟨jm_chI 2 (List.mem_of_getElem? (l := tables_1_2) (i := 157) rfl), ?_⟩
  refine List.forall_mem_cons.mpr ⟨jm_chI 2 (List.mem_of_getElem? (l := tables_1_2) (i := 161) rfl), ?_⟩
  refine List.forall_mem_cons.mpr ⟨jm_chI 2 (List.mem_of_getElem? (l := tables_1_2) (i := 165) rfl), ?_⟩
  refine List.forall_mem_cons.mpr ⟨jm_chI 2 (List.mem_of_getElem? (l := tables_1_2) (i := 169) rfl), ?_⟩
  refine List.forall_mem_cons.mpr ⟨jm_chI 2 (List.mem_of_getElem? (l := tables_1_2) (i := 173) rfl), ?_⟩
  refine List.forall_mem_cons.mpr ⟨jm_chI 2 (List.mem_of_getElem? (l := tables_1_2) (i := 177) rfl), ?_⟩
  refine List.forall_mem_cons.mpr ⟨jm_chI 2 (List.mem_of_getElem? (l := tables_1_2) (i := 181) rfl), ?_⟩
  refine List.forall_mem_cons.mpr ⟨jm_chI 2 (List.mem_of_getElem? (l := tables_1_2) (i := 185) rfl), ?_⟩
  refine List.forall_mem_cons.mpr ⟨jm_chI 2 (List.mem_of_getElem? (l := tables_1_2) (i := 189) rfl), ?_⟩
  refine List.forall_mem_cons.mpr ⟨jm_chI 2 (List.mem_of_getElem? (l := tables_1_2) (i := 193) rfl), ?_⟩
  refine List.forall_mem_cons.mpr ⟨jm_chI 2 (List.mem_of_getElem? (l := tables_1_2) (i := 197) rfl), ?_⟩
  refine List.forall_mem_cons.mpr ⟨jm_chI 2 (List.mem_of_getElem? (l := tables_1_2) (i := 201) rfl), ?_⟩
  refine List.forall_mem_cons.mpr ⟨jm_chI 2 (List.mem_of_getElem? (l := tables_1_2) (i := 205) rfl), ?_⟩
  refine List.forall_mem_cons.mpr ⟨jm_chI 2 (List.mem_of_getElem? (l := tables_1_2) (i := 209) rfl), ?_⟩
  refine List.forall_mem_cons.mpr ⟨jm_chI 2 (List.mem_of_getElem? (l := tables_1_2) (i := 212) rfl), ?_⟩
  refine List.forall_mem_cons.mpr ⟨jm_chI 2 (List.mem_of_getElem? (l := tables_1_2) (i := 216) rfl), ?_⟩
  refine List.forall_mem_cons.mpr ⟨jm_chI 2 (List.mem_of_getElem? (l := tables_1_2) (i := 220) rfl), ?_⟩
  refine List.forall_mem_cons.mpr ⟨jm_chI 2 (List.mem_of_getElem? (l := tables_1_2) (i := 224) rfl), ?_⟩
  refine List.forall_mem_cons.mpr ⟨jm_chI 2 (List.mem_of_getElem? (l := tables_1_2) (i := 235) rfl), ?_⟩
  refine List.forall_mem_cons.mpr ⟨jm_chI 2 (List.mem_of_getElem? (l := tables_1_2) (i := 239) rfl), ?_⟩
  refine List.forall_mem_cons.mpr ⟨jm_chI 3 (List.mem_of_getElem? (l := tables_1_3) (i := 3) rfl), ?_⟩
  refine List.forall_mem_cons.mpr ⟨jm_chI 3 (List.mem_of_getElem? (l := tables_1_3) (i := 7) rfl), ?_⟩
  refine List.forall_mem_cons.mpr ⟨jm_chI 3 (List.mem_of_getElem? (l := tables_1_3) (i := 12) rfl), ?_⟩
  refine List.forall_mem_cons.mpr ⟨jm_chI 3 (List.mem_of_getElem? (l := tables_1_3) (i := 17) rfl), ?_⟩
  exact fun _ h => absurd h List.not_mem_nil
set_option maxRecDepth 100000 in
theorem jw_code1 : ∀ x ∈ jm_all1, Cond.code x.1 x.2.1 x.2.2.1 x.2.2.2 ∈ lw_tbl := by
  unfold jm_all1
  refine List.forall_mem_cons.mpr ⟨jm_chI 3 (List.mem_of_getElem? (l := tables_1_3) (i := 22) rfl), ?_⟩
  refine List.forall_mem_cons.mpr ⟨jm_chI 3 (List.mem_of_getElem? (l := tables_1_3) (i := 28) rfl), ?_⟩
  refine List.forall_mem_cons.mpr ⟨jm_chI 3 (List.mem_of_getElem? (l := tables_1_3) (i := 32) rfl), ?_⟩
  refine List.forall_mem_cons.mpr ⟨jm_chI 3 (List.mem_of_getElem? (l := tables_1_3) (i := 36) rfl), ?_⟩
  refine List.forall_mem_cons.mpr ⟨jm_chI 3 (List.mem_of_getElem? (l := tables_1_3) (i := 40) rfl), ?_⟩
  refine List.forall_mem_cons.mpr ⟨jm_chI 3 (List.mem_of_getElem? (l := tables_1_3) (i := 44) rfl), ?_⟩
  refine List.forall_mem_cons.mpr ⟨jm_chI 3 (List.mem_of_getElem? (l := tables_1_3) (i := 48) rfl), ?_⟩
  refine List.forall_mem_cons.mpr ⟨jm_chI 3 (List.mem_of_getElem? (l := tables_1_3) (i := 51) rfl), ?_⟩
  refine List.forall_mem_cons.mpr ⟨jm_chI 3 (List.mem_of_getElem? (l := tables_1_3) (i := 56) rfl), ?_⟩
  refine List.forall_mem_cons.mpr ⟨jm_chI 3 (List.mem_of_getElem? (l := tables_1_3) (i := 61) rfl), ?_⟩
  refine List.forall_mem_cons.mpr ⟨jm_chI 3 (List.mem_of_getElem? (l := tables_1_3) (i := 64) rfl), ?_⟩
  refine List.forall_mem_cons.mpr ⟨jm_chI 3 (List.mem_of_getElem? (l := tables_1_3) (i := 68) rfl), ?_⟩
  refine List.forall_mem_cons.mpr ⟨jm_chI 3 (List.mem_of_getElem? (l := tables_1_3) (i := 72) rfl), ?_⟩
  refine List.forall_mem_cons.mpr ⟨jm_chI 3 (List.mem_of_getElem? (l := tables_1_3) (i := 76) rfl), ?_⟩
  refine List.forall_mem_cons.mpr ⟨jm_chI 3 (List.mem_of_getElem? (l := tables_1_3) (i := 82) rfl), ?_⟩
  refine List.forall_mem_cons.mpr ⟨jm_chI 3 (List.mem_of_getElem? (l := tables_1_3) (i := 86) rfl), ?_⟩
  refine List.forall_mem_cons.mpr ⟨jm_chI 3 (List.mem_of_getElem? (l := tables_1_3) (i := 90) rfl), ?_⟩
  refine List.forall_mem_cons.mpr ⟨jm_chI 3 (List.mem_of_getElem? (l := tables_1_3) (i := 97) rfl), ?_⟩
  refine List.forall_mem_cons.mpr ⟨jm_chI 3 (List.mem_of_getElem? (l := tables_1_3) (i := 101) rfl), ?_⟩
  refine List.forall_mem_cons.mpr ⟨jm_chI 3 (List.mem_of_getElem? (l := tables_1_3) (i := 105) rfl), ?_⟩
  refine List.forall_mem_cons.mpr ⟨jm_chI 3 (List.mem_of_getElem? (l := tables_1_3) (i := 109) rfl), ?_⟩
  refine List.forall_mem_cons.mpr ⟨jm_chI 3 (List.mem_of_getElem? (l := tables_1_3) (i := 113) rfl), ?_⟩
  refine List.forall_mem_cons.mpr ⟨jm_chI 3 (List.mem_of_getElem? (l := tables_1_3) (i := 120) rfl), ?_⟩
  refine List.forall_mem_cons.mpr ⟨jm_chI 3 (List.mem_of_getElem? (l := tables_1_3) (i := 124) rfl), ?_⟩
  refine List.forall_mem_cons.mpr ⟨jm_chI 3 (List.mem_of_getElem? (l := tables_1_3) (i := 128) rfl), ?_⟩
  refine List.forall_mem_cons.mpr ⟨jm_chI 3 (List.mem_of_getElem? (l := tables_1_3) (i := 132) rfl), ?_⟩
  refine List.forall_mem_cons.mpr ⟨jm_chI 3 (List.mem_of_getElem? (l := tables_1_3) (i := 137) rfl), ?_⟩
  refine List.forall_mem_cons.mpr ⟨jm_chI 3 (List.mem_of_getElem? (l := tables_1_3) (i := 141) rfl), ?_⟩
  refine List.forall_mem_cons.mpr ⟨jm_chI 3 (List.mem_of_getElem? (l := tables_1_3) (i := 145) rfl), ?_⟩
  refine List.forall_mem_cons.mpr ⟨jm_chI 3 (List.mem_of_getElem? (l := tables_1_3) (i := 150) rfl), ?_⟩
  refine List.forall_mem_cons.mpr ⟨jm_chI 3 (List.mem_of_getElem? (l := tables_1_3) (i := 154) rfl), ?_⟩
  refine List.forall_mem_cons.mpr ⟨jm_chI 3 (List.mem_of_getElem? (l := tables_1_3) (i := 159) rfl), ?_⟩
  refine List.forall_mem_cons.mpr ⟨jm_chI 3 (List.mem_of_getElem? (l := tables_1_3) (i := 163) rfl), ?_⟩
  refine List.forall_mem_cons.mpr ⟨jm_chI 3 (List.mem_of_getElem? (l := tables_1_3) (i := 167) rfl), ?_⟩
  refine List.forall_mem_cons.mpr ⟨jm_chI 3 (List.mem_of_getElem? (l := tables_1_3) (i := 171) rfl), ?_⟩
  refine List.forall_mem_cons.mpr ⟨jm_chI 3 (List.mem_of_getElem? (l := tables_1_3) (i := 175) rfl), ?_⟩
  refine List.forall_mem_cons.mpr ⟨jm_chI 3 (List.mem_of_getElem? (l := tables_1_3) (i := 179) rfl), ?_⟩
  refine List.forall_mem_cons.mpr ⟨jm_chI 3 (List.mem_of_getElem? (l := tables_1_3) (i := 186) rfl), ?_⟩
  refine List.forall_mem_cons.mpr ⟨jm_chI 3 (List.mem_of_getElem? (l := tables_1_3) (i := 190) rfl), ?_⟩
  refine List.forall_mem_cons.mpr ⟨jm_chI 3 (List.mem_of_getElem? (l := tables_1_3) (i := 194) rfl), ?_⟩
  exact fun _ h => absurd h List.not_mem_nil
set_option maxRecDepth 100000 in
theorem jw_code2 : ∀ x ∈ jm_all2, Cond.code x.1 x.2.1 x.2.2.1 x.2.2.2 ∈ lw_tbl := by
  unfold jm_all2
  refine List.forall_mem_cons.mpr ⟨jm_chI 3 (List.mem_of_getElem? (l := tables_1_3) (i := 198) rfl), ?_⟩
  refine List.forall_mem_cons.mpr ⟨jm_chI 3 (List.mem_of_getElem? (l := tables_1_3) (i := 202) rfl), ?_⟩
  refine List.forall_mem_cons.mpr ⟨jm_chI 3 (List.mem_of_getElem? (l := tables_1_3) (i := 206) rfl), ?_⟩
  refine List.forall_mem_cons.mpr ⟨jm_chI 3 (List.mem_of_getElem? (l := tables_1_3) (i := 210) rfl), ?_⟩
  refine List.forall_mem_cons.mpr ⟨jm_chI 3 (List.mem_of_getElem? (l := tables_1_3) (i := 214) rfl), ?_⟩
  refine List.forall_mem_cons.mpr ⟨jm_chI 3 (List.mem_of_getElem? (l := tables_1_3) (i := 218) rfl), ?_⟩
  refine List.forall_mem_cons.mpr ⟨jm_chI 3 (List.mem_of_getElem? (l := tables_1_3) (i := 223) rfl), ?_⟩
  refine List.forall_mem_cons.mpr ⟨jm_chI 3 (List.mem_of_getElem? (l := tables_1_3) (i := 228) rfl), ?_⟩
  refine List.forall_mem_cons.mpr ⟨jm_chI 3 (List.mem_of_getElem? (l := tables_1_3) (i := 232) rfl), ?_⟩
  refine List.forall_mem_cons.mpr ⟨jm_chI 3 (List.mem_of_getElem? (l := tables_1_3) (i := 236) rfl), ?_⟩
  refine List.forall_mem_cons.mpr ⟨jm_chI 4 (List.mem_of_getElem? (l := tables_1_4) (i := 0) rfl), ?_⟩
  refine List.forall_mem_cons.mpr ⟨jm_chI 4 (List.mem_of_getElem? (l := tables_1_4) (i := 4) rfl), ?_⟩
  refine List.forall_mem_cons.mpr ⟨jm_chI 4 (List.mem_of_getElem? (l := tables_1_4) (i := 9) rfl), ?_⟩
  refine List.forall_mem_cons.mpr ⟨jm_chI 4 (List.mem_of_getElem? (l := tables_1_4) (i := 13) rfl), ?_⟩
  refine List.forall_mem_cons.mpr ⟨jm_chI 4 (List.mem_of_getElem? (l := tables_1_4) (i := 17) rfl), ?_⟩
  refine List.forall_mem_cons.mpr ⟨jm_chI 4 (List.mem_of_getElem? (l := tables_1_4) (i := 21) rfl), ?_⟩
  refine List.forall_mem_cons.mpr ⟨jm_chI 4 (List.mem_of_getElem? (l := tables_1_4) (i := 24) rfl), ?_⟩
  refine List.forall_mem_cons.mpr ⟨jm_chI 4 (List.mem_of_getElem? (l := tables_1_4) (i := 31) rfl), ?_⟩
  refine List.forall_mem_cons.mpr ⟨jm_chI 4 (List.mem_of_getElem? (l := tables_1_4) (i := 38) rfl), ?_⟩
  refine List.forall_mem_cons.mpr ⟨jm_chI 4 (List.mem_of_getElem? (l := tables_1_4) (i := 41) rfl), ?_⟩
  refine List.forall_mem_cons.mpr ⟨jm_chI 4 (List.mem_of_getElem? (l := tables_1_4) (i := 45) rfl), ?_⟩
  refine List.forall_mem_cons.mpr ⟨jm_chI 4 (List.mem_of_getElem? (l := tables_1_4) (i := 49) rfl), ?_⟩
  refine List.forall_mem_cons.mpr ⟨jm_chI 4 (List.mem_of_getElem? (l := tables_1_4) (i := 52) rfl), ?_⟩
  refine List.forall_mem_cons.mpr ⟨jm_chI 4 (List.mem_of_getElem? (l := tables_1_4) (i := 59) rfl), ?_⟩
  refine List.forall_mem_cons.mpr ⟨jm_chI 4 (List.mem_of_getElem? (l := tables_1_4) (i := 64) rfl), ?_⟩
  refine List.forall_mem_cons.mpr ⟨jm_chI 4 (List.mem_of_getElem? (l := tables_1_4) (i := 68) rfl), ?_⟩
  refine List.forall_mem_cons.mpr ⟨jm_chI 4 (List.mem_of_getElem? (l := tables_1_4) (i := 72) rfl), ?_⟩
  refine List.forall_mem_cons.mpr ⟨jm_chI 4 (List.mem_of_getElem? (l := tables_1_4) (i := 76) rfl), ?_⟩
  refine List.forall_mem_cons.mpr ⟨jm_chI 4 (List.mem_of_getElem? (l := tables_1_4) (i := 80) rfl), ?_⟩
  refine List.forall_mem_cons.mpr ⟨jm_chI 4 (List.mem_of_getElem? (l := tables_1_4) (i := 85) rfl), ?_⟩
  refine List.forall_mem_cons.mpr ⟨jm_chI 4 (List.mem_of_getElem? (l := tables_1_4) (i := 89) rfl), ?_⟩
  refine List.forall_mem_cons.mpr ⟨jm_chI 4 (List.mem_of_getElem? (l := tables_1_4) (i := 93) rfl), ?_⟩
  refine List.forall_mem_cons.mpr ⟨jm_chI 4 (List.mem_of_getElem? (l := tables_1_4) (i := 100) rfl), ?_⟩
  refine List.forall_mem_cons.mpr ⟨jm_chI 4 (List.mem_of_getElem? (l := tables_1_4) (i := 104) rfl), ?_⟩
  refine List.forall_mem_cons.mpr ⟨jm_chI 4 (List.mem_of_getElem? (l := tables_1_4) (i := 114) rfl), ?_⟩
  refine List.forall_mem_cons.mpr ⟨jm_chI 4 (List.mem_of_getElem? (l := tables_1_4) (i := 119) rfl), ?_⟩
  refine List.forall_mem_cons.mpr ⟨jm_chI 4 (List.mem_of_getElem? (l := tables_1_4) (i := 123) rfl), ?_⟩
  refine List.forall_mem_cons.mpr ⟨jm_chI 4 (List.mem_of_getElem? (l := tables_1_4) (i := 127) rfl), ?_⟩
  refine List.forall_mem_cons.mpr ⟨jm_chI 4 (List.mem_of_getElem? (l := tables_1_4) (i := 130) rfl), ?_⟩
  refine List.forall_mem_cons.mpr ⟨jm_chI 4 (List.mem_of_getElem? (l := tables_1_4) (i := 133) rfl), ?_⟩
  exact fun _ h => absurd h List.not_mem_nil
set_option maxRecDepth 100000 in
theorem jw_code3 : ∀ x ∈ jm_all3, Cond.code x.1 x.2.1 x.2.2.1 x.2.2.2 ∈ lw_tbl := by
  unfold jm_all3
  refine List.forall_mem_cons.mpr ⟨jm_chI 4 (List.mem_of_getElem? (l := tables_1_4) (i := 145) rfl), ?_⟩
  refine List.forall_mem_cons.mpr ⟨jm_chI 4 (List.mem_of_getElem? (l := tables_1_4) (i := 150) rfl), ?_⟩
  refine List.forall_mem_cons.mpr ⟨jm_chI 4 (List.mem_of_getElem? (l := tables_1_4) (i := 154) rfl), ?_⟩
  refine List.forall_mem_cons.mpr ⟨jm_chI 4 (List.mem_of_getElem? (l := tables_1_4) (i := 158) rfl), ?_⟩
  refine List.forall_mem_cons.mpr ⟨jm_chI 4 (List.mem_of_getElem? (l := tables_1_4) (i := 162) rfl), ?_⟩
  refine List.forall_mem_cons.mpr ⟨jm_chI 4 (List.mem_of_getElem? (l := tables_1_4) (i := 167) rfl), ?_⟩
  refine List.forall_mem_cons.mpr ⟨jm_chI 4 (List.mem_of_getElem? (l := tables_1_4) (i := 171) rfl), ?_⟩
  refine List.forall_mem_cons.mpr ⟨jm_chI 4 (List.mem_of_getElem? (l := tables_1_4) (i := 175) rfl), ?_⟩
  refine List.forall_mem_cons.mpr ⟨jm_chI 4 (List.mem_of_getElem? (l := tables_1_4) (i := 181) rfl), ?_⟩
  refine List.forall_mem_cons.mpr ⟨jm_chI 4 (List.mem_of_getElem? (l := tables_1_4) (i := 187) rfl), ?_⟩
  refine List.forall_mem_cons.mpr ⟨jm_chI 4 (List.mem_of_getElem? (l := tables_1_4) (i := 191) rfl), ?_⟩
  refine List.forall_mem_cons.mpr ⟨jm_chI 4 (List.mem_of_getElem? (l := tables_1_4) (i := 195) rfl), ?_⟩
  refine List.forall_mem_cons.mpr ⟨jm_chI 4 (List.mem_of_getElem? (l := tables_1_4) (i := 199) rfl), ?_⟩
  refine List.forall_mem_cons.mpr ⟨jm_chI 4 (List.mem_of_getElem? (l := tables_1_4) (i := 203) rfl), ?_⟩
  refine List.forall_mem_cons.mpr ⟨jm_chI 4 (List.mem_of_getElem? (l := tables_1_4) (i := 207) rfl), ?_⟩
  refine List.forall_mem_cons.mpr ⟨jm_chI 4 (List.mem_of_getElem? (l := tables_1_4) (i := 211) rfl), ?_⟩
  refine List.forall_mem_cons.mpr ⟨jm_chI 4 (List.mem_of_getElem? (l := tables_1_4) (i := 215) rfl), ?_⟩
  refine List.forall_mem_cons.mpr ⟨jm_chI 4 (List.mem_of_getElem? (l := tables_1_4) (i := 219) rfl), ?_⟩
  refine List.forall_mem_cons.mpr ⟨jm_chI 4 (List.mem_of_getElem? (l := tables_1_4) (i := 223) rfl), ?_⟩
  refine List.forall_mem_cons.mpr ⟨jm_chI 4 (List.mem_of_getElem? (l := tables_1_4) (i := 229) rfl), ?_⟩
  refine List.forall_mem_cons.mpr ⟨jm_chI 4 (List.mem_of_getElem? (l := tables_1_4) (i := 235) rfl), ?_⟩
  refine List.forall_mem_cons.mpr ⟨jm_chI 5 (List.mem_of_getElem? (l := tables_1_5) (i := 0) rfl), ?_⟩
  refine List.forall_mem_cons.mpr ⟨jm_chI 5 (List.mem_of_getElem? (l := tables_1_5) (i := 4) rfl), ?_⟩
  refine List.forall_mem_cons.mpr ⟨jm_chI 5 (List.mem_of_getElem? (l := tables_1_5) (i := 8) rfl), ?_⟩
  refine List.forall_mem_cons.mpr ⟨jm_chI 5 (List.mem_of_getElem? (l := tables_1_5) (i := 12) rfl), ?_⟩
  refine List.forall_mem_cons.mpr ⟨jm_chI 5 (List.mem_of_getElem? (l := tables_1_5) (i := 16) rfl), ?_⟩
  refine List.forall_mem_cons.mpr ⟨jm_chI 5 (List.mem_of_getElem? (l := tables_1_5) (i := 20) rfl), ?_⟩
  refine List.forall_mem_cons.mpr ⟨jm_chI 5 (List.mem_of_getElem? (l := tables_1_5) (i := 26) rfl), ?_⟩
  refine List.forall_mem_cons.mpr ⟨jm_chI 5 (List.mem_of_getElem? (l := tables_1_5) (i := 33) rfl), ?_⟩
  refine List.forall_mem_cons.mpr ⟨jm_chI 5 (List.mem_of_getElem? (l := tables_1_5) (i := 37) rfl), ?_⟩
  refine List.forall_mem_cons.mpr ⟨jm_chI 5 (List.mem_of_getElem? (l := tables_1_5) (i := 41) rfl), ?_⟩
  refine List.forall_mem_cons.mpr ⟨jm_chI 5 (List.mem_of_getElem? (l := tables_1_5) (i := 47) rfl), ?_⟩
  refine List.forall_mem_cons.mpr ⟨jm_chI 5 (List.mem_of_getElem? (l := tables_1_5) (i := 51) rfl), ?_⟩
  refine List.forall_mem_cons.mpr ⟨jm_chI 5 (List.mem_of_getElem? (l := tables_1_5) (i := 55) rfl), ?_⟩
  refine List.forall_mem_cons.mpr ⟨jm_chI 5 (List.mem_of_getElem? (l := tables_1_5) (i := 60) rfl), ?_⟩
  refine List.forall_mem_cons.mpr ⟨jm_chI 5 (List.mem_of_getElem? (l := tables_1_5) (i := 64) rfl), ?_⟩
  refine List.forall_mem_cons.mpr ⟨jm_chI 5 (List.mem_of_getElem? (l := tables_1_5) (i := 69) rfl), ?_⟩
  refine List.forall_mem_cons.mpr ⟨jm_chI 5 (List.mem_of_getElem? (l := tables_1_5) (i := 73) rfl), ?_⟩
  refine List.forall_mem_cons.mpr ⟨jm_chI 5 (List.mem_of_getElem? (l := tables_1_5) (i := 78) rfl), ?_⟩
  refine List.forall_mem_cons.mpr ⟨jm_chI 5 (List.mem_of_getElem? (l := tables_1_5) (i := 82) rfl), ?_⟩
  exact fun _ h => absurd h List.not_mem_nil
set_option maxRecDepth 100000 in
theorem jw_code4 : ∀ x ∈ jm_all4, Cond.code x.1 x.2.1 x.2.2.1 x.2.2.2 ∈ lw_tbl := by
  unfold jm_all4
  refine List.forall_mem_cons.mpr ⟨jm_chI 5 (List.mem_of_getElem? (l := tables_1_5) (i := 86) rfl), ?_⟩
  refine List.forall_mem_cons.mpr ⟨jm_chI 5 (List.mem_of_getElem? (l := tables_1_5) (i := 90) rfl), ?_⟩
  refine List.forall_mem_cons.mpr ⟨jm_chI 5 (List.mem_of_getElem? (l := tables_1_5) (i := 94) rfl), ?_⟩
  refine List.forall_mem_cons.mpr ⟨jm_chI 5 (List.mem_of_getElem? (l := tables_1_5) (i := 98) rfl), ?_⟩
  refine List.forall_mem_cons.mpr ⟨jm_chI 5 (List.mem_of_getElem? (l := tables_1_5) (i := 102) rfl), ?_⟩
  refine List.forall_mem_cons.mpr ⟨jm_chI 5 (List.mem_of_getElem? (l := tables_1_5) (i := 106) rfl), ?_⟩
  refine List.forall_mem_cons.mpr ⟨jm_chI 5 (List.mem_of_getElem? (l := tables_1_5) (i := 111) rfl), ?_⟩
  refine List.forall_mem_cons.mpr ⟨jm_chI 5 (List.mem_of_getElem? (l := tables_1_5) (i := 115) rfl), ?_⟩
  refine List.forall_mem_cons.mpr ⟨jm_chI 5 (List.mem_of_getElem? (l := tables_1_5) (i := 119) rfl), ?_⟩
  refine List.forall_mem_cons.mpr ⟨jm_chI 5 (List.mem_of_getElem? (l := tables_1_5) (i := 123) rfl), ?_⟩
  refine List.forall_mem_cons.mpr ⟨jm_chI 5 (List.mem_of_getElem? (l := tables_1_5) (i := 127) rfl), ?_⟩
  refine List.forall_mem_cons.mpr ⟨jm_chI 5 (List.mem_of_getElem? (l := tables_1_5) (i := 131) rfl), ?_⟩
  refine List.forall_mem_cons.mpr ⟨jm_chI 5 (List.mem_of_getElem? (l := tables_1_5) (i := 135) rfl), ?_⟩
  refine List.forall_mem_cons.mpr ⟨jm_chI 5 (List.mem_of_getElem? (l := tables_1_5) (i := 139) rfl), ?_⟩
  refine List.forall_mem_cons.mpr ⟨jm_chI 5 (List.mem_of_getElem? (l := tables_1_5) (i := 143) rfl), ?_⟩
  refine List.forall_mem_cons.mpr ⟨jm_chI 5 (List.mem_of_getElem? (l := tables_1_5) (i := 147) rfl), ?_⟩
  refine List.forall_mem_cons.mpr ⟨jm_chI 5 (List.mem_of_getElem? (l := tables_1_5) (i := 152) rfl), ?_⟩
  refine List.forall_mem_cons.mpr ⟨jm_chI 5 (List.mem_of_getElem? (l := tables_1_5) (i := 157) rfl), ?_⟩
  refine List.forall_mem_cons.mpr ⟨jm_chI 5 (List.mem_of_getElem? (l := tables_1_5) (i := 162) rfl), ?_⟩
  refine List.forall_mem_cons.mpr ⟨jm_chI 5 (List.mem_of_getElem? (l := tables_1_5) (i := 166) rfl), ?_⟩
  refine List.forall_mem_cons.mpr ⟨jm_chI 5 (List.mem_of_getElem? (l := tables_1_5) (i := 170) rfl), ?_⟩
  refine List.forall_mem_cons.mpr ⟨jm_chI 5 (List.mem_of_getElem? (l := tables_1_5) (i := 174) rfl), ?_⟩
  refine List.forall_mem_cons.mpr ⟨jm_chI 5 (List.mem_of_getElem? (l := tables_1_5) (i := 178) rfl), ?_⟩
  refine List.forall_mem_cons.mpr ⟨jm_chI 5 (List.mem_of_getElem? (l := tables_1_5) (i := 181) rfl), ?_⟩
  refine List.forall_mem_cons.mpr ⟨jm_chI 5 (List.mem_of_getElem? (l := tables_1_5) (i := 185) rfl), ?_⟩
  refine List.forall_mem_cons.mpr ⟨jm_chI 5 (List.mem_of_getElem? (l := tables_1_5) (i := 189) rfl), ?_⟩
  refine List.forall_mem_cons.mpr ⟨jm_chI 5 (List.mem_of_getElem? (l := tables_1_5) (i := 193) rfl), ?_⟩
  refine List.forall_mem_cons.mpr ⟨jm_chI 5 (List.mem_of_getElem? (l := tables_1_5) (i := 197) rfl), ?_⟩
  refine List.forall_mem_cons.mpr ⟨jm_chI 5 (List.mem_of_getElem? (l := tables_1_5) (i := 202) rfl), ?_⟩
  refine List.forall_mem_cons.mpr ⟨jm_chI 5 (List.mem_of_getElem? (l := tables_1_5) (i := 208) rfl), ?_⟩
  refine List.forall_mem_cons.mpr ⟨jm_chI 5 (List.mem_of_getElem? (l := tables_1_5) (i := 212) rfl), ?_⟩
  refine List.forall_mem_cons.mpr ⟨jm_chI 5 (List.mem_of_getElem? (l := tables_1_5) (i := 217) rfl), ?_⟩
  refine List.forall_mem_cons.mpr ⟨jm_chI 5 (List.mem_of_getElem? (l := tables_1_5) (i := 221) rfl), ?_⟩
  refine List.forall_mem_cons.mpr ⟨jm_chI 5 (List.mem_of_getElem? (l := tables_1_5) (i := 225) rfl), ?_⟩
  refine List.forall_mem_cons.mpr ⟨jm_chI 5 (List.mem_of_getElem? (l := tables_1_5) (i := 230) rfl), ?_⟩
  refine List.forall_mem_cons.mpr ⟨jm_chI 5 (List.mem_of_getElem? (l := tables_1_5) (i := 234) rfl), ?_⟩
  refine List.forall_mem_cons.mpr ⟨jm_chI 6 (List.mem_of_getElem? (l := tables_1_6) (i := 0) rfl), ?_⟩
  refine List.forall_mem_cons.mpr ⟨jm_chI 6 (List.mem_of_getElem? (l := tables_1_6) (i := 5) rfl), ?_⟩
  refine List.forall_mem_cons.mpr ⟨jm_chI 6 (List.mem_of_getElem? (l := tables_1_6) (i := 11) rfl), ?_⟩
  refine List.forall_mem_cons.mpr ⟨jm_chI 6 (List.mem_of_getElem? (l := tables_1_6) (i := 15) rfl), ?_⟩
  exact fun _ h => absurd h List.not_mem_nil
set_option maxRecDepth 100000 in
theorem jw_code5 : ∀ x ∈ jm_all5, Cond.code x.1 x.2.1 x.2.2.1 x.2.2.2 ∈ lw_tbl := by
  unfold jm_all5
  refine List.forall_mem_cons.mpr ⟨jm_chI 6 (List.mem_of_getElem? (l := tables_1_6) (i := 91) rfl), ?_⟩
  refine List.forall_mem_cons.mpr ⟨jm_chI 7 (List.mem_of_getElem? (l := tables_1_7) (i := 32) rfl), ?_⟩
  refine List.forall_mem_cons.mpr ⟨jm_chI 7 (List.mem_of_getElem? (l := tables_1_7) (i := 36) rfl), ?_⟩
  refine List.forall_mem_cons.mpr ⟨jm_chI 7 (List.mem_of_getElem? (l := tables_1_7) (i := 39) rfl), ?_⟩
  refine List.forall_mem_cons.mpr ⟨jm_chI 7 (List.mem_of_getElem? (l := tables_1_7) (i := 43) rfl), ?_⟩
  refine List.forall_mem_cons.mpr ⟨jm_chI 7 (List.mem_of_getElem? (l := tables_1_7) (i := 47) rfl), ?_⟩
  refine List.forall_mem_cons.mpr ⟨jm_chI 7 (List.mem_of_getElem? (l := tables_1_7) (i := 51) rfl), ?_⟩
  refine List.forall_mem_cons.mpr ⟨jm_chI 7 (List.mem_of_getElem? (l := tables_1_7) (i := 55) rfl), ?_⟩
  refine List.forall_mem_cons.mpr ⟨jm_chI 7 (List.mem_of_getElem? (l := tables_1_7) (i := 59) rfl), ?_⟩
  refine List.forall_mem_cons.mpr ⟨jm_chI 7 (List.mem_of_getElem? (l := tables_1_7) (i := 63) rfl), ?_⟩
  refine List.forall_mem_cons.mpr ⟨jm_chI 7 (List.mem_of_getElem? (l := tables_1_7) (i := 66) rfl), ?_⟩
  refine List.forall_mem_cons.mpr ⟨jm_chI 7 (List.mem_of_getElem? (l := tables_1_7) (i := 70) rfl), ?_⟩
  refine List.forall_mem_cons.mpr ⟨jm_chI 7 (List.mem_of_getElem? (l := tables_1_7) (i := 73) rfl), ?_⟩
  refine List.forall_mem_cons.mpr ⟨jm_chI 7 (List.mem_of_getElem? (l := tables_1_7) (i := 77) rfl), ?_⟩
  refine List.forall_mem_cons.mpr ⟨jm_chI 7 (List.mem_of_getElem? (l := tables_1_7) (i := 80) rfl), ?_⟩
  refine List.forall_mem_cons.mpr ⟨jm_chI 7 (List.mem_of_getElem? (l := tables_1_7) (i := 84) rfl), ?_⟩
  refine List.forall_mem_cons.mpr ⟨jm_chI 7 (List.mem_of_getElem? (l := tables_1_7) (i := 88) rfl), ?_⟩
  refine List.forall_mem_cons.mpr ⟨jm_chI 7 (List.mem_of_getElem? (l := tables_1_7) (i := 92) rfl), ?_⟩
  refine List.forall_mem_cons.mpr ⟨jm_chI 7 (List.mem_of_getElem? (l := tables_1_7) (i := 96) rfl), ?_⟩
  refine List.forall_mem_cons.mpr ⟨jm_chI 7 (List.mem_of_getElem? (l := tables_1_7) (i := 100) rfl), ?_⟩
  refine List.forall_mem_cons.mpr ⟨jm_chI 7 (List.mem_of_getElem? (l := tables_1_7) (i := 104) rfl), ?_⟩
  refine List.forall_mem_cons.mpr ⟨jm_chI 7 (List.mem_of_getElem? (l := tables_1_7) (i := 108) rfl), ?_⟩
  refine List.forall_mem_cons.mpr ⟨jm_chI 7 (List.mem_of_getElem? (l := tables_1_7) (i := 112) rfl), ?_⟩
  refine List.forall_mem_cons.mpr ⟨jm_chI 7 (List.mem_of_getElem? (l := tables_1_7) (i := 116) rfl), ?_⟩
  refine List.forall_mem_cons.mpr ⟨jm_chI 7 (List.mem_of_getElem? (l := tables_1_7) (i := 120) rfl), ?_⟩
  refine List.forall_mem_cons.mpr ⟨jm_chI 7 (List.mem_of_getElem? (l := tables_1_7) (i := 124) rfl), ?_⟩
  refine List.forall_mem_cons.mpr ⟨jm_chI 7 (List.mem_of_getElem? (l := tables_1_7) (i := 128) rfl), ?_⟩
  refine List.forall_mem_cons.mpr ⟨jm_chI 7 (List.mem_of_getElem? (l := tables_1_7) (i := 132) rfl), ?_⟩
  refine List.forall_mem_cons.mpr ⟨jm_chI 7 (List.mem_of_getElem? (l := tables_1_7) (i := 136) rfl), ?_⟩
  refine List.forall_mem_cons.mpr ⟨jm_chI 7 (List.mem_of_getElem? (l := tables_1_7) (i := 139) rfl), ?_⟩
  refine List.forall_mem_cons.mpr ⟨jm_chI 7 (List.mem_of_getElem? (l := tables_1_7) (i := 143) rfl), ?_⟩
  refine List.forall_mem_cons.mpr ⟨jm_chI 7 (List.mem_of_getElem? (l := tables_1_7) (i := 146) rfl), ?_⟩
  refine List.forall_mem_cons.mpr ⟨jm_chI 7 (List.mem_of_getElem? (l := tables_1_7) (i := 150) rfl), ?_⟩
  refine List.forall_mem_cons.mpr ⟨jm_chI 7 (List.mem_of_getElem? (l := tables_1_7) (i := 154) rfl), ?_⟩
  refine List.forall_mem_cons.mpr ⟨jm_chI 7 (List.mem_of_getElem? (l := tables_1_7) (i := 158) rfl), ?_⟩
  refine List.forall_mem_cons.mpr ⟨jm_chI 7 (List.mem_of_getElem? (l := tables_1_7) (i := 162) rfl), ?_⟩
  refine List.forall_mem_cons.mpr ⟨jm_chI 7 (List.mem_of_getElem? (l := tables_1_7) (i := 166) rfl), ?_⟩
  refine List.forall_mem_cons.mpr ⟨jm_chI 7 (List.mem_of_getElem? (l := tables_1_7) (i := 170) rfl), ?_⟩
  refine List.forall_mem_cons.mpr ⟨jm_chI 7 (List.mem_of_getElem? (l := tables_1_7) (i := 174) rfl), ?_⟩
  refine List.forall_mem_cons.mpr ⟨jm_chI 7 (List.mem_of_getElem? (l := tables_1_7) (i := 178) rfl), ?_⟩
  exact fun _ h => absurd h List.not_mem_nil
set_option maxRecDepth 100000 in
theorem jw_code6 : ∀ x ∈ jm_all6, Cond.code x.1 x.2.1 x.2.2.1 x.2.2.2 ∈ lw_tbl := by
  unfold jm_all6
  refine List.forall_mem_cons.mpr ⟨jm_chI 7 (List.mem_of_getElem? (l := tables_1_7) (i := 182) rfl), ?_⟩
  refine List.forall_mem_cons.mpr ⟨jm_chI 7 (List.mem_of_getElem? (l := tables_1_7) (i := 186) rfl), ?_⟩
  refine List.forall_mem_cons.mpr ⟨jm_chI 7 (List.mem_of_getElem? (l := tables_1_7) (i := 190) rfl), ?_⟩
  refine List.forall_mem_cons.mpr ⟨jm_chI 7 (List.mem_of_getElem? (l := tables_1_7) (i := 194) rfl), ?_⟩
  refine List.forall_mem_cons.mpr ⟨jm_chI 7 (List.mem_of_getElem? (l := tables_1_7) (i := 198) rfl), ?_⟩
  refine List.forall_mem_cons.mpr ⟨jm_chI 7 (List.mem_of_getElem? (l := tables_1_7) (i := 202) rfl), ?_⟩
  refine List.forall_mem_cons.mpr ⟨jm_chI 7 (List.mem_of_getElem? (l := tables_1_7) (i := 205) rfl), ?_⟩
  refine List.forall_mem_cons.mpr ⟨jm_chI 7 (List.mem_of_getElem? (l := tables_1_7) (i := 209) rfl), ?_⟩
  refine List.forall_mem_cons.mpr ⟨jm_chI 7 (List.mem_of_getElem? (l := tables_1_7) (i := 213) rfl), ?_⟩
  refine List.forall_mem_cons.mpr ⟨jm_chI 7 (List.mem_of_getElem? (l := tables_1_7) (i := 217) rfl), ?_⟩
  refine List.forall_mem_cons.mpr ⟨jm_chI 7 (List.mem_of_getElem? (l := tables_1_7) (i := 221) rfl), ?_⟩
  refine List.forall_mem_cons.mpr ⟨jm_chI 7 (List.mem_of_getElem? (l := tables_1_7) (i := 225) rfl), ?_⟩
  refine List.forall_mem_cons.mpr ⟨jm_chI 7 (List.mem_of_getElem? (l := tables_1_7) (i := 229) rfl), ?_⟩
  refine List.forall_mem_cons.mpr ⟨jm_chI 7 (List.mem_of_getElem? (l := tables_1_7) (i := 233) rfl), ?_⟩
  refine List.forall_mem_cons.mpr ⟨jm_chI 7 (List.mem_of_getElem? (l := tables_1_7) (i := 237) rfl), ?_⟩
  refine List.forall_mem_cons.mpr ⟨jm_chI 8 (List.mem_of_getElem? (l := tables_1_8) (i := 1) rfl), ?_⟩
  refine List.forall_mem_cons.mpr ⟨jm_chI 8 (List.mem_of_getElem? (l := tables_1_8) (i := 5) rfl), ?_⟩
  refine List.forall_mem_cons.mpr ⟨jm_chI 8 (List.mem_of_getElem? (l := tables_1_8) (i := 9) rfl), ?_⟩
  refine List.forall_mem_cons.mpr ⟨jm_chI 8 (List.mem_of_getElem? (l := tables_1_8) (i := 13) rfl), ?_⟩
  refine List.forall_mem_cons.mpr ⟨jm_chI 8 (List.mem_of_getElem? (l := tables_1_8) (i := 17) rfl), ?_⟩
  refine List.forall_mem_cons.mpr ⟨jm_chI 8 (List.mem_of_getElem? (l := tables_1_8) (i := 22) rfl), ?_⟩
  refine List.forall_mem_cons.mpr ⟨jm_chI 8 (List.mem_of_getElem? (l := tables_1_8) (i := 26) rfl), ?_⟩
  refine List.forall_mem_cons.mpr ⟨jm_chI 8 (List.mem_of_getElem? (l := tables_1_8) (i := 30) rfl), ?_⟩
  refine List.forall_mem_cons.mpr ⟨jm_chI 8 (List.mem_of_getElem? (l := tables_1_8) (i := 34) rfl), ?_⟩
  refine List.forall_mem_cons.mpr ⟨jm_chI 8 (List.mem_of_getElem? (l := tables_1_8) (i := 38) rfl), ?_⟩
  refine List.forall_mem_cons.mpr ⟨jm_chI 8 (List.mem_of_getElem? (l := tables_1_8) (i := 42) rfl), ?_⟩
  refine List.forall_mem_cons.mpr ⟨jm_chI 8 (List.mem_of_getElem? (l := tables_1_8) (i := 46) rfl), ?_⟩
  refine List.forall_mem_cons.mpr ⟨jm_chI 8 (List.mem_of_getElem? (l := tables_1_8) (i := 50) rfl), ?_⟩
  refine List.forall_mem_cons.mpr ⟨jm_chI 8 (List.mem_of_getElem? (l := tables_1_8) (i := 55) rfl), ?_⟩
  refine List.forall_mem_cons.mpr ⟨jm_chI 8 (List.mem_of_getElem? (l := tables_1_8) (i := 59) rfl), ?_⟩
  refine List.forall_mem_cons.mpr ⟨jm_chI 8 (List.mem_of_getElem? (l := tables_1_8) (i := 63) rfl), ?_⟩
  refine List.forall_mem_cons.mpr ⟨jm_chI 8 (List.mem_of_getElem? (l := tables_1_8) (i := 67) rfl), ?_⟩
  refine List.forall_mem_cons.mpr ⟨jm_chI 8 (List.mem_of_getElem? (l := tables_1_8) (i := 71) rfl), ?_⟩
  refine List.forall_mem_cons.mpr ⟨jm_chI 8 (List.mem_of_getElem? (l := tables_1_8) (i := 75) rfl), ?_⟩
  refine List.forall_mem_cons.mpr ⟨jm_chI 8 (List.mem_of_getElem? (l := tables_1_8) (i := 78) rfl), ?_⟩
  refine List.forall_mem_cons.mpr ⟨jm_chI 8 (List.mem_of_getElem? (l := tables_1_8) (i := 81) rfl), ?_⟩
  refine List.forall_mem_cons.mpr ⟨jm_chI 8 (List.mem_of_getElem? (l := tables_1_8) (i := 94) rfl), ?_⟩
  refine List.forall_mem_cons.mpr ⟨jm_chI 8 (List.mem_of_getElem? (l := tables_1_8) (i := 98) rfl), ?_⟩
  refine List.forall_mem_cons.mpr ⟨jm_chI 8 (List.mem_of_getElem? (l := tables_1_8) (i := 104) rfl), ?_⟩
  refine List.forall_mem_cons.mpr ⟨jm_chI 8 (List.mem_of_getElem? (l := tables_1_8) (i := 109) rfl), ?_⟩
  exact fun _ h => absurd h List.not_mem_nil
set_option maxRecDepth 100000 in
theorem jw_code7 : ∀ x ∈ jm_all7, Cond.code x.1 x.2.1 x.2.2.1 x.2.2.2 ∈ lw_tbl := by
  unfold jm_all7
  refine List.forall_mem_cons.mpr ⟨jm_chI 8 (List.mem_of_getElem? (l := tables_1_8) (i := 113) rfl), ?_⟩
  refine List.forall_mem_cons.mpr ⟨jm_chI 8 (List.mem_of_getElem? (l := tables_1_8) (i := 117) rfl), ?_⟩
  refine List.forall_mem_cons.mpr ⟨jm_chI 8 (List.mem_of_getElem? (l := tables_1_8) (i := 121) rfl), ?_⟩
  refine List.forall_mem_cons.mpr ⟨jm_chI 8 (List.mem_of_getElem? (l := tables_1_8) (i := 125) rfl), ?_⟩
  refine List.forall_mem_cons.mpr ⟨jm_chI 8 (List.mem_of_getElem? (l := tables_1_8) (i := 129) rfl), ?_⟩
  refine List.forall_mem_cons.mpr ⟨jm_chI 8 (List.mem_of_getElem? (l := tables_1_8) (i := 133) rfl), ?_⟩
  refine List.forall_mem_cons.mpr ⟨jm_chI 8 (List.mem_of_getElem? (l := tables_1_8) (i := 137) rfl), ?_⟩
  refine List.forall_mem_cons.mpr ⟨jm_chI 8 (List.mem_of_getElem? (l := tables_1_8) (i := 141) rfl), ?_⟩
  refine List.forall_mem_cons.mpr ⟨jm_chI 8 (List.mem_of_getElem? (l := tables_1_8) (i := 145) rfl), ?_⟩
  refine List.forall_mem_cons.mpr ⟨jm_chI 8 (List.mem_of_getElem? (l := tables_1_8) (i := 149) rfl), ?_⟩
  refine List.forall_mem_cons.mpr ⟨jm_chI 8 (List.mem_of_getElem? (l := tables_1_8) (i := 153) rfl), ?_⟩
  refine List.forall_mem_cons.mpr ⟨jm_chI 8 (List.mem_of_getElem? (l := tables_1_8) (i := 157) rfl), ?_⟩
  refine List.forall_mem_cons.mpr ⟨jm_chI 8 (List.mem_of_getElem? (l := tables_1_8) (i := 161) rfl), ?_⟩
  refine List.forall_mem_cons.mpr ⟨jm_chI 8 (List.mem_of_getElem? (l := tables_1_8) (i := 165) rfl), ?_⟩
  refine List.forall_mem_cons.mpr ⟨jm_chI 8 (List.mem_of_getElem? (l := tables_1_8) (i := 169) rfl), ?_⟩
  refine List.forall_mem_cons.mpr ⟨jm_chI 8 (List.mem_of_getElem? (l := tables_1_8) (i := 173) rfl), ?_⟩
  refine List.forall_mem_cons.mpr ⟨jm_chI 8 (List.mem_of_getElem? (l := tables_1_8) (i := 176) rfl), ?_⟩
  refine List.forall_mem_cons.mpr ⟨jm_chI 8 (List.mem_of_getElem? (l := tables_1_8) (i := 180) rfl), ?_⟩
  refine List.forall_mem_cons.mpr ⟨jm_chI 8 (List.mem_of_getElem? (l := tables_1_8) (i := 186) rfl), ?_⟩
  refine List.forall_mem_cons.mpr ⟨jm_chI 8 (List.mem_of_getElem? (l := tables_1_8) (i := 190) rfl), ?_⟩
  refine List.forall_mem_cons.mpr ⟨jm_chI 8 (List.mem_of_getElem? (l := tables_1_8) (i := 194) rfl), ?_⟩
  refine List.forall_mem_cons.mpr ⟨jm_chI 8 (List.mem_of_getElem? (l := tables_1_8) (i := 198) rfl), ?_⟩
  exact fun _ h => absurd h List.not_mem_nil
set_option maxRecDepth 100000 in
theorem jw_maxL : ∀ y, y < 302 → (jm_y y).2.2.1 = ja_maxL y ∧ ja_maxL y ≤ 16 := by decide +kernel
set_option maxRecDepth 100000 in
theorem jw_inst : ∀ y, y < 302 → (jm_ch (jm_mw y).2.1)[(jm_mw y).2.2.1]? = some (if (jm_mw y).1 = 1 then Cond.static (jm_nm y) else Cond.instanceMethod (jm_nm y)) := by decide +kernel
set_option maxRecDepth 100000 in
theorem jw_sel : ∀ y, y < 302 → (jm_mw y).1 = 0 → (jm_nm y).name ≠ "<init>" → (jm_ch (jm_mw y).2.2.2.1)[(jm_mw y).2.2.2.2.1]? = some (Cond.selects (jm_nm y).cls (jm_nm y) (jm_nm y)) := by decide +kernel
set_option maxRecDepth 100000 in
theorem jw_ini : ∀ y, y < 302 → (jm_ch (jm_mw y).2.2.2.2.2.1)[(jm_mw y).2.2.2.2.2.2]? = some (Cond.initialized (jm_nm y).cls) := by decide +kernel
set_option maxRecDepth 100000 in
theorem jw_cls : ∀ y, y < 302 → (jm_nm y).cls = jm_cn (jm_own y) := by decide +kernel
set_option maxRecDepth 100000 in
theorem jw_plain : ∀ k, k < 16 → plainName (jm_cn k) = true ∧ jm_cn k ≠ "java/lang/invoke/MethodHandle" ∧ jm_cn k ≠ "java/lang/invoke/VarHandle" := by decide +kernel
set_option maxRecDepth 100000 in
theorem jw_own : ∀ y, y < 302 → jm_own y < 16 := by decide +kernel
set_option maxRecDepth 100000 in
theorem jw_in0 : ∀ w ∈ u_ws RX0 TX0 8, w ∈ jm_W := by
  intro w h
  have h1 : w ∈ lw_tbl := (show ∀ w ∈ u_ws RX0 TX0 8, w ∈ lw_tbl by decide +kernel) w h
  have h2 : goodWord w = true := (show ∀ w ∈ u_ws RX0 TX0 8, goodWord w = true by decide +kernel) w h
  exact List.mem_filter.mpr ⟨h1, h2⟩
set_option maxRecDepth 100000 in
theorem jw_in1 : ∀ w ∈ u_ws RX1 TX1 14, w ∈ jm_W := by
  intro w h
  have h1 : w ∈ lw_tbl := (show ∀ w ∈ u_ws RX1 TX1 14, w ∈ lw_tbl by decide +kernel) w h
  have h2 : goodWord w = true := (show ∀ w ∈ u_ws RX1 TX1 14, goodWord w = true by decide +kernel) w h
  exact List.mem_filter.mpr ⟨h1, h2⟩
set_option maxRecDepth 100000 in
theorem jw_in2 : ∀ w ∈ u_ws RX2 TX2 11, w ∈ jm_W := by
  intro w h
  have h1 : w ∈ lw_tbl := (show ∀ w ∈ u_ws RX2 TX2 11, w ∈ lw_tbl by decide +kernel) w h
  have h2 : goodWord w = true := (show ∀ w ∈ u_ws RX2 TX2 11, goodWord w = true by decide +kernel) w h
  exact List.mem_filter.mpr ⟨h1, h2⟩
set_option maxRecDepth 100000 in
theorem jw_in3 : ∀ w ∈ u_ws RX3 TX3 7, w ∈ jm_W := by
  intro w h
  have h1 : w ∈ lw_tbl := (show ∀ w ∈ u_ws RX3 TX3 7, w ∈ lw_tbl by decide +kernel) w h
  have h2 : goodWord w = true := (show ∀ w ∈ u_ws RX3 TX3 7, goodWord w = true by decide +kernel) w h
  exact List.mem_filter.mpr ⟨h1, h2⟩
set_option maxRecDepth 100000 in
theorem jw_in4 : ∀ w ∈ u_ws RX4 TX4 3, w ∈ jm_W := by
  intro w h
  have h1 : w ∈ lw_tbl := (show ∀ w ∈ u_ws RX4 TX4 3, w ∈ lw_tbl by decide +kernel) w h
  have h2 : goodWord w = true := (show ∀ w ∈ u_ws RX4 TX4 3, goodWord w = true by decide +kernel) w h
  exact List.mem_filter.mpr ⟨h1, h2⟩
set_option maxRecDepth 100000 in
theorem jw_in5 : ∀ w ∈ u_ws RX5 TX5 9, w ∈ jm_W := by
  intro w h
  have h1 : w ∈ lw_tbl := (show ∀ w ∈ u_ws RX5 TX5 9, w ∈ lw_tbl by decide +kernel) w h
  have h2 : goodWord w = true := (show ∀ w ∈ u_ws RX5 TX5 9, goodWord w = true by decide +kernel) w h
  exact List.mem_filter.mpr ⟨h1, h2⟩
set_option maxRecDepth 100000 in
theorem jw_in6 : ∀ w ∈ u_ws RX6 TX6 8, w ∈ jm_W := by
  intro w h
  have h1 : w ∈ lw_tbl := (show ∀ w ∈ u_ws RX6 TX6 8, w ∈ lw_tbl by decide +kernel) w h
  have h2 : goodWord w = true := (show ∀ w ∈ u_ws RX6 TX6 8, goodWord w = true by decide +kernel) w h
  exact List.mem_filter.mpr ⟨h1, h2⟩
set_option maxRecDepth 100000 in
theorem jw_in7 : ∀ w ∈ u_ws RX7 TX7 4, w ∈ jm_W := by
  intro w h
  have h1 : w ∈ lw_tbl := (show ∀ w ∈ u_ws RX7 TX7 4, w ∈ lw_tbl by decide +kernel) w h
  have h2 : goodWord w = true := (show ∀ w ∈ u_ws RX7 TX7 4, goodWord w = true by decide +kernel) w h
  exact List.mem_filter.mpr ⟨h1, h2⟩
set_option maxRecDepth 100000 in
theorem jw_in8 : ∀ w ∈ u_ws RX8 TX8 3, w ∈ jm_W := by
  intro w h
  have h1 : w ∈ lw_tbl := (show ∀ w ∈ u_ws RX8 TX8 3, w ∈ lw_tbl by decide +kernel) w h
  have h2 : goodWord w = true := (show ∀ w ∈ u_ws RX8 TX8 3, goodWord w = true by decide +kernel) w h
  exact List.mem_filter.mpr ⟨h1, h2⟩
set_option maxRecDepth 100000 in
theorem jw_in9 : ∀ w ∈ u_ws RX9 TX9 3, w ∈ jm_W := by
  intro w h
  have h1 : w ∈ lw_tbl := (show ∀ w ∈ u_ws RX9 TX9 3, w ∈ lw_tbl by decide +kernel) w h
  have h2 : goodWord w = true := (show ∀ w ∈ u_ws RX9 TX9 3, goodWord w = true by decide +kernel) w h
  exact List.mem_filter.mpr ⟨h1, h2⟩
set_option maxRecDepth 100000 in
theorem jw_in10 : ∀ w ∈ u_ws RX10 TX10 6, w ∈ jm_W := by
  intro w h
  have h1 : w ∈ lw_tbl := (show ∀ w ∈ u_ws RX10 TX10 6, w ∈ lw_tbl by decide +kernel) w h
  have h2 : goodWord w = true := (show ∀ w ∈ u_ws RX10 TX10 6, goodWord w = true by decide +kernel) w h
  exact List.mem_filter.mpr ⟨h1, h2⟩
set_option maxRecDepth 100000 in
theorem jw_in11 : ∀ w ∈ u_ws RX11 TX11 11, w ∈ jm_W := by
  intro w h
  have h1 : w ∈ lw_tbl := (show ∀ w ∈ u_ws RX11 TX11 11, w ∈ lw_tbl by decide +kernel) w h
  have h2 : goodWord w = true := (show ∀ w ∈ u_ws RX11 TX11 11, goodWord w = true by decide +kernel) w h
  exact List.mem_filter.mpr ⟨h1, h2⟩
set_option maxRecDepth 100000 in
theorem jw_in12 : ∀ w ∈ u_ws RX12 TX12 58, w ∈ jm_W := by
  intro w h
  have h1 : w ∈ lw_tbl := (show ∀ w ∈ u_ws RX12 TX12 58, w ∈ lw_tbl by decide +kernel) w h
  have h2 : goodWord w = true := (show ∀ w ∈ u_ws RX12 TX12 58, goodWord w = true by decide +kernel) w h
  exact List.mem_filter.mpr ⟨h1, h2⟩
def jm_mt : List (Nat × Nat × Nat × Nat × Nat) := [(8, 33, 1, 2, 225), (6, 62, 1, 3, 182), (3, 51, 2, 4, 106), (10, 41, 1, 4, 115), (10, 59, 0, 4, 139), (0, 81, 0, 4, 182), (0, 76, 2, 4, 183), (7, 88, 1, 5, 198), (12, 340, 2, 8, 51), (12, 208, 4, 8, 84), (12, 214, 3, 8, 87), (12, 362, 0, 8, 99), (12, 364, 1, 8, 100)]
set_option maxRecDepth 100000 in
theorem jo_arrI : Cond.arrayClass .int ∈ jm_W := jm_in (k := 1) (i := 46) (by decide +kernel) rfl
set_option maxRecDepth 100000 in
theorem jo_arrZ : Cond.arrayClass .boolean ∈ jm_W := jm_in (k := 7) (i := 28) (by decide +kernel) rfl
set_option maxRecDepth 100000 in
theorem jo_arrJ : Cond.arrayClass .long ∈ jm_W := jm_in (k := 8) (i := 200) (by decide +kernel) rfl
set_option maxRecDepth 100000 in
theorem jo_over : Cond.arrayOver (.array .int) ∈ lw_tbl := jm_chI 1 (List.mem_of_getElem? (l := tables_1_1) (i := 116) rfl)
set_option maxRecDepth 100000 in
theorem jo_oiI : Cond.instanceMethod Lib.objectInit ∈ jm_W := jm_in (k := 1) (i := 28) (by decide +kernel) rfl
set_option maxRecDepth 100000 in
theorem jo_acN : Cond.native arraycopyName ∈ jm_W := jm_in (k := 3) (i := 93) (by decide +kernel) rfl
set_option maxRecDepth 100000 in
theorem jo_acS : Cond.static arraycopyName ∈ jm_W := jm_in (k := 3) (i := 92) (by decide +kernel) rfl
set_option maxRecDepth 100000 in
theorem jo_acI : Cond.initialized "java/lang/System" ∈ jm_W := jm_in (k := 1) (i := 15) (by decide +kernel) rfl
set_option maxRecDepth 100000 in
theorem jo_oiC : Cond.code Lib.objectInit ⟨#[0xb1]⟩ 1 none ∈ jm_W := jm_in (k := 1) (i := 29) (by decide +kernel) rfl
def jm_mns : List MethodName := [Lib.Math.max.name, Lib.Math.min.name, Lib.Math.abs.name, Lib.MathLoose.max_long.x, Lib.MathLoose.min_long.x]
set_option maxRecDepth 100000 in
theorem jt_ok : ∀ q ∈ jm_mt, (jm_ch q.2.2.2.1)[q.2.2.2.2]? = some (Cond.methodLink (jm_cn q.1) q.2.1 (ja_nth jm_mns q.2.2.1 ⟨"", "", ""⟩)) := by decide +kernel
set_option maxRecDepth 100000 in
theorem jt_s0 : Cond.static Lib.Math.max.name ∈ jm_W := jm_in (k := 4) (i := 140) (by decide +kernel) rfl
set_option maxRecDepth 100000 in
theorem jt_c0 : Cond.code Lib.Math.max.name Lib.Math.max.code 2 (some .int) ∈ jm_W := jm_in (k := 4) (i := 141) (by decide +kernel) rfl
set_option maxRecDepth 100000 in
theorem jt_s1 : Cond.static Lib.Math.min.name ∈ jm_W := jm_in (k := 2) (i := 226) (by decide +kernel) rfl
set_option maxRecDepth 100000 in
theorem jt_c1 : Cond.code Lib.Math.min.name Lib.Math.min.code 2 (some .int) ∈ jm_W := jm_in (k := 2) (i := 227) (by decide +kernel) rfl
set_option maxRecDepth 100000 in
theorem jt_s2 : Cond.static Lib.Math.abs.name ∈ jm_W := jm_in (k := 4) (i := 107) (by decide +kernel) rfl
set_option maxRecDepth 100000 in
theorem jt_c2 : Cond.code Lib.Math.abs.name Lib.Math.abs.code 1 (some .int) ∈ jm_W := jm_in (k := 4) (i := 108) (by decide +kernel) rfl
set_option maxRecDepth 100000 in
theorem jt_s3 : Cond.static Lib.MathLoose.max_long.x ∈ jm_W := jm_in (k := 8) (i := 88) (by decide +kernel) rfl
set_option maxRecDepth 100000 in
theorem jt_c3 : Cond.code Lib.MathLoose.max_long.x Lib.MathLoose.max_long.code 4 (some .long) ∈ jm_W := jm_in (k := 8) (i := 89) (by decide +kernel) rfl
set_option maxRecDepth 100000 in
theorem jt_s4 : Cond.static Lib.MathLoose.min_long.x ∈ jm_W := jm_in (k := 8) (i := 85) (by decide +kernel) rfl
set_option maxRecDepth 100000 in
theorem jt_c4 : Cond.code Lib.MathLoose.min_long.x Lib.MathLoose.min_long.code 4 (some .long) ∈ jm_W := jm_in (k := 8) (i := 86) (by decide +kernel) rfl
set_option maxRecDepth 100000 in
theorem jt_i : Cond.initialized "java/lang/Math" ∈ jm_W := jm_in (k := 1) (i := 14) (by decide +kernel) rfl
end
section
/-! THE SMALL MACHINE'S STATES IN THE REAL HEAP -/
abbrev jb_G : Type := va_G × (ClassId × ClassId × ClassId × ClassId) × Nat
def jb_A (G : jb_G) : Nat → Prop := fun q => G.2.2 ≤ q
def jb_tys (G : jb_G) : List (ClassId × FieldType) := [(G.2.1.1, .int), (G.2.1.2.1, .boolean), (G.2.1.2.2.1, .long), (G.2.1.2.2.2, .array .int)]
def jb_v (ad : Nat → Nat) : ja_V → Value
  | .inl x => .int (Int32.ofInt x)
  | .inr (.inl x) => .long (Int64.ofInt x)
  | .inr (.inr 0) => .null
  | .inr (.inr (k + 1)) => .ref (ad (k + 1))
def ja_ft (k i : Nat) : Nat := ja_nth (ja_nth ja_ftL k []) i 9
def jb_f (φ : Bool) (ad : Nat → Nat) (M : ja_M) (c i : Nat) : Nat → Value
  | 0 => .int (Int32.ofInt (M c i))
  | 1 => .int (Int32.ofInt (M c i))
  | 2 => .long (Int64.ofInt (M c i))
  | _ => jb_v ad (jr (ja_rd φ M c i))
def jb_fs (φ : Bool) (ad : Nat → Nat) (M : ja_M) (c : Nat) : List Value := (List.range (ja_kd c).2).map (fun i => jb_f φ ad M c i (ja_ft (ja_kd c).1 i))
def jb_e (G : jb_G) (φ : Bool) (ad : Nat → Nat) (M : ja_M) (c : Nat) : va_E :=
  if (ja_kd c).1 = 100 then .inl (G.2.1.1, (ja_kd c).2, .inl (fun i => Int32.ofInt (M c i)))
  else if (ja_kd c).1 = 101 then .inl (G.2.1.2.1, (ja_kd c).2, .inl (fun i => Int32.ofInt (M c i)))
  else if (ja_kd c).1 = 102 then .inl (G.2.1.2.2.1, (ja_kd c).2, .inr (.inl (fun i => Int64.ofInt (M c i))))
  else if (ja_kd c).1 = 103 then .inl (G.2.1.2.2.2, (ja_kd c).2, .inr (.inr (.inr (.inr (fun i => if i < (ja_kd c).2 then some (ad (c + 1 + i)) else none)))))
  else .inr ((ja_kd c).1, jb_fs φ ad M c)
def jb_ws (G : jb_G) (φ : Bool) (ad : Nat → Nat) (M : ja_M) : va_W := (List.range (M 0 0).toNat).map (fun k => (ad (k + 1), jb_e G φ ad M (k + 1)))
theorem jb_at {G : jb_G} {φ : Bool} {ad : Nat → Nat} {M : ja_M} {c : Nat} (h1 : 1 ≤ c) (h2 : c ≤ (M 0 0).toNat) : (jb_ws G φ ad M)[c - 1]? = some (ad c, jb_e G φ ad M c) := by
  unfold jb_ws
  rw [List.getElem?_map, List.getElem?_range (by omega)]
  show some (ad (c - 1 + 1), jb_e G φ ad M (c - 1 + 1)) = _
  rw [show c - 1 + 1 = c by omega]
theorem jb_up_ne {M : ja_M} {c i d j : Nat} {v : Int} (h : d ≠ c) : ja_up M c i v d j = M d j := if_neg (fun q => h q.1)
theorem jb_up_nej {M : ja_M} {c i d j : Nat} {v : Int} (h : j ≠ i) : ja_up M c i v d j = M d j := if_neg (fun q => h q.2)
theorem jb_up_eq {M : ja_M} {c i : Nat} {v : Int} : ja_up M c i v c i = v := if_pos ⟨rfl, rfl⟩
/-- cells look only at their own row -/
theorem jb_e_congr {G : jb_G} {φ : Bool} {ad ad' : Nat → Nat} {M M' : ja_M} {c : Nat} (h : ∀ i, M' c i = M c i) (hr : ∀ i, ja_rd φ M c i ≠ 0 → ad' (ja_rd φ M c i) = ad (ja_rd φ M c i)) (h3r : (ja_kd c).1 = 103 → ∀ i, i < (ja_kd c).2 → ad' (c + 1 + i) = ad (c + 1 + i)) : jb_e G φ ad' M' c = jb_e G φ ad M c := by
  have hf : (fun i => Int32.ofInt (M' c i)) = (fun i => Int32.ofInt (M c i)) := by funext i; rw [h]
  have hl : (fun i => Int64.ofInt (M' c i)) = (fun i => Int64.ofInt (M c i)) := by funext i; rw [h]
  have hrd : ∀ i, ja_rd φ M' c i = ja_rd φ M c i := fun i => by unfold ja_rd; rw [h]
  unfold jb_e
  rw [hf, hl]
  by_cases h3 : (ja_kd c).1 = 103
  · have : (fun i => if i < (ja_kd c).2 then some (ad' (c + 1 + i)) else none) = (fun i => if i < (ja_kd c).2 then some (ad (c + 1 + i)) else none) := by
      funext i
      by_cases hi : i < (ja_kd c).2
      · rw [if_pos hi, if_pos hi, h3r h3 i hi]
      · rw [if_neg hi, if_neg hi]
    rw [this]
    simp [h3]
  · have hfs : jb_fs φ ad' M' c = jb_fs φ ad M c := by
      unfold jb_fs
      apply List.map_congr_left
      intro i _
      unfold jb_f
      split
      · rw [h]
      · rw [h]
      · rw [h]
      · rw [hrd]
        have hx := hr i
        generalize ja_rd φ M c i = k at hx
        cases k with
        | zero => rfl
        | succ k =>
          show Value.ref (ad' (k + 1)) = Value.ref (ad (k + 1))
          rw [hx (by omega)]
    rw [hfs]
    simp [h3]
theorem jb_e_same {G : jb_G} {φ : Bool} {ad : Nat → Nat} {M M' : ja_M} {c : Nat} (h : ∀ i, M' c i = M c i) : jb_e G φ ad M' c = jb_e G φ ad M c := jb_e_congr h (fun _ _ => rfl) (fun _ _ _ => rfl)
/-- one cell's row written: one place of the world set -/
theorem jb_set {G : jb_G} {φ : Bool} {ad : Nat → Nat} {M M' : ja_M} {c : Nat} (h1 : 1 ≤ c) (h2 : c ≤ (M 0 0).toNat) (h0 : (M' 0 0).toNat = (M 0 0).toNat) (hne : ∀ d i, d ≠ c → d ≠ 0 → M' d i = M d i) {e : va_E} (he : jb_e G φ ad M' c = e) : (jb_ws G φ ad M).set (c - 1) (ad c, e) = jb_ws G φ ad M' := by
  unfold jb_ws
  rw [h0]
  apply List.ext_getElem?
  intro k
  rw [List.getElem?_set]
  simp only [List.length_map, List.length_range]
  by_cases hk : c - 1 = k
  · subst hk
    rw [if_pos rfl, if_pos (by omega), List.getElem?_map, List.getElem?_range (by omega)]
    show _ = some (ad (c - 1 + 1), jb_e G φ ad M' (c - 1 + 1))
    rw [show c - 1 + 1 = c by omega, he]
  · rw [if_neg hk, List.getElem?_map, List.getElem?_map]
    by_cases hl : k < (M 0 0).toNat
    · rw [List.getElem?_range hl]
      show some (ad (k + 1), jb_e G φ ad M (k + 1)) = some (ad (k + 1), jb_e G φ ad M' (k + 1))
      rw [jb_e_same (M := M) (M' := M') (fun i => hne (k + 1) i (by omega) (by omega))]
    · rw [List.getElem?_eq_none (by rw [List.length_range]; omega)]
      rfl
/-! numbers -/
def jb_ok : ja_V → Prop
  | .inl x => -2147483648 ≤ x ∧ x < 2147483648
  | .inr (.inl x) => -9223372036854775808 ≤ x ∧ x < 9223372036854775808
  | .inr (.inr _) => True
theorem jn_i {x : Int} (h : -2147483648 ≤ x ∧ x < 2147483648) : (Int32.ofInt x).toInt = x := Int32.toInt_ofInt_of_le (by omega) (by omega)
theorem jn_l {x : Int} (h : -9223372036854775808 ≤ x ∧ x < 9223372036854775808) : (Int64.ofInt x).toInt = x := Int64.toInt_ofInt_of_le (by omega) (by omega)
theorem jn_back (z : Int32) : Int32.ofInt z.toInt = z := by simp
theorem jn_backl (z : Int64) : Int64.ofInt z.toInt = z := by simp
theorem jn_r (z : Int32) : -2147483648 ≤ z.toInt ∧ z.toInt < 2147483648 := ⟨by have := z.le_toInt; omega, by have := z.toInt_lt; omega⟩
theorem jn_rl (z : Int64) : -9223372036854775808 ≤ z.toInt ∧ z.toInt < 9223372036854775808 := ⟨by have := z.le_toInt; omega, by have := z.toInt_lt; omega⟩
theorem ja_w_eq (x : Int) : ja_w x = (x + 2147483648) % 4294967296 - 2147483648 := by
  unfold ja_w Int.bmod
  simp only []
  split <;> omega
theorem ja_W_eq (x : Int) : ja_W x = (x + 9223372036854775808) % 18446744073709551616 - 9223372036854775808 := by
  unfold ja_W Int.bmod
  simp only []
  split <;> omega
theorem ja_w_id {x : Int} (h1 : -2147483648 ≤ x) (h2 : x < 2147483648) : ja_w x = x := by rw [ja_w_eq]; omega
theorem ja_W_id {x : Int} (h1 : -9223372036854775808 ≤ x) (h2 : x < 9223372036854775808) : ja_W x = x := by rw [ja_W_eq]; omega
theorem jn_w (x : Int) : -2147483648 ≤ ja_w x ∧ ja_w x < 2147483648 := by rw [ja_w_eq]; omega
theorem jn_W (x : Int) : -9223372036854775808 ≤ ja_W x ∧ ja_W x < 9223372036854775808 := by rw [ja_W_eq]; omega
theorem jn_add (x y : Int) : Int32.ofInt (ja_w (x + y)) = Int32.ofInt x + Int32.ofInt y := by
  apply Int32.toInt_inj.mp
  rw [jn_i (jn_w _), Int32.toInt_add, Int32.toInt_ofInt, Int32.toInt_ofInt]
  unfold ja_w
  simp [Int32.size]
theorem jn_sub (x y : Int) : Int32.ofInt (ja_w (x - y)) = Int32.ofInt x - Int32.ofInt y := by
  apply Int32.toInt_inj.mp
  rw [jn_i (jn_w _), Int32.toInt_sub, Int32.toInt_ofInt, Int32.toInt_ofInt]
  unfold ja_w
  simp [Int32.size]
theorem jn_mul (x y : Int) : Int32.ofInt (ja_w (x * y)) = Int32.ofInt x * Int32.ofInt y := by
  apply Int32.toInt_inj.mp
  rw [jn_i (jn_w _), Int32.toInt_mul, Int32.toInt_ofInt, Int32.toInt_ofInt]
  unfold ja_w
  simp [Int32.size]
theorem jn_neg (x : Int) : Int32.ofInt (ja_w (-x)) = -Int32.ofInt x := by
  apply Int32.toInt_inj.mp
  rw [jn_i (jn_w _), Int32.toInt_neg, Int32.toInt_ofInt]
  unfold ja_w
  simp [Int32.size]
theorem jn_ladd (x y : Int) : Int64.ofInt (ja_W (x + y)) = Int64.ofInt x + Int64.ofInt y := by
  apply Int64.toInt_inj.mp
  rw [jn_l (jn_W _), Int64.toInt_add, Int64.toInt_ofInt, Int64.toInt_ofInt]
  unfold ja_W
  simp [Int64.size]
theorem jn_lsub (x y : Int) : Int64.ofInt (ja_W (x - y)) = Int64.ofInt x - Int64.ofInt y := by
  apply Int64.toInt_inj.mp
  rw [jn_l (jn_W _), Int64.toInt_sub, Int64.toInt_ofInt, Int64.toInt_ofInt]
  unfold ja_W
  simp [Int64.size]
theorem jn_lmul (x y : Int) : Int64.ofInt (ja_W (x * y)) = Int64.ofInt x * Int64.ofInt y := by
  apply Int64.toInt_inj.mp
  rw [jn_l (jn_W _), Int64.toInt_mul, Int64.toInt_ofInt, Int64.toInt_ofInt]
  unfold ja_W
  simp [Int64.size]
theorem jn_div {x y : Int} (hx : -2147483648 ≤ x ∧ x < 2147483648) (hy : -2147483648 ≤ y ∧ y < 2147483648) : Int32.ofInt (ja_w (x.tdiv y)) = Int32.ofInt x / Int32.ofInt y := by
  apply Int32.toInt_inj.mp
  rw [jn_i (jn_w _), Int32.toInt_div, jn_i hx, jn_i hy]
  unfold ja_w
  rfl
theorem jn_mod {x y : Int} (hx : -2147483648 ≤ x ∧ x < 2147483648) (hy : -2147483648 ≤ y ∧ y < 2147483648) : (Int32.ofInt x % Int32.ofInt y).toInt = x.tmod y := by
  rw [Int32.toInt_mod, jn_i hx, jn_i hy]
theorem jn_ldiv {x y : Int} (hx : -9223372036854775808 ≤ x ∧ x < 9223372036854775808) (hy : -9223372036854775808 ≤ y ∧ y < 9223372036854775808) : Int64.ofInt (ja_W (x.tdiv y)) = Int64.ofInt x / Int64.ofInt y := by
  apply Int64.toInt_inj.mp
  rw [jn_l (jn_W _), Int64.toInt_div, jn_l hx, jn_l hy]
  unfold ja_W
  rfl
theorem jn_lmod {x y : Int} (hx : -9223372036854775808 ≤ x ∧ x < 9223372036854775808) (hy : -9223372036854775808 ≤ y ∧ y < 9223372036854775808) : (Int64.ofInt x % Int64.ofInt y).toInt = x.tmod y := by
  rw [Int64.toInt_mod, jn_l hx, jn_l hy]
theorem jn_i2l {x : Int} (hx : -2147483648 ≤ x ∧ x < 2147483648) : (Int32.ofInt x).toInt64 = Int64.ofInt x := by
  apply Int64.toInt_inj.mp
  rw [Int32.toInt_toInt64, jn_i hx, jn_l (by omega)]
theorem jn_l2i {x : Int} (hx : -9223372036854775808 ≤ x ∧ x < 9223372036854775808) : (Int64.ofInt x).toInt32 = Int32.ofInt (ja_w x) := by
  apply Int32.toInt_inj.mp
  rw [Int64.toInt_toInt32, jn_l hx, jn_i (jn_w _)]
  rfl
theorem jn_eq {x y : Int} (hx : -2147483648 ≤ x ∧ x < 2147483648) (hy : -2147483648 ≤ y ∧ y < 2147483648) : Int32.ofInt x = Int32.ofInt y ↔ x = y := by
  constructor
  · intro h
    have := congrArg Int32.toInt h
    rwa [jn_i hx, jn_i hy] at this
  · intro h
    rw [h]
theorem jn_lt {x y : Int} (hx : -2147483648 ≤ x ∧ x < 2147483648) (hy : -2147483648 ≤ y ∧ y < 2147483648) : Int32.ofInt x < Int32.ofInt y ↔ x < y := by
  rw [Int32.lt_iff_toInt_lt, jn_i hx, jn_i hy]
theorem jn_le {x y : Int} (hx : -2147483648 ≤ x ∧ x < 2147483648) (hy : -2147483648 ≤ y ∧ y < 2147483648) : Int32.ofInt x ≤ Int32.ofInt y ↔ x ≤ y := by
  rw [Int32.le_iff_toInt_le, jn_i hx, jn_i hy]
theorem jn_nat (n : Nat) : Int32.ofInt (n : Int) = nI n := by
  unfold nI
  rfl
theorem jn_in {j : Int} {n : Nat} (h0 : 0 ≤ j) (h1 : j < (n : Int)) (h2 : n ≤ 5000) : vp_in (Int32.ofInt j) n ∧ (Int32.ofInt j).toNatClampNeg = j.toNat := by
  obtain ⟨k, rfl⟩ : ∃ k : Nat, j = (k : Int) := ⟨j.toNat, by omega⟩
  rw [jn_nat, Int.toNat_natCast]
  exact ⟨nI_in (by omega) (by omega), nI_clamp (by omega)⟩
end
section
abbrev jm_NM : Nat := 302
abbrev jm_PL : Nat := 38
/-! WHAT EACH ROW OF THE SMALL MACHINE IS IN THE REAL CODE (checked by program below) -/
abbrev jc_F : Type := Nat → Nat → ja_I → Bool
def jc_d (z i : Nat) (ins : Instr) (n : Nat) : Bool := decide (decode (jm_b z) (jm_pc z i) = .ok (ins, n)) && Nat.beq (jm_pc z (i + 1)) (jm_pc z i + n)
def jc_r (z i : Nat) (ins : Instr) : Bool := decide (decode (jm_b z) (jm_pc z i) = .ok (ins, 1))
theorem jc_d_of {z i n : Nat} {ins : Instr} (h : jc_d z i ins n = true) : decode (jm_b z) (jm_pc z i) = .ok (ins, n) ∧ jm_pc z (i + 1) = jm_pc z i + n := by
  unfold jc_d at h
  rw [Bool.and_eq_true] at h
  exact ⟨of_decide_eq_true h.1, Nat.eq_of_beq_eq_true h.2⟩
def jc_off (z i t : Nat) : Int := (jm_pc z t : Int) - (jm_pc z i : Int)
theorem jc_off_eq (z i t : Nat) : (jm_pc z i : Int) + jc_off z i t = (jm_pc z t : Int) := by unfold jc_off; omega
def jc_load : jc_F := fun z i a =>
  (Nat.beq a.2.2.1 0 && (jc_d z i (.iload a.2.1) 2 || (Nat.blt a.2.1 4 && jc_d z i (.iload_n (Fin.ofNat 4 a.2.1)) 1))) ||
  ((Nat.beq a.2.2.1 1 && (jc_d z i (.lload a.2.1) 2 || (Nat.blt a.2.1 4 && jc_d z i (.lload_n (Fin.ofNat 4 a.2.1)) 1))) ||
  (Nat.beq a.2.2.1 2 && (jc_d z i (.aload a.2.1) 2 || (Nat.blt a.2.1 4 && jc_d z i (.aload_n (Fin.ofNat 4 a.2.1)) 1))))
def jc_ipush : jc_F := fun z i a => (decide (-2147483648 ≤ a.2.2.2.1) && decide (a.2.2.2.1 < 2147483648)) && (jc_d z i (.iconst a.2.2.2.1) 1 || ((jc_d z i (.bipush a.2.2.2.1) 2 && decide ((Int8.ofInt a.2.2.2.1).toInt32 = Int32.ofInt a.2.2.2.1)) || ((jc_d z i (.sipush a.2.2.2.1) 3 && decide ((Int16.ofInt a.2.2.2.1).toInt32 = Int32.ofInt a.2.2.2.1)) ||
  (jm_ks.any (fun q => Nat.beq q.1 (jm_own z) && (Nat.beq q.2.1 a.2.1 && decide (q.2.2.1 = a.2.2.2.1))) && (jc_d z i (.ldc a.2.1) 2 || jc_d z i (.ldc_w a.2.1) 3)))))
def jc_lpush : jc_F := fun z i a => (decide (-9223372036854775808 ≤ a.2.2.2.1) && decide (a.2.2.2.1 < 9223372036854775808)) && ((jc_d z i (.lconst (Fin.ofNat 2 a.2.2.2.1.toNat)) 1 && decide (Int64.ofNat (Fin.ofNat 2 a.2.2.2.1.toNat : Fin 2).val = Int64.ofInt a.2.2.2.1)) ||
  (jm_kl.any (fun q => Nat.beq q.1 (jm_own z) && (Nat.beq q.2.1 a.2.1 && decide (q.2.2.1 = a.2.2.2.1))) && jc_d z i (.ldc2_w a.2.1) 3))
def jc_st1 : jc_F := fun z i a =>
  (Nat.beq a.2.2.1 0 && (jc_d z i (.istore a.2.1) 2 || (Nat.blt a.2.1 4 && jc_d z i (.istore_n (Fin.ofNat 4 a.2.1)) 1))) ||
  (Nat.beq a.2.2.1 2 && (jc_d z i (.astore a.2.1) 2 || (Nat.blt a.2.1 4 && jc_d z i (.astore_n (Fin.ofNat 4 a.2.1)) 1)))
def jc_st2 : jc_F := fun z i a => jc_d z i (.lstore a.2.1) 2 || (Nat.blt a.2.1 4 && jc_d z i (.lstore_n (Fin.ofNat 4 a.2.1)) 1)
def jc_iinc : jc_F := fun z i a => jc_d z i (.iinc a.2.1 a.2.2.2.1) 3
def jc_ibI : List Instr := [.iadd, .isub, .imul, .iand, .ior, .ixor, .ishl, .ishr, .iushr]
def jc_ibin : jc_F := fun z i a => Nat.blt a.2.1 9 && jc_d z i (ja_nth jc_ibI a.2.1 .nop) 1
def jc_idiv : jc_F := fun z i _ => jc_d z i .idiv 1
def jc_irem : jc_F := fun z i _ => jc_d z i .irem 1
def jc_ineg : jc_F := fun z i _ => jc_d z i .ineg 1
def jc_lbI : List Instr := [.ladd, .lsub, .lmul, .land, .lor]
def jc_lbin : jc_F := fun z i a => Nat.blt a.2.1 5 && jc_d z i (ja_nth jc_lbI a.2.1 .nop) 1
def jc_ldiv : jc_F := fun z i _ => jc_d z i .ldiv 1
def jc_lrem : jc_F := fun z i _ => jc_d z i .lrem 1
def jc_lshl : jc_F := fun z i _ => jc_d z i .lshl 1
def jc_lush : jc_F := fun z i _ => jc_d z i .lushr 1
def jc_i2l : jc_F := fun z i _ => jc_d z i .i2l 1
def jc_l2i : jc_F := fun z i _ => jc_d z i .l2i 1
def jc_lcmp : jc_F := fun z i _ => jc_d z i .lcmp 1
def jc_icI (a : Nat) (o : Int) : Instr := match a with
  | 0 => .if_icmp .eq o
  | 1 => .if_icmp .ne o
  | 2 => .if_icmp .lt o
  | 3 => .if_icmp .ge o
  | 4 => .if_icmp .gt o
  | _ => .if_icmp .le o
def jc_izI (a : Nat) (o : Int) : Instr := match a with
  | 0 => .ifCond .eq o
  | 1 => .ifCond .ne o
  | 2 => .ifCond .lt o
  | 3 => .ifCond .ge o
  | 4 => .ifCond .gt o
  | _ => .ifCond .le o
def jc_icmp : jc_F := fun z i a => jc_d z i (jc_icI a.2.1 (jc_off z i a.2.2.1)) 3
def jc_ifz : jc_F := fun z i a => jc_d z i (jc_izI a.2.1 (jc_off z i a.2.2.1)) 3
def jc_ifnull : jc_F := fun z i a => jc_d z i (.ifnull (jc_off z i a.2.2.1)) 3
def jc_ifnon : jc_F := fun z i a => jc_d z i (.ifnonnull (jc_off z i a.2.2.1)) 3
def jc_goto : jc_F := fun z i a => decide (decode (jm_b z) (jm_pc z i) = .ok (.goto (jc_off z i a.2.2.1), 3))
/-- the rows of a table: keys lo, lo + 1, .. -/
def jc_tab (z i : Nat) : Int → List Int → List (Int × Nat) → Bool
  | _, [], [] => true
  | k, o :: os, (x, t) :: ts => decide (x = k) && (decide (o = jc_off z i t) && jc_tab z i (k + 1) os ts)
  | _, _, _ => false
def jc_lok (z i : Nat) : List (Int × Int) → List (Int × Nat) → Bool
  | [], [] => true
  | (k, o) :: os, (x, t) :: ts => decide (x = k) && (decide (o = jc_off z i t) && jc_lok z i os ts)
  | _, _ => false
def jc_switch : jc_F := fun z i a => match decode (jm_b z) (jm_pc z i) with
  | .ok (.tableswitch d lo hi offs, _) => decide (d = jc_off z i a.2.2.1) && (decide (hi = lo + (offs.toList.length : Int) - 1) && jc_tab z i lo offs.toList a.2.2.2.2.1)
  | .ok (.lookupswitch d ps, _) => decide (d = jc_off z i a.2.2.1) && ((ps.toList.zip (ps.toList.drop 1)).all (fun (a, next) => a.1 < next.1) && jc_lok z i ps.toList a.2.2.2.2.1)
  | _ => false
def jc_fld (z : Nat) (a : ja_I) : Bool := Nat.blt a.2.1 13 && (Nat.blt a.2.2.1 (jm_N a.2.1) && jm_fl.any (fun q => Nat.beq q.1 (jm_own z) && (Nat.beq q.2.1 a.2.2.2.1.toNat && (Nat.beq q.2.2.1 a.2.1 && Nat.beq q.2.2.2.1 a.2.2.1))))
def jc_getI : jc_F := fun z i a => jc_d z i (.getfield a.2.2.2.1.toNat) 3 && (jc_fld z a && Nat.blt (ja_ft a.2.1 a.2.2.1) 2)
def jc_getL : jc_F := fun z i a => jc_d z i (.getfield a.2.2.2.1.toNat) 3 && (jc_fld z a && Nat.beq (ja_ft a.2.1 a.2.2.1) 2)
def jc_getR : jc_F := fun z i a => jc_d z i (.getfield a.2.2.2.1.toNat) 3 && (jc_fld z a && Nat.beq (ja_ft a.2.1 a.2.2.1) 3)
def jc_putI : jc_F := fun z i a => jc_d z i (.putfield a.2.2.2.1.toNat) 3 && (jc_fld z a && (Nat.beq (ja_ft a.2.1 a.2.2.1) 0 && !(jm_T a.2.1 a.2.2.1).2.2.2))
def jc_putZ : jc_F := fun z i a => jc_d z i (.putfield a.2.2.2.1.toNat) 3 && (jc_fld z a && (Nat.beq (ja_ft a.2.1 a.2.2.1) 1 && !(jm_T a.2.1 a.2.2.1).2.2.2))
def jc_putL : jc_F := fun z i a => jc_d z i (.putfield a.2.2.2.1.toNat) 3 && (jc_fld z a && (Nat.beq (ja_ft a.2.1 a.2.2.1) 2 && !(jm_T a.2.1 a.2.2.1).2.2.2))
def jc_putR : jc_F := fun z i a => jc_d z i (.putfield a.2.2.2.1.toNat) 3 && (jc_fld z a && (Nat.beq (ja_ft a.2.1 a.2.2.1) 3 && (!(jm_T a.2.1 a.2.2.1).2.2.2 || (decide ((jm_nm z).name = "<init>") && Nat.beq a.2.1 (jm_own z)))))
def jc_static : jc_F := fun z i a => jc_d z i (.getstatic a.2.2.2.1.toNat) 3 && jm_sl.any (fun q => Nat.beq q.1 (jm_own z) && (Nat.beq q.2.1 a.2.2.2.1.toNat && Nat.beq q.2.2.1 a.2.1))
def jc_iald : jc_F := fun z i _ => jc_d z i .iaload 1
def jc_bald : jc_F := fun z i _ => jc_d z i .baload 1
def jc_lald : jc_F := fun z i _ => jc_d z i .laload 1
def jc_aald : jc_F := fun z i _ => jc_d z i .aaload 1
def jc_iast : jc_F := fun z i _ => jc_d z i .iastore 1
def jc_bast : jc_F := fun z i _ => jc_d z i .bastore 1
def jc_last : jc_F := fun z i _ => jc_d z i .lastore 1
def jc_alen : jc_F := fun z i _ => jc_d z i .arraylength 1
def jc_new : jc_F := fun z i a => jc_d z i (.new a.2.2.2.1.toNat) 3 && (Nat.blt a.2.1 13 && (Nat.beq a.2.2.1 (jm_N a.2.1) && jm_cls.any (fun q => Nat.beq q.1 (jm_own z) && (Nat.beq q.2.1 a.2.2.2.1.toNat && Nat.beq q.2.2.1 a.2.1))))
def jc_newa : jc_F := fun z i a => (Nat.beq a.2.1 100 && jc_d z i (.newarray .int) 2) || ((Nat.beq a.2.1 101 && jc_d z i (.newarray .boolean) 2) || (Nat.beq a.2.1 102 && jc_d z i (.newarray .long) 2))
def jc_newm : jc_F := fun z i a => jc_d z i (.multianewarray a.2.2.2.1.toNat 2) 4 && jm_c2.any (fun q => Nat.beq q.1 (jm_own z) && Nat.beq q.2.1 a.2.2.2.1.toNat)
def jc_idx (a : ja_I) : Nat := match a.2.2.2.2.1 with
  | (k, _) :: _ => k.toNat
  | [] => 0
def jc_npar (y n : Nat) : Bool := decide ((parseMethodDescriptor (jm_nm y).desc).map (fun d => d.parameters.length) = some n)
def jc_callV : jc_F := fun z i a => jc_d z i (.invokevirtual (jc_idx a)) 3 && (Nat.blt a.2.1 jm_NM && (Nat.beq (jm_mw a.2.1).1 0 && (decide ((jm_nm a.2.1).name ≠ "<init>") && (Nat.blt (ja_mcls a.2.1) 13 && (Nat.beq (ja_mcls a.2.1) (jm_own a.2.1) && (jc_npar a.2.1 a.2.2.1 && jm_ml.any (fun q => Nat.beq q.1 (jm_own z) && (Nat.beq q.2.1 (jc_idx a) && Nat.beq q.2.2.1 a.2.1))))))))
def jc_callS : jc_F := fun z i a => jc_d z i (.invokestatic (jc_idx a)) 3 && (Nat.blt a.2.1 jm_NM && (Nat.beq (jm_mw a.2.1).1 1 && (jc_npar a.2.1 a.2.2.1 && jm_ml.any (fun q => Nat.beq q.1 (jm_own z) && (Nat.beq q.2.1 (jc_idx a) && Nat.beq q.2.2.1 a.2.1)))))
def jc_callI : jc_F := fun z i a => jc_d z i (.invokespecial (jc_idx a)) 3 && (Nat.blt a.2.1 jm_NM && (Nat.beq (jm_mw a.2.1).1 0 && (decide ((jm_nm a.2.1).name = "<init>") && (decide (jm_rt a.2.1 = none) && (jc_npar a.2.1 a.2.2.1 && (jm_ml.any (fun q => Nat.beq q.1 (jm_own z) && (Nat.beq q.2.1 (jc_idx a) && Nat.beq q.2.2.1 a.2.1)) || jm_ne.any (fun q => Nat.beq q.1 (jm_own z) && (Nat.beq q.2.1 (jc_idx a) && Nat.beq q.2.2.1 a.2.1))))))))
def jc_objI : jc_F := fun z i a => jc_d z i (.invokespecial a.2.2.2.1.toNat) 3 && jm_oi.any (fun q => Nat.beq q.1 (jm_own z) && Nat.beq q.2.1 a.2.2.2.1.toNat)
def jc_iret : jc_F := fun z i _ => jc_r z i .ireturn && decide (jm_rt z = some .int)
def jc_zret : jc_F := fun z i _ => jc_r z i .ireturn && decide (jm_rt z = some .boolean)
def jc_lret : jc_F := fun z i _ => jc_r z i .lreturn && decide (jm_rt z = some .long)
def jc_isR : Option FieldType → Bool
  | some (.object _) => true
  | some (.array _) => true
  | _ => false
def jc_aret : jc_F := fun z i _ => jc_r z i .areturn && jc_isR (jm_rt z)
def jc_vret : jc_F := fun z i _ => jc_r z i .return_ && decide (jm_rt z = none)
def jc_dup : jc_F := fun z i _ => jc_d z i .dup 1
def jc_dup2 : jc_F := fun z i _ => jc_d z i .dup2 1
def jc_pop : jc_F := fun z i _ => jc_d z i .pop 1
def jc_copy : jc_F := fun z i a => jc_d z i (.invokestatic a.2.2.2.1.toNat) 3 && jm_ac.any (fun q => Nat.beq q.1 (jm_own z) && Nat.beq q.2.1 a.2.2.2.1.toNat)
def jc_place : jc_F := fun z i a => jc_d z i (.invokestatic a.2.2.2.1.toNat) 3 && (Nat.beq z jm_NM && Nat.beq a.2.2.2.1.toNat jm_PL)
def jc_mth (k : Nat) : jc_F := fun z i a => jc_d z i (.invokestatic a.2.2.2.1.toNat) 3 && jm_mt.any (fun q => Nat.beq q.1 (jm_own z) && (Nat.beq q.2.1 a.2.2.2.1.toNat && Nat.beq q.2.2.1 k))
def jc_s : List jc_F := [jc_load, jc_ipush, jc_lpush, jc_st1, jc_st2, jc_iinc, jc_ibin, jc_idiv, jc_irem, jc_ineg, jc_lbin, jc_ldiv, jc_lrem, jc_lshl, jc_lush, jc_i2l, jc_l2i, jc_lcmp, jc_icmp, jc_ifz, jc_ifnull, jc_ifnon, jc_goto, jc_switch, jc_getI, jc_getL, jc_getR, jc_putI, jc_putZ, jc_putL, jc_putR, jc_static, jc_iald, jc_bald, jc_lald, jc_aald, jc_iast, jc_bast, jc_last, jc_alen, jc_new, jc_newa, jc_newm, jc_callV, jc_callS, jc_callI, jc_objI, jc_iret, jc_zret, jc_lret, jc_aret, jc_vret, jc_dup, jc_dup2, jc_pop, jc_copy, jc_place, (jc_mth 0), (jc_mth 1), (jc_mth 2), (jc_mth 3), (jc_mth 4)]
def jc_row (z i : Nat) (a : ja_I) : Bool := ja_nth jc_s a.1 (fun _ _ _ => false) z i a
def jc_rows (z : Nat) : Nat → List ja_I → Bool
  | _, [] => true
  | i, a :: r => jc_row z i a && jc_rows z (i + 1) r
theorem jc_rows_of {z : Nat} : ∀ (c : List ja_I) (i k : Nat), jc_rows z i c = true → k < c.length → jc_row z (i + k) (ja_nth c k ja_row0) = true
  | [], _, _, _, h => by simp at h
  | a :: r, i, 0, h, _ => by
    unfold jc_rows at h
    rw [Bool.and_eq_true] at h
    exact h.1
  | a :: r, i, k + 1, h, hk => by
    unfold jc_rows at h
    rw [Bool.and_eq_true] at h
    have := jc_rows_of r (i + 1) k h.2 (by simpa using hk)
    rw [show i + (k + 1) = i + 1 + k by omega]
    exact this
theorem ja_nth_out {α : Type} : ∀ (c : List α) (k : Nat) (d : α), c.length ≤ k → ja_nth c k d = d
  | [], _, _, _ => rfl
  | _ :: _, 0, _, h => by simp at h
  | _ :: r, k + 1, d, h => ja_nth_out r k d (by simpa using h)
end
section
set_option maxRecDepth 100000 in
theorem jc_m0 : jc_rows 0 0 k_X_init = true := by decide +kernel
set_option maxRecDepth 100000 in
theorem jc_m1 : jc_rows 1 0 k_Tape_init = true := by decide +kernel
set_option maxRecDepth 100000 in
theorem jc_m2 : jc_rows 2 0 k_HuntReader_init = true := by decide +kernel
set_option maxRecDepth 100000 in
theorem jc_m3 : jc_rows 3 0 k_Hunt_init = true := by decide +kernel
set_option maxRecDepth 100000 in
theorem jc_m4 : jc_rows 4 0 k_WorthReader_init = true := by decide +kernel
set_option maxRecDepth 100000 in
theorem jc_m5 : jc_rows 5 0 k_Worths_init = true := by decide +kernel
set_option maxRecDepth 100000 in
theorem jc_m6 : jc_rows 6 0 k_Table_init = true := by decide +kernel
set_option maxRecDepth 100000 in
theorem jc_m7 : jc_rows 7 0 k_Past_init = true := by decide +kernel
set_option maxRecDepth 100000 in
theorem jc_m8 : jc_rows 8 0 k_Clock_init = true := by decide +kernel
set_option maxRecDepth 100000 in
theorem jc_m9 : jc_rows 9 0 k_OrderSearch_init = true := by decide +kernel
set_option maxRecDepth 100000 in
theorem jc_m10 : jc_rows 10 0 k_Finds_init = true := by decide +kernel
set_option maxRecDepth 100000 in
theorem jc_m11 : jc_rows 11 0 k_HelperCount_init = true := by decide +kernel
set_option maxRecDepth 100000 in
theorem jc_m12 : jc_rows 12 0 k_X_feed = true := by decide +kernel
set_option maxRecDepth 100000 in
theorem jc_m13 : jc_rows 13 0 k_Tape_bytesIn = true := by decide +kernel
set_option maxRecDepth 100000 in
theorem jc_m14 : jc_rows 14 0 k_Tape_hasRoom = true := by decide +kernel
set_option maxRecDepth 100000 in
theorem jc_m15 : jc_rows 15 0 k_Tape_add = true := by decide +kernel
set_option maxRecDepth 100000 in
theorem jc_m16 : jc_rows 16 0 k_Tape_length = true := by decide +kernel
set_option maxRecDepth 100000 in
theorem jc_m17 : jc_rows 17 0 k_X_end = true := by decide +kernel
set_option maxRecDepth 100000 in
theorem jc_m18 : jc_rows 18 0 k_Tape_cut = true := by decide +kernel
set_option maxRecDepth 100000 in
theorem jc_m19 : jc_rows 19 0 k_X_fault = true := by decide +kernel
set_option maxRecDepth 100000 in
theorem jc_m20 : jc_rows 20 0 k_HuntReader_read = true := by decide +kernel
set_option maxRecDepth 100000 in
theorem jc_m21 : jc_rows 21 0 k_Tape_rewind = true := by decide +kernel
set_option maxRecDepth 100000 in
theorem jc_m22 : jc_rows 22 0 k_Hunt_clear = true := by decide +kernel
set_option maxRecDepth 100000 in
theorem jc_m23 : jc_rows 23 0 k_HuntReader_readClause = true := by decide +kernel
set_option maxRecDepth 100000 in
theorem jc_m24 : jc_rows 24 0 k_Tape_nextSign = true := by decide +kernel
set_option maxRecDepth 100000 in
theorem jc_m25 : jc_rows 25 0 k_HuntReader_addClause = true := by decide +kernel
set_option maxRecDepth 100000 in
theorem jc_m26 : jc_rows 26 0 k_Hunt_addPlace = true := by decide +kernel
set_option maxRecDepth 100000 in
theorem jc_m27 : jc_rows 27 0 k_Hunt_addBand = true := by decide +kernel
set_option maxRecDepth 100000 in
theorem jc_m28 : jc_rows 28 0 k_Tape_pass = true := by decide +kernel
set_option maxRecDepth 100000 in
theorem jc_m29 : jc_rows 29 0 k_HuntReader_readItems = true := by decide +kernel
set_option maxRecDepth 100000 in
theorem jc_m30 : jc_rows 30 0 k_HuntReader_itemOf = true := by decide +kernel
set_option maxRecDepth 100000 in
theorem jc_m31 : jc_rows 31 0 k_HuntReader_readValue = true := by decide +kernel
set_option maxRecDepth 100000 in
theorem jc_m32 : jc_rows 32 0 k_Tape_takeNumber = true := by decide +kernel
set_option maxRecDepth 100000 in
theorem jc_m33 : jc_rows 33 0 k_Tape_isDigit = true := by decide +kernel
set_option maxRecDepth 100000 in
theorem jc_m34 : jc_rows 34 0 k_Tape_stepBack = true := by decide +kernel
set_option maxRecDepth 100000 in
theorem jc_m35 : jc_rows 35 0 k_Hunt_put = true := by decide +kernel
set_option maxRecDepth 100000 in
theorem jc_m36 : jc_rows 36 0 k_Tape_position = true := by decide +kernel
set_option maxRecDepth 100000 in
theorem jc_m37 : jc_rows 37 0 k_Hunt_isWhole = true := by decide +kernel
set_option maxRecDepth 100000 in
theorem jc_m38 : jc_rows 38 0 k_Tape_take = true := by decide +kernel
set_option maxRecDepth 100000 in
theorem jc_m39 : jc_rows 39 0 k_WorthReader_read = true := by decide +kernel
set_option maxRecDepth 100000 in
theorem jc_m40 : jc_rows 40 0 k_WorthReader_readClause = true := by decide +kernel
set_option maxRecDepth 100000 in
theorem jc_m41 : jc_rows 41 0 k_WorthReader_readCondition = true := by decide +kernel
set_option maxRecDepth 100000 in
theorem jc_m42 : jc_rows 42 0 k_WorthReader_readTruth = true := by decide +kernel
set_option maxRecDepth 100000 in
theorem jc_m43 : jc_rows 43 0 k_WorthReader_readUnit = true := by decide +kernel
set_option maxRecDepth 100000 in
theorem jc_m44 : jc_rows 44 0 k_WorthReader_readSum = true := by decide +kernel
set_option maxRecDepth 100000 in
theorem jc_m45 : jc_rows 45 0 k_WorthReader_readTerm = true := by decide +kernel
set_option maxRecDepth 100000 in
theorem jc_m46 : jc_rows 46 0 k_WorthReader_readAtom = true := by decide +kernel
set_option maxRecDepth 100000 in
theorem jc_m47 : jc_rows 47 0 k_Worths_letterOf = true := by decide +kernel
set_option maxRecDepth 100000 in
theorem jc_m48 : jc_rows 48 0 k_WorthReader_write = true := by decide +kernel
set_option maxRecDepth 100000 in
theorem jc_m49 : jc_rows 49 0 k_WorthReader_readComparison = true := by decide +kernel
set_option maxRecDepth 100000 in
theorem jc_m50 : jc_rows 50 0 k_WorthReader_isComparison = true := by decide +kernel
set_option maxRecDepth 100000 in
theorem jc_m51 : jc_rows 51 0 k_WorthReader_readMoreUnits = true := by decide +kernel
set_option maxRecDepth 100000 in
theorem jc_m52 : jc_rows 52 0 k_WorthReader_readMoreTruths = true := by decide +kernel
set_option maxRecDepth 100000 in
theorem jc_m53 : jc_rows 53 0 k_WorthReader_readWhatFollowsCondition = true := by decide +kernel
set_option maxRecDepth 100000 in
theorem jc_m54 : jc_rows 54 0 k_X_text = true := by decide +kernel
set_option maxRecDepth 100000 in
theorem jc_m55 : jc_rows 55 0 k_HuntReader_draft = true := by decide +kernel
set_option maxRecDepth 100000 in
theorem jc_m56 : jc_rows 56 0 k_Hunt_copyFrom = true := by decide +kernel
set_option maxRecDepth 100000 in
theorem jc_m57 : jc_rows 57 0 k_Table_reset = true := by decide +kernel
set_option maxRecDepth 100000 in
theorem jc_m58 : jc_rows 58 0 k_Hunt_places = true := by decide +kernel
set_option maxRecDepth 100000 in
theorem jc_m59 : jc_rows 59 0 k_Hunt_bands = true := by decide +kernel
set_option maxRecDepth 100000 in
theorem jc_m60 : jc_rows 60 0 k_Past_forget = true := by decide +kernel
set_option maxRecDepth 100000 in
theorem jc_m61 : jc_rows 61 0 k_Finds_forget = true := by decide +kernel
set_option maxRecDepth 100000 in
theorem jc_m62 : jc_rows 62 0 k_Worths_hasRoom = true := by decide +kernel
set_option maxRecDepth 100000 in
theorem jc_m63 : jc_rows 63 0 k_WorthReader_code = true := by decide +kernel
set_option maxRecDepth 100000 in
theorem jc_m64 : jc_rows 64 0 k_WorthReader_size = true := by decide +kernel
set_option maxRecDepth 100000 in
theorem jc_m65 : jc_rows 65 0 k_Worths_keep = true := by decide +kernel
set_option maxRecDepth 100000 in
theorem jc_m66 : jc_rows 66 0 k_X_band = true := by decide +kernel
set_option maxRecDepth 100000 in
theorem jc_m67 : jc_rows 67 0 k_Hunt_hasBand = true := by decide +kernel
set_option maxRecDepth 100000 in
theorem jc_m68 : jc_rows 68 0 k_Hunt_slow = true := by decide +kernel
set_option maxRecDepth 100000 in
theorem jc_m69 : jc_rows 69 0 k_Table_digitsOf = true := by decide +kernel
set_option maxRecDepth 100000 in
theorem jc_m70 : jc_rows 70 0 k_Table_placeOf = true := by decide +kernel
set_option maxRecDepth 100000 in
theorem jc_m71 : jc_rows 71 0 k_Hunt_hasPlace = true := by decide +kernel
set_option maxRecDepth 100000 in
theorem jc_m72 : jc_rows 72 0 k_Table_startOf = true := by decide +kernel
set_option maxRecDepth 100000 in
theorem jc_m73 : jc_rows 73 0 k_X_order = true := by decide +kernel
set_option maxRecDepth 100000 in
theorem jc_m74 : jc_rows 74 0 k_Table_isOrder = true := by decide +kernel
set_option maxRecDepth 100000 in
theorem jc_m75 : jc_rows 75 0 k_Past_remember = true := by decide +kernel
set_option maxRecDepth 100000 in
theorem jc_m76 : jc_rows 76 0 k_Past_keepOrders = true := by decide +kernel
set_option maxRecDepth 100000 in
theorem jc_m77 : jc_rows 77 0 k_Table_putOrder = true := by decide +kernel
set_option maxRecDepth 100000 in
theorem jc_m78 : jc_rows 78 0 k_Past_acts = true := by decide +kernel
set_option maxRecDepth 100000 in
theorem jc_m79 : jc_rows 79 0 k_X_start = true := by decide +kernel
set_option maxRecDepth 100000 in
theorem jc_m80 : jc_rows 80 0 k_Table_putStart = true := by decide +kernel
set_option maxRecDepth 100000 in
theorem jc_m81 : jc_rows 81 0 k_X_worth = true := by decide +kernel
set_option maxRecDepth 100000 in
theorem jc_m82 : jc_rows 82 0 k_Worths_hold = true := by decide +kernel
set_option maxRecDepth 100000 in
theorem jc_m83 : jc_rows 83 0 k_X_undo = true := by decide +kernel
set_option maxRecDepth 100000 in
theorem jc_m84 : jc_rows 84 0 k_Past_undoLatest = true := by decide +kernel
set_option maxRecDepth 100000 in
theorem jc_m85 : jc_rows 85 0 k_Past_bringOrders = true := by decide +kernel
set_option maxRecDepth 100000 in
theorem jc_m86 : jc_rows 86 0 k_X_at = true := by decide +kernel
set_option maxRecDepth 100000 in
theorem jc_m87 : jc_rows 87 0 k_X_follows = true := by decide +kernel
set_option maxRecDepth 100000 in
theorem jc_m88 : jc_rows 88 0 k_Table_timesFollowed = true := by decide +kernel
set_option maxRecDepth 100000 in
theorem jc_m89 : jc_rows 89 0 k_X_lawful = true := by decide +kernel
set_option maxRecDepth 100000 in
theorem jc_m90 : jc_rows 90 0 k_Hunt_isTold = true := by decide +kernel
set_option maxRecDepth 100000 in
theorem jc_m91 : jc_rows 91 0 k_Table_keepsTheLaw = true := by decide +kernel
set_option maxRecDepth 100000 in
theorem jc_m92 : jc_rows 92 0 k_Hunt_follow = true := by decide +kernel
set_option maxRecDepth 100000 in
theorem jc_m93 : jc_rows 93 0 k_Table_firstMeetingTurn = true := by decide +kernel
set_option maxRecDepth 100000 in
theorem jc_m94 : jc_rows 94 0 k_Table_firstMeetingPlace = true := by decide +kernel
set_option maxRecDepth 100000 in
theorem jc_m95 : jc_rows 95 0 k_Table_bandsAt = true := by decide +kernel
set_option maxRecDepth 100000 in
theorem jc_m96 : jc_rows 96 0 k_JInteger_bitCount = true := by decide +kernel
set_option maxRecDepth 100000 in
theorem jc_m97 : jc_rows 97 0 k_X_crowd = true := by decide +kernel
set_option maxRecDepth 100000 in
theorem jc_m98 : jc_rows 98 0 k_X_even = true := by decide +kernel
set_option maxRecDepth 100000 in
theorem jc_m99 : jc_rows 99 0 k_X_evenTurn = true := by decide +kernel
set_option maxRecDepth 100000 in
theorem jc_m100 : jc_rows 100 0 k_X_slips = true := by decide +kernel
set_option maxRecDepth 100000 in
theorem jc_m101 : jc_rows 101 0 k_Table_pairsOfPlaces = true := by decide +kernel
set_option maxRecDepth 100000 in
theorem jc_m102 : jc_rows 102 0 k_JLong_bitCount = true := by decide +kernel
set_option maxRecDepth 100000 in
theorem jc_m103 : jc_rows 103 0 k_X_well = true := by decide +kernel
set_option maxRecDepth 100000 in
theorem jc_m104 : jc_rows 104 0 k_Table_comerTo = true := by decide +kernel
set_option maxRecDepth 100000 in
theorem jc_m105 : jc_rows 105 0 k_X_sight = true := by decide +kernel
set_option maxRecDepth 100000 in
theorem jc_m106 : jc_rows 106 0 k_Table_timesSeen = true := by decide +kernel
set_option maxRecDepth 100000 in
theorem jc_m107 : jc_rows 107 0 k_Table_inOneLine = true := by decide +kernel
set_option maxRecDepth 100000 in
theorem jc_m108 : jc_rows 108 0 k_Hunt_x = true := by decide +kernel
set_option maxRecDepth 100000 in
theorem jc_m109 : jc_rows 109 0 k_Hunt_y = true := by decide +kernel
set_option maxRecDepth 100000 in
theorem jc_m110 : jc_rows 110 0 k_X_points = true := by decide +kernel
set_option maxRecDepth 100000 in
theorem jc_m111 : jc_rows 111 0 k_Clock_pointsOf = true := by decide +kernel
set_option maxRecDepth 100000 in
theorem jc_m112 : jc_rows 112 0 k_Clock_wayOf = true := by decide +kernel
set_option maxRecDepth 100000 in
theorem jc_m113 : jc_rows 113 0 k_Hunt_steps = true := by decide +kernel
set_option maxRecDepth 100000 in
theorem jc_m114 : jc_rows 114 0 k_Worths_valueOf = true := by decide +kernel
set_option maxRecDepth 100000 in
theorem jc_m115 : jc_rows 115 0 k_Worths_run = true := by decide +kernel
set_option maxRecDepth 100000 in
theorem jc_m116 : jc_rows 116 0 k_Worths_letterValue = true := by decide +kernel
set_option maxRecDepth 100000 in
theorem jc_m117 : jc_rows 117 0 k_Worths_join = true := by decide +kernel
set_option maxRecDepth 100000 in
theorem jc_m118 : jc_rows 118 0 k_Worths_joined = true := by decide +kernel
set_option maxRecDepth 100000 in
theorem jc_m119 : jc_rows 119 0 k_Worths_bounded = true := by decide +kernel
set_option maxRecDepth 100000 in
theorem jc_m120 : jc_rows 120 0 k_Hunt_stay = true := by decide +kernel
set_option maxRecDepth 100000 in
theorem jc_m121 : jc_rows 121 0 k_X_comes = true := by decide +kernel
set_option maxRecDepth 100000 in
theorem jc_m122 : jc_rows 122 0 k_Clock_minuteOf = true := by decide +kernel
set_option maxRecDepth 100000 in
theorem jc_m123 : jc_rows 123 0 k_X_home = true := by decide +kernel
set_option maxRecDepth 100000 in
theorem jc_m124 : jc_rows 124 0 k_Clock_minuteHome = true := by decide +kernel
set_option maxRecDepth 100000 in
theorem jc_m125 : jc_rows 125 0 k_X_clashes = true := by decide +kernel
set_option maxRecDepth 100000 in
theorem jc_m126 : jc_rows 126 0 k_Clock_clashingPairs = true := by decide +kernel
set_option maxRecDepth 100000 in
theorem jc_m127 : jc_rows 127 0 k_Clock_lookWhoComesWhen = true := by decide +kernel
set_option maxRecDepth 100000 in
theorem jc_m128 : jc_rows 128 0 k_Clock_clashOf = true := by decide +kernel
set_option maxRecDepth 100000 in
theorem jc_m129 : jc_rows 129 0 k_Clock_firstClash = true := by decide +kernel
set_option maxRecDepth 100000 in
theorem jc_m130 : jc_rows 130 0 k_X_starts = true := by decide +kernel
set_option maxRecDepth 100000 in
theorem jc_m131 : jc_rows 131 0 k_Clock_seekStarts = true := by decide +kernel
set_option maxRecDepth 100000 in
theorem jc_m132 : jc_rows 132 0 k_Clock_clashesByStarts = true := by decide +kernel
set_option maxRecDepth 100000 in
theorem jc_m133 : jc_rows 133 0 k_Clock_seekStartOf = true := by decide +kernel
set_option maxRecDepth 100000 in
theorem jc_m134 : jc_rows 134 0 k_Clock_startsApart = true := by decide +kernel
set_option maxRecDepth 100000 in
theorem jc_m135 : jc_rows 135 0 k_Clock_leastSum = true := by decide +kernel
set_option maxRecDepth 100000 in
theorem jc_m136 : jc_rows 136 0 k_Clock_leastRow = true := by decide +kernel
set_option maxRecDepth 100000 in
theorem jc_m137 : jc_rows 137 0 k_X_soonest = true := by decide +kernel
set_option maxRecDepth 100000 in
theorem jc_m138 : jc_rows 138 0 k_OrderSearch_seekSoonest = true := by decide +kernel
set_option maxRecDepth 100000 in
theorem jc_m139 : jc_rows 139 0 k_OrderSearch_goSoon = true := by decide +kernel
set_option maxRecDepth 100000 in
theorem jc_m140 : jc_rows 140 0 k_OrderSearch_keep = true := by decide +kernel
set_option maxRecDepth 100000 in
theorem jc_m141 : jc_rows 141 0 k_Clock_clashesThere = true := by decide +kernel
set_option maxRecDepth 100000 in
theorem jc_m142 : jc_rows 142 0 k_OrderSearch_bestOrder = true := by decide +kernel
set_option maxRecDepth 100000 in
theorem jc_m143 : jc_rows 143 0 k_OrderSearch_bestValue = true := by decide +kernel
set_option maxRecDepth 100000 in
theorem jc_m144 : jc_rows 144 0 k_X_rich = true := by decide +kernel
set_option maxRecDepth 100000 in
theorem jc_m145 : jc_rows 145 0 k_OrderSearch_seekRichest = true := by decide +kernel
set_option maxRecDepth 100000 in
theorem jc_m146 : jc_rows 146 0 k_OrderSearch_placesOfOthers = true := by decide +kernel
set_option maxRecDepth 100000 in
theorem jc_m147 : jc_rows 147 0 k_OrderSearch_goRich = true := by decide +kernel
set_option maxRecDepth 100000 in
theorem jc_m148 : jc_rows 148 0 k_X_find = true := by decide +kernel
set_option maxRecDepth 100000 in
theorem jc_m149 : jc_rows 149 0 k_Finds_hasRoom = true := by decide +kernel
set_option maxRecDepth 100000 in
theorem jc_m150 : jc_rows 150 0 k_Finds_add = true := by decide +kernel
set_option maxRecDepth 100000 in
theorem jc_m151 : jc_rows 151 0 k_X_fits = true := by decide +kernel
set_option maxRecDepth 100000 in
theorem jc_m152 : jc_rows 152 0 k_Finds_fittingOrders = true := by decide +kernel
set_option maxRecDepth 100000 in
theorem jc_m153 : jc_rows 153 0 k_Finds_waysThrough = true := by decide +kernel
set_option maxRecDepth 100000 in
theorem jc_m154 : jc_rows 154 0 k_X_tables = true := by decide +kernel
set_option maxRecDepth 100000 in
theorem jc_m155 : jc_rows 155 0 k_Finds_isSmall = true := by decide +kernel
set_option maxRecDepth 100000 in
theorem jc_m156 : jc_rows 156 0 k_Finds_howManyTables = true := by decide +kernel
set_option maxRecDepth 100000 in
theorem jc_m157 : jc_rows 157 0 k_Finds_seekTables = true := by decide +kernel
set_option maxRecDepth 100000 in
theorem jc_m158 : jc_rows 158 0 k_Finds_clearSearch = true := by decide +kernel
set_option maxRecDepth 100000 in
theorem jc_m159 : jc_rows 159 0 k_Finds_someAreLawful = true := by decide +kernel
set_option maxRecDepth 100000 in
theorem jc_m160 : jc_rows 160 0 k_Finds_fillIfItCanBe = true := by decide +kernel
set_option maxRecDepth 100000 in
theorem jc_m161 : jc_rows 161 0 k_Finds_shutWhereOthersMustBe = true := by decide +kernel
set_option maxRecDepth 100000 in
theorem jc_m162 : jc_rows 162 0 k_Finds_shutElsewhere = true := by decide +kernel
set_option maxRecDepth 100000 in
theorem jc_m163 : jc_rows 163 0 k_Finds_fill = true := by decide +kernel
set_option maxRecDepth 100000 in
theorem jc_m164 : jc_rows 164 0 k_Finds_keepTable = true := by decide +kernel
set_option maxRecDepth 100000 in
theorem jc_m165 : jc_rows 165 0 k_Finds_mayFollow = true := by decide +kernel
set_option maxRecDepth 100000 in
theorem jc_m166 : jc_rows 166 0 k_Finds_set = true := by decide +kernel
set_option maxRecDepth 100000 in
theorem jc_m167 : jc_rows 167 0 k_Finds_follow = true := by decide +kernel
set_option maxRecDepth 100000 in
theorem jc_m168 : jc_rows 168 0 k_Finds_unset = true := by decide +kernel
set_option maxRecDepth 100000 in
theorem jc_m169 : jc_rows 169 0 k_Finds_openWhatIsLeft = true := by decide +kernel
set_option maxRecDepth 100000 in
theorem jc_m170 : jc_rows 170 0 k_Finds_orderInTable = true := by decide +kernel
set_option maxRecDepth 100000 in
theorem jc_m171 : jc_rows 171 0 k_X_wrong = true := by decide +kernel
set_option maxRecDepth 100000 in
theorem jc_m172 : jc_rows 172 0 k_Table_followsGoneWrong = true := by decide +kernel
set_option maxRecDepth 100000 in
theorem jc_m173 : jc_rows 173 0 k_X_helpers = true := by decide +kernel
set_option maxRecDepth 100000 in
theorem jc_m174 : jc_rows 174 0 k_HelperCount_fewest = true := by decide +kernel
set_option maxRecDepth 100000 in
theorem jc_m175 : jc_rows 175 0 k_HelperCount_fillReach = true := by decide +kernel
set_option maxRecDepth 100000 in
theorem jc_m176 : jc_rows 176 0 k_HelperCount_oneMoveMore = true := by decide +kernel
set_option maxRecDepth 100000 in
theorem jc_m177 : jc_rows 177 0 k_HelperCount_gatherDuties = true := by decide +kernel
set_option maxRecDepth 100000 in
theorem jc_m178 : jc_rows 178 0 k_HelperCount_joinOneMore = true := by decide +kernel
set_option maxRecDepth 100000 in
theorem jc_m179 : jc_rows 179 0 k_HelperCount_lookFrom = true := by decide +kernel
set_option maxRecDepth 100000 in
theorem jc_m180 : jc_rows 180 0 k_HelperCount_canJoin = true := by decide +kernel
set_option maxRecDepth 100000 in
theorem jc_m181 : jc_rows 181 0 k_HelperCount_giveWay = true := by decide +kernel
set_option maxRecDepth 100000 in
theorem jc_m182 : jc_rows 182 0 k_X_pieces = true := by decide +kernel
set_option maxRecDepth 100000 in
theorem jc_m183 : jc_rows 183 0 k_X_howManySets = true := by decide +kernel
set_option maxRecDepth 100000 in
theorem jc_m184 : jc_rows 184 0 k_X_setByNumber = true := by decide +kernel
set_option maxRecDepth 100000 in
theorem jc_m185 : jc_rows 185 0 k_X_drawn = true := by decide +kernel
set_option maxRecDepth 100000 in
theorem jc_m186 : jc_rows 186 0 k_Table_drawOrders = true := by decide +kernel
set_option maxRecDepth 100000 in
theorem jc_m187 : jc_rows 187 0 k_Table_drawOrder = true := by decide +kernel
set_option maxRecDepth 100000 in
theorem jc_m188 : jc_rows 188 0 k_Table_nextDraw = true := by decide +kernel
set_option maxRecDepth 100000 in
theorem jc_m189 : jc_rows 189 0 k_X_image = true := by decide +kernel
set_option maxRecDepth 100000 in
theorem jc_m190 : jc_rows 190 0 k_Past_takeImage = true := by decide +kernel
set_option maxRecDepth 100000 in
theorem jc_m191 : jc_rows 191 0 k_X_back = true := by decide +kernel
set_option maxRecDepth 100000 in
theorem jc_m192 : jc_rows 192 0 k_Past_hasImage = true := by decide +kernel
set_option maxRecDepth 100000 in
theorem jc_m193 : jc_rows 193 0 k_Past_goBack = true := by decide +kernel
set_option maxRecDepth 100000 in
theorem jc_m194 : jc_rows 194 0 k_X_again = true := by decide +kernel
set_option maxRecDepth 100000 in
theorem jc_m195 : jc_rows 195 0 k_Past_likeImage = true := by decide +kernel
set_option maxRecDepth 100000 in
theorem jc_m196 : jc_rows 196 0 k_X_count = true := by decide +kernel
set_option maxRecDepth 100000 in
theorem jc_m197 : jc_rows 197 0 k_Worths_size = true := by decide +kernel
set_option maxRecDepth 100000 in
theorem jc_m198 : jc_rows 198 0 k_Worths_holding = true := by decide +kernel
set_option maxRecDepth 100000 in
theorem jc_m199 : jc_rows 199 0 k_Finds_size = true := by decide +kernel
set_option maxRecDepth 100000 in
theorem jc_m200 : jc_rows 200 0 k_R_init = true := by decide +kernel
set_option maxRecDepth 100000 in
theorem jc_m201 : jc_rows 201 0 k_R_thrown = true := by decide +kernel
set_option maxRecDepth 100000 in
theorem jc_m202 : jc_rows 202 0 k_R_feed = true := by decide +kernel
set_option maxRecDepth 100000 in
theorem jc_m203 : jc_rows 203 0 k_R_byteOf = true := by decide +kernel
set_option maxRecDepth 100000 in
theorem jc_m204 : jc_rows 204 0 k_R_end = true := by decide +kernel
set_option maxRecDepth 100000 in
theorem jc_m205 : jc_rows 205 0 k_R_fault = true := by decide +kernel
set_option maxRecDepth 100000 in
theorem jc_m206 : jc_rows 206 0 k_R_readHunt = true := by decide +kernel
set_option maxRecDepth 100000 in
theorem jc_m207 : jc_rows 207 0 k_R_look = true := by decide +kernel
set_option maxRecDepth 100000 in
theorem jc_m208 : jc_rows 208 0 k_R_here = true := by decide +kernel
set_option maxRecDepth 100000 in
theorem jc_m209 : jc_rows 209 0 k_R_placeText = true := by decide +kernel
set_option maxRecDepth 100000 in
theorem jc_m210 : jc_rows 210 0 k_R_has = true := by decide +kernel
set_option maxRecDepth 100000 in
theorem jc_m211 : jc_rows 211 0 k_R_number = true := by decide +kernel
set_option maxRecDepth 100000 in
theorem jc_m212 : jc_rows 212 0 k_R_isDigit = true := by decide +kernel
set_option maxRecDepth 100000 in
theorem jc_m213 : jc_rows 213 0 k_R_bad = true := by decide +kernel
set_option maxRecDepth 100000 in
theorem jc_m214 : jc_rows 214 0 k_R_in = true := by decide +kernel
set_option maxRecDepth 100000 in
theorem jc_m215 : jc_rows 215 0 k_R_bandText = true := by decide +kernel
set_option maxRecDepth 100000 in
theorem jc_m216 : jc_rows 216 0 k_R_lawText = true := by decide +kernel
set_option maxRecDepth 100000 in
theorem jc_m217 : jc_rows 217 0 k_R_readLaw = true := by decide +kernel
set_option maxRecDepth 100000 in
theorem jc_m218 : jc_rows 218 0 k_R_open = true := by decide +kernel
set_option maxRecDepth 100000 in
theorem jc_m219 : jc_rows 219 0 k_R_clause = true := by decide +kernel
set_option maxRecDepth 100000 in
theorem jc_m220 : jc_rows 220 0 k_R_condition = true := by decide +kernel
set_option maxRecDepth 100000 in
theorem jc_m221 : jc_rows 221 0 k_R_unit = true := by decide +kernel
set_option maxRecDepth 100000 in
theorem jc_m222 : jc_rows 222 0 k_R_opens = true := by decide +kernel
set_option maxRecDepth 100000 in
theorem jc_m223 : jc_rows 223 0 k_R_put = true := by decide +kernel
set_option maxRecDepth 100000 in
theorem jc_m224 : jc_rows 224 0 k_R_closes = true := by decide +kernel
set_option maxRecDepth 100000 in
theorem jc_m225 : jc_rows 225 0 k_R_sum = true := by decide +kernel
set_option maxRecDepth 100000 in
theorem jc_m226 : jc_rows 226 0 k_R_term = true := by decide +kernel
set_option maxRecDepth 100000 in
theorem jc_m227 : jc_rows 227 0 k_R_atom = true := by decide +kernel
set_option maxRecDepth 100000 in
theorem jc_m228 : jc_rows 228 0 k_R_plainNumber = true := by decide +kernel
set_option maxRecDepth 100000 in
theorem jc_m229 : jc_rows 229 0 k_R_letterOf = true := by decide +kernel
set_option maxRecDepth 100000 in
theorem jc_m230 : jc_rows 230 0 k_R_compare = true := by decide +kernel
set_option maxRecDepth 100000 in
theorem jc_m231 : jc_rows 231 0 k_R_isSign = true := by decide +kernel
set_option maxRecDepth 100000 in
theorem jc_m232 : jc_rows 232 0 k_R_goOnAnd = true := by decide +kernel
set_option maxRecDepth 100000 in
theorem jc_m233 : jc_rows 233 0 k_R_goOnOr = true := by decide +kernel
set_option maxRecDepth 100000 in
theorem jc_m234 : jc_rows 234 0 k_R_atEnd = true := by decide +kernel
set_option maxRecDepth 100000 in
theorem jc_m235 : jc_rows 235 0 k_R_text = true := by decide +kernel
set_option maxRecDepth 100000 in
theorem jc_m236 : jc_rows 236 0 k_R_takeHunt = true := by decide +kernel
set_option maxRecDepth 100000 in
theorem jc_m237 : jc_rows 237 0 k_R_place = true := by decide +kernel
set_option maxRecDepth 100000 in
theorem jc_m238 : jc_rows 238 0 k_R_isPlace = true := by decide +kernel
set_option maxRecDepth 100000 in
theorem jc_m239 : jc_rows 239 0 k_R_band = true := by decide +kernel
set_option maxRecDepth 100000 in
theorem jc_m240 : jc_rows 240 0 k_R_isBand = true := by decide +kernel
set_option maxRecDepth 100000 in
theorem jc_m241 : jc_rows 241 0 k_R_orderOf = true := by decide +kernel
set_option maxRecDepth 100000 in
theorem jc_m242 : jc_rows 242 0 k_R_of = true := by decide +kernel
set_option maxRecDepth 100000 in
theorem jc_m243 : jc_rows 243 0 k_R_order = true := by decide +kernel
set_option maxRecDepth 100000 in
theorem jc_m244 : jc_rows 244 0 k_R_isOrder = true := by decide +kernel
set_option maxRecDepth 100000 in
theorem jc_m245 : jc_rows 245 0 k_R_nth = true := by decide +kernel
set_option maxRecDepth 100000 in
theorem jc_m246 : jc_rows 246 0 k_R_ten = true := by decide +kernel
set_option maxRecDepth 100000 in
theorem jc_m247 : jc_rows 247 0 k_R_keep = true := by decide +kernel
set_option maxRecDepth 100000 in
theorem jc_m248 : jc_rows 248 0 k_R_write = true := by decide +kernel
set_option maxRecDepth 100000 in
theorem jc_m249 : jc_rows 249 0 k_R_start = true := by decide +kernel
set_option maxRecDepth 100000 in
theorem jc_m250 : jc_rows 250 0 k_R_worth = true := by decide +kernel
set_option maxRecDepth 100000 in
theorem jc_m251 : jc_rows 251 0 k_R_undo = true := by decide +kernel
set_option maxRecDepth 100000 in
theorem jc_m252 : jc_rows 252 0 k_R_at = true := by decide +kernel
set_option maxRecDepth 100000 in
theorem jc_m253 : jc_rows 253 0 k_R_follows = true := by decide +kernel
set_option maxRecDepth 100000 in
theorem jc_m254 : jc_rows 254 0 k_R_followsOf = true := by decide +kernel
set_option maxRecDepth 100000 in
theorem jc_m255 : jc_rows 255 0 k_R_lawful = true := by decide +kernel
set_option maxRecDepth 100000 in
theorem jc_m256 : jc_rows 256 0 k_R_isLawful = true := by decide +kernel
set_option maxRecDepth 100000 in
theorem jc_m257 : jc_rows 257 0 k_R_doMeet = true := by decide +kernel
set_option maxRecDepth 100000 in
theorem jc_m258 : jc_rows 258 0 k_R_crowd = true := by decide +kernel
set_option maxRecDepth 100000 in
theorem jc_m259 : jc_rows 259 0 k_R_bandsAt = true := by decide +kernel
set_option maxRecDepth 100000 in
theorem jc_m260 : jc_rows 260 0 k_R_even = true := by decide +kernel
set_option maxRecDepth 100000 in
theorem jc_m261 : jc_rows 261 0 k_R_slips = true := by decide +kernel
set_option maxRecDepth 100000 in
theorem jc_m262 : jc_rows 262 0 k_R_well = true := by decide +kernel
set_option maxRecDepth 100000 in
theorem jc_m263 : jc_rows 263 0 k_R_sight = true := by decide +kernel
set_option maxRecDepth 100000 in
theorem jc_m264 : jc_rows 264 0 k_R_comes = true := by decide +kernel
set_option maxRecDepth 100000 in
theorem jc_m265 : jc_rows 265 0 k_R_comesAt = true := by decide +kernel
set_option maxRecDepth 100000 in
theorem jc_m266 : jc_rows 266 0 k_R_ahead = true := by decide +kernel
set_option maxRecDepth 100000 in
theorem jc_m267 : jc_rows 267 0 k_R_steps = true := by decide +kernel
set_option maxRecDepth 100000 in
theorem jc_m268 : jc_rows 268 0 k_R_home = true := by decide +kernel
set_option maxRecDepth 100000 in
theorem jc_m269 : jc_rows 269 0 k_R_homeOf = true := by decide +kernel
set_option maxRecDepth 100000 in
theorem jc_m270 : jc_rows 270 0 k_R_points = true := by decide +kernel
set_option maxRecDepth 100000 in
theorem jc_m271 : jc_rows 271 0 k_R_pointsOf = true := by decide +kernel
set_option maxRecDepth 100000 in
theorem jc_m272 : jc_rows 272 0 k_R_worthOf = true := by decide +kernel
set_option maxRecDepth 100000 in
theorem jc_m273 : jc_rows 273 0 k_R_workOut = true := by decide +kernel
set_option maxRecDepth 100000 in
theorem jc_m274 : jc_rows 274 0 k_R_worked = true := by decide +kernel
set_option maxRecDepth 100000 in
theorem jc_m275 : jc_rows 275 0 k_R_bounded = true := by decide +kernel
set_option maxRecDepth 100000 in
theorem jc_m276 : jc_rows 276 0 k_R_clashes = true := by decide +kernel
set_option maxRecDepth 100000 in
theorem jc_m277 : jc_rows 277 0 k_R_clashOf = true := by decide +kernel
set_option maxRecDepth 100000 in
theorem jc_m278 : jc_rows 278 0 k_R_starts = true := by decide +kernel
set_option maxRecDepth 100000 in
theorem jc_m279 : jc_rows 279 0 k_R_soonest = true := by decide +kernel
set_option maxRecDepth 100000 in
theorem jc_m280 : jc_rows 280 0 k_R_layOrders = true := by decide +kernel
set_option maxRecDepth 100000 in
theorem jc_m281 : jc_rows 281 0 k_R_build = true := by decide +kernel
set_option maxRecDepth 100000 in
theorem jc_m282 : jc_rows 282 0 k_R_doesClash = true := by decide +kernel
set_option maxRecDepth 100000 in
theorem jc_m283 : jc_rows 283 0 k_R_rich = true := by decide +kernel
set_option maxRecDepth 100000 in
theorem jc_m284 : jc_rows 284 0 k_R_meetsAny = true := by decide +kernel
set_option maxRecDepth 100000 in
theorem jc_m285 : jc_rows 285 0 k_R_find = true := by decide +kernel
set_option maxRecDepth 100000 in
theorem jc_m286 : jc_rows 286 0 k_R_fits = true := by decide +kernel
set_option maxRecDepth 100000 in
theorem jc_m287 : jc_rows 287 0 k_R_agrees = true := by decide +kernel
set_option maxRecDepth 100000 in
theorem jc_m288 : jc_rows 288 0 k_R_tables = true := by decide +kernel
set_option maxRecDepth 100000 in
theorem jc_m289 : jc_rows 289 0 k_R_tablesFrom = true := by decide +kernel
set_option maxRecDepth 100000 in
theorem jc_m290 : jc_rows 290 0 k_R_goesWith = true := by decide +kernel
set_option maxRecDepth 100000 in
theorem jc_m291 : jc_rows 291 0 k_R_wrong = true := by decide +kernel
set_option maxRecDepth 100000 in
theorem jc_m292 : jc_rows 292 0 k_R_helpers = true := by decide +kernel
set_option maxRecDepth 100000 in
theorem jc_m293 : jc_rows 293 0 k_R_hop = true := by decide +kernel
set_option maxRecDepth 100000 in
theorem jc_m294 : jc_rows 294 0 k_R_match = true := by decide +kernel
set_option maxRecDepth 100000 in
theorem jc_m295 : jc_rows 295 0 k_R_pieces = true := by decide +kernel
set_option maxRecDepth 100000 in
theorem jc_m296 : jc_rows 296 0 k_R_choose = true := by decide +kernel
set_option maxRecDepth 100000 in
theorem jc_m297 : jc_rows 297 0 k_R_drawn = true := by decide +kernel
set_option maxRecDepth 100000 in
theorem jc_m298 : jc_rows 298 0 k_R_image = true := by decide +kernel
set_option maxRecDepth 100000 in
theorem jc_m299 : jc_rows 299 0 k_R_back = true := by decide +kernel
set_option maxRecDepth 100000 in
theorem jc_m300 : jc_rows 300 0 k_R_again = true := by decide +kernel
set_option maxRecDepth 100000 in
theorem jc_m301 : jc_rows 301 0 k_R_count = true := by decide +kernel
end
section
/-! THE WALK'S INVARIANT -/
def jb_lv (ad : Nat → Nat) : Nat → ja_L → List (Nat × Value)
  | _, [] => []
  | k, none :: L => jb_lv ad (k + 1) L
  | k, some v :: L => (k, jb_v ad v) :: jb_lv ad (k + 1) L
theorem jb_lv_of {ad : Nat → Nat} : ∀ (L : ja_L) (j k : Nat) (v : ja_V), L[k]? = some (some v) → (j + k, jb_v ad v) ∈ jb_lv ad j L
  | [], _, _, _, h => by simp at h
  | none :: L, j, 0, _, h => by simp at h
  | some w :: L, j, 0, v, h => by
    simp at h
    subst h
    exact List.mem_cons_self
  | none :: L, j, k + 1, v, h => by
    have := jb_lv_of (ad := ad) L (j + 1) k v (by simpa using h)
    rw [show j + (k + 1) = j + 1 + k by omega]
    exact this
  | some w :: L, j, k + 1, v, h => by
    have := jb_lv_of (ad := ad) L (j + 1) k v (by simpa using h)
    rw [show j + (k + 1) = j + 1 + k by omega]
    exact List.mem_cons_of_mem _ this
theorem jb_lv_mem {ad : Nat → Nat} : ∀ (L : ja_L) (j : Nat) (q : Nat × Value), q ∈ jb_lv ad j L → ∃ k v, L[k]? = some (some v) ∧ q = (j + k, jb_v ad v)
  | [], _, _, h => absurd h List.not_mem_nil
  | none :: L, j, q, h => by
    obtain ⟨k, v, h1, h2⟩ := jb_lv_mem L (j + 1) q h
    exact ⟨k + 1, v, by simpa using h1, by rw [h2, show j + 1 + k = j + (k + 1) by omega]⟩
  | some w :: L, j, q, h => by
    rcases List.mem_cons.mp h with h | h
    · exact ⟨0, w, rfl, h⟩
    · obtain ⟨k, v, h1, h2⟩ := jb_lv_mem L (j + 1) q h
      exact ⟨k + 1, v, by simpa using h1, by rw [h2, show j + 1 + k = j + (k + 1) by omega]⟩
theorem lv_less {ls : Array Slot} {nL : Nat} {l l' : List (Nat × Value)} (h : lv_has ls nL l) (hs : ∀ q ∈ l', q ∈ l) : lv_has ls nL l' := ⟨h.1, h.2.1, fun q hq => h.2.2 q (hs q hq)⟩
theorem jb_lget {ad : Nat → Nat} {ls : Array Slot} {nL k : Nat} {L : ja_L} {v : ja_V} (h : lv_has ls nL (jb_lv ad 0 L)) (hk : L[k]? = some (some v)) : ls[k]? = some (.val (jb_v ad v)) := by
  have := h.2.2 _ (jb_lv_of L 0 k v hk)
  simpa using this
theorem jb_cat (ad : Nat → Nat) (v : ja_V) : (jb_v ad v).category = ja_cat v := by
  rcases v with x | x | x
  · rfl
  · rfl
  · cases x <;> rfl
theorem jb_catsum (ad : Nat → Nat) : ∀ S : List ja_V, ((S.map (jb_v ad)).map fun v => v.category).sum = ja_sz S
  | [] => rfl
  | v :: S => by
    simp only [List.map_cons, List.sum_cons]
    rw [jb_cat, jb_catsum ad S]
    rfl
theorem jb_kl_get {L : ja_L} {i k : Nat} {v : ja_V} (h : (ja_kl L i)[k]? = some (some v)) : L[k]? = some (some v) ∧ ¬ (k + 1 = i ∧ ja_cat v = 2) := by
  cases i with
  | zero => exact ⟨h, fun q => by omega⟩
  | succ j =>
    have h2 : (match L[j]? with
      | some (some (.inr (.inl _))) => L.set j none
      | _ => L)[k]? = some (some v) := h
    clear h
    split at h2
    · rename_i x hx
      rw [List.getElem?_set] at h2
      split at h2
      · split at h2
        · cases h2
        · cases h2
      · rename_i hne
        exact ⟨h2, fun q => hne (by omega)⟩
    · rename_i hx
      refine ⟨h2, fun q => ?_⟩
      have e : k = j := by omega
      subst e
      rcases v with y | y | y
      · simp [ja_cat] at q
      · exact hx _ h2
      · simp [ja_cat] at q
theorem ja_kl_len (L : ja_L) (i : Nat) : (ja_kl L i).length = L.length := by
  cases i with
  | zero => rfl
  | succ j =>
    show (match L[j]? with
      | some (some (.inr (.inl _))) => L.set j none
      | _ => L).length = L.length
    split <;> simp
theorem jb_set1_sub {ad : Nat → Nat} {L : ja_L} {i : Nat} {v : ja_V} (hi : i < L.length) : ∀ q ∈ jb_lv ad 0 (ja_set1 L i v), q ∈ (i, jb_v ad v) :: (jb_lv ad 0 L).filter (fun q => !(q.1 == i) && !(q.1 + 1 == i && q.2.category == 2)) := by
  intro q hq
  obtain ⟨k, w, h1, rfl⟩ := jb_lv_mem _ _ _ hq
  unfold ja_set1 at h1
  rw [List.getElem?_set] at h1
  split at h1
  · rename_i e
    subst e
    split at h1
    · cases h1
      simp
    · cases h1
  · rename_i hne
    obtain ⟨h2, h3⟩ := jb_kl_get h1
    refine List.mem_cons_of_mem _ (List.mem_filter.mpr ⟨jb_lv_of L 0 k w h2, ?_⟩)
    have h4 : (jb_v ad w).category = ja_cat w := jb_cat ad w
    simp only [Nat.zero_add, h4, Bool.and_eq_true, Bool.not_eq_true', beq_eq_false_iff_ne, ne_eq, Bool.and_eq_false_iff]
    refine ⟨fun q => hne q.symm, ?_⟩
    by_cases hk : k + 1 = i
    · exact Or.inr (fun q => h3 ⟨hk, q⟩)
    · exact Or.inl hk
theorem jb_set2_sub {ad : Nat → Nat} {L : ja_L} {i : Nat} {v : ja_V} (hi : i + 1 < L.length) : ∀ q ∈ jb_lv ad 0 (ja_set2 L i v), q ∈ (i, jb_v ad v) :: (jb_lv ad 0 L).filter (fun q => !(q.1 == i) && (!(q.1 == i + 1) && !(q.1 + 1 == i && q.2.category == 2))) := by
  intro q hq
  obtain ⟨k, w, h1, rfl⟩ := jb_lv_mem _ _ _ hq
  unfold ja_set2 at h1
  rw [List.getElem?_set] at h1
  split at h1
  · split at h1
    · cases h1
    · cases h1
  · rename_i hne1
    rw [List.getElem?_set] at h1
    split at h1
    · rename_i e
      subst e
      split at h1
      · cases h1
        simp
      · cases h1
    · rename_i hne
      obtain ⟨h2, h3⟩ := jb_kl_get h1
      refine List.mem_cons_of_mem _ (List.mem_filter.mpr ⟨jb_lv_of L 0 k w h2, ?_⟩)
      have h4 : (jb_v ad w).category = ja_cat w := jb_cat ad w
      simp only [Nat.zero_add, h4, Bool.and_eq_true, Bool.not_eq_true', beq_eq_false_iff_ne, ne_eq, Bool.and_eq_false_iff]
      refine ⟨fun q => hne q.symm, fun q => hne1 q.symm, ?_⟩
      by_cases hk : k + 1 = i
      · exact Or.inr (fun q => h3 ⟨hk, q⟩)
      · exact Or.inl hk
theorem jb_set1_ok {L : ja_L} {i : Nat} {v : ja_V} (h : ∀ w, some w ∈ L → jb_ok w) (hv : jb_ok v) : ∀ w, some w ∈ ja_set1 L i v → jb_ok w := by
  intro w hw
  obtain ⟨k, hk⟩ := List.getElem?_of_mem hw
  unfold ja_set1 at hk
  rw [List.getElem?_set] at hk
  split at hk
  · split at hk
    · cases hk
      exact hv
    · cases hk
  · exact h w (List.mem_of_getElem? (jb_kl_get hk).1)
theorem jb_set2_ok {L : ja_L} {i : Nat} {v : ja_V} (h : ∀ w, some w ∈ L → jb_ok w) (hv : jb_ok v) : ∀ w, some w ∈ ja_set2 L i v → jb_ok w := by
  intro w hw
  obtain ⟨k, hk⟩ := List.getElem?_of_mem hw
  unfold ja_set2 at hk
  rw [List.getElem?_set] at hk
  split at hk
  · split at hk
    · cases hk
    · cases hk
  · rw [List.getElem?_set] at hk
    split at hk
    · split at hk
      · cases hk
        exact hv
      · cases hk
    · exact h w (List.mem_of_getElem? (jb_kl_get hk).1)
theorem ja_set1_len (L : ja_L) (i : Nat) (v : ja_V) : (ja_set1 L i v).length = L.length := by unfold ja_set1; simp [ja_kl_len]
theorem ja_set2_len (L : ja_L) (i : Nat) (v : ja_V) : (ja_set2 L i v).length = L.length := by unfold ja_set2; simp [ja_kl_len]
theorem ja_mask_len : ∀ (bs : List Bool) (L : ja_L), (ja_mask bs L).length = L.length
  | [], _ => rfl
  | _ :: _, [] => rfl
  | _ :: bs, _ :: L => by
    show (ja_mask bs L).length + 1 = L.length + 1
    rw [ja_mask_len bs L]
theorem ja_mask_get : ∀ (bs : List Bool) (L : ja_L) (k : Nat) (v : ja_V), (ja_mask bs L)[k]? = some (some v) → L[k]? = some (some v)
  | [], _, _, _, h => h
  | _ :: _, [], _, _, h => h
  | true :: _, _ :: _, 0, _, h => h
  | false :: _, _ :: _, 0, _, h => by simp [ja_mask] at h
  | _ :: bs, _ :: L, k + 1, v, h => ja_mask_get bs L k v h
/-! the cells' numbers within their bounds -/
def jb_lng (c i : Nat) : Bool := Nat.beq (ja_kd c).1 102 || (Nat.blt (ja_kd c).1 13 && Nat.beq (ja_ft (ja_kd c).1 i) 2)
def jb_num (c i : Nat) (x : Int) : Prop := if jb_lng c i = true then jb_ok (jl x) else jb_ok (ji x)
/-- no cell names one that isn't made yet -/
def jb_refM (φ : Bool) (M : ja_M) : Prop := ∀ c, 1 ≤ c → c ≤ (M 0 0).toNat → (∀ i, ja_rd φ M c i ≤ (M 0 0).toNat) ∧ ((ja_kd c).1 = 103 → c + (ja_kd c).2 ≤ (M 0 0).toNat)
def jb_Mok (φ : Bool) (M : ja_M) : Prop := (∀ c i, 1 ≤ c → jb_num c i (M c i)) ∧ (0 ≤ M 0 0 ∧ M 0 0 ≤ (ja_N0 : Int) + 1) ∧ (φ = true → (ja_N0 : Int) ≤ M 0 0) ∧ (0 ≤ M 0 1 ∧ 0 ≤ M 0 2) ∧ (0 ≤ M 0 4 ∧ M 0 4 < 2147483648) ∧ jb_refM φ M
def jb_cl (M : ja_M) : Nat := (M 0 1).toNat
def jb_sl (M : ja_M) : Nat := (M 0 2).toNat
def jb_gr (M M' : ja_M) : Prop := M 0 0 ≤ M' 0 0 ∧ M 0 1 ≤ M' 0 1 ∧ M 0 2 ≤ M' 0 2 ∧ M' 0 4 = M 0 4 ∧ ∀ j, M' (ja_RO + 2) j = M (ja_RO + 2) j
theorem jb_gr.rf (M : ja_M) : jb_gr M M := ⟨Int.le_refl _, Int.le_refl _, Int.le_refl _, rfl, fun _ => rfl⟩
theorem jb_gr.tr {A B C : ja_M} (h : jb_gr A B) (k : jb_gr B C) : jb_gr A C := ⟨Int.le_trans h.1 k.1, Int.le_trans h.2.1 k.2.1, Int.le_trans h.2.2.1 k.2.2.1, k.2.2.2.1.trans h.2.2.2.1, fun j => (k.2.2.2.2 j).trans (h.2.2.2.2 j)⟩
def jb_ro (G : jb_G) (ad : Nat → Nat) (M : ja_M) (U : State) : Prop :=
  va_Z "HuntTable$HuntReader" "LEAST" "[I" (.ref (ad ja_RO)) (jb_A G) U U.heap ∧ va_Z "HuntTable$HuntReader" "MOST" "[I" (.ref (ad (ja_RO + 1))) (jb_A G) U U.heap ∧
  va_X (ad ja_RO) 5 (fun j => Int32.ofInt (ja_ro ja_RO j)) U U.heap ∧ va_X (ad (ja_RO + 1)) 5 (fun j => Int32.ofInt (ja_ro (ja_RO + 1) j)) U U.heap ∧
  va_X (ad (ja_RO + 2)) (M 0 4).toNat (fun j => Int32.ofInt (M (ja_RO + 2) j)) U U.heap ∧ (ad ja_RO < G.2.2 ∧ ad (ja_RO + 1) < G.2.2 ∧ ad (ja_RO + 2) < G.2.2) ∧ G.2.2 ≤ U.heap.size
theorem jb_ro.to {G : jb_G} {ad ad' : Nat → Nat} {M M' : ja_M} {U : State} (h : jb_ro G ad M U) (hg : jb_gr M M') (ha : ∀ k, ja_RO ≤ k → ad' k = ad k) : jb_ro G ad' M' U := by
  obtain ⟨h1, h2, h3, h4, h5, h6, h7⟩ := h
  unfold jb_ro
  rw [ha ja_RO (Nat.le_refl _), ha (ja_RO + 1) (by decide), ha (ja_RO + 2) (by decide), hg.2.2.2.1]
  refine ⟨h1, h2, h3, h4, ?_, h6, h7⟩
  have e : (fun j => Int32.ofInt (M' (ja_RO + 2) j)) = (fun j => Int32.ofInt (M (ja_RO + 2) j)) := by
    funext j
    rw [hg.2.2.2.2]
  rw [e]
  exact h5
/-- what the walk keeps: the cells, the locals, the numbers' bounds, the room used -/
def jb_I (G : jb_G) (φ : Bool) (s : State) (nL C0 S0 : Nat) (ad0 : Nat → Nat) (lim0 : Nat) (ad : Nat → Nat) (M : ja_M) (H : Heap) (locs : List Loc) (L : ja_L) (ls : Array Slot) : Prop :=
  (va_P G.1 jm_cl (jb_ws G φ ad M) H ∧ va_D (jb_A G) (jb_ws G φ ad M) ∧ va_S (jb_A G) s.heap H locs ∧ jb_ro G ad M s) ∧ (lv_has ls nL (jb_lv ad 0 L) ∧ L.length = nL ∧ ∀ v, some v ∈ L → jb_ok v) ∧ jb_Mok φ M ∧ (C0 ≤ jb_cl M ∧ S0 ≤ jb_sl M) ∧ (∀ k, k ≤ lim0 ∨ ja_RO ≤ k → ad k = ad0 k) ∧ lim0 ≤ (M 0 0).toNat
end
section
/-! EACH ROW OF THE SMALL MACHINE IS WALKED BY THE REAL ONE -/
def va_AOI (U : State) : Prop := (Cond.arrayOver (.array .int)).before #[] U = true ∧ ∀ q ∈ jm_ne, va_Nw (.methodLinkNest (jm_cn q.1) q.2.1 (jm_nm q.2.2.1) "HuntTable") U
def jb_Fix (p : Program) (R : Room) (s : State) (m : MethodId) (args : Array Value) (meth : Method) (c : Code) (G : jb_G) (z d : Nat) : Prop :=
  (p.tables.exec = Jvm.exec ∧ c.code = jm_b z ∧ c.maxLocals = ja_maxL z ∧ s.vm.findClass (jm_cn (jm_own z)) = some m.cls ∧ ∀ w ∈ jm_W, w.before args s = true) ∧ (va_K G.1 jm_cl (jb_tys G) s ∧ ∀ q, s.heap.size ≤ q → jb_A G q) ∧ (d + 1 ≤ R.frames ∧ 40 * d + 60 ≤ R.locals) ∧ ((jm_nm z).name = "<init>" → meth.name = "<init>") ∧ va_AOI s
def jb_Wat (p : Program) (l : Launch) (e : Env) (R : Room) (s : State) (m : MethodId) (args : Array Value) (below : List Frame) (meth : Method) (c : Code) (Q : State → Prop) (G : jb_G) (φ : Bool) (z C0 S0 : Nat) (ad0 : Nat → Nat) (lim0 : Nat) (i : Nat) (L : ja_L) (S : List ja_V) (M : ja_M) : Prop :=
  ∀ (ad : Nat → Nat) (H : Heap) (locs : List Loc) (ls : Array Slot), jb_I G φ s (ja_maxL z) C0 S0 ad0 lim0 ad M H locs L ls → (∀ v ∈ S, jb_ok v) → W p l e R s m args below meth c H locs (jb_cl M - C0) (jb_sl M - S0) Q (F0 m (jm_pc z i) ls (S.map (jb_v ad)))
def jb_ws1 (y : Nat) : List Cond := Cond.code (jm_nm y) (jm_b y) (ja_maxL y) (jm_rt y) :: jm_W
def jb_rm (d mc ms : Nat) : Room := { frames := d, cells := mc, slots := ms, locals := 40 * d + 20 }
def jb_Pc (G : jb_G) (φ : Bool) (ad : Nat → Nat) (as : List ja_V) (M : ja_M) : Array Value → State → Prop := va_Pc (as.map (jb_v ad)) (fun U => va_P G.1 jm_cl (jb_ws G φ ad M) U.heap ∧ va_D (jb_A G) (jb_ws G φ ad M) ∧ va_K G.1 jm_cl (jb_tys G) U ∧ jb_ro G ad M U ∧ va_AOI U)
def jb_Qc (G : jb_G) (φ : Bool) (ad : Nat → Nat) (lim : Nat) (r : ja_R) : Array Value → State → Outcome → State → Prop := fun _ st o t => ∃ ad' : Nat → Nat, (∀ k, k ≤ lim ∨ ja_RO ≤ k → ad' k = ad k) ∧ o = .returned (r.1.map (jb_v ad')) ∧ (va_P G.1 jm_cl (jb_ws G φ ad' r.2) t.heap ∧ va_D (jb_A G) (jb_ws G φ ad' r.2)) ∧ va_F (jb_A G) st t ∧ (∀ v, r.1 = some v → jb_ok v) ∧ jb_Mok φ r.2
def jb_EOK (l : Launch) (G : jb_G) (φ : Bool) (d : Nat) (E : ja_E) : Prop := ∀ (y : Nat) (as : List ja_V) (M : ja_M) (r : ja_R), y < jm_NM → E y as M = some r → jb_gr M r.2 ∧ ∀ ad : Nat → Nat, (∀ v ∈ as, jb_ok v) → jb_Mok φ M →
  Met l (jm_nm y) (jb_ws1 y) (jb_rm d (jb_cl r.2 - jb_cl M) (jb_sl r.2 - jb_sl M)) (jb_Pc G φ ad as M) (jb_Qc G φ ad (ja_lim φ M) r) (jb_cl r.2 - jb_cl M) (jb_sl r.2 - jb_sl M) (jb_A G)
def jb_Cap (R : Room) (C0 S0 : Nat) (M : ja_M) : Prop := jb_cl M ≤ R.cells + C0 ∧ jb_sl M ≤ R.slots + S0
/-- the method's end -/
def jb_End (z i : Nat) (φ : Bool) (r : ja_R) : Prop :=
  (decode (jm_b z) (jm_pc z i) = .ok (.ireturn, 1) ∧ ∃ v, r.1 = some (ji v) ∧ (jm_rt z = some .int ∨ (jm_rt z = some .boolean ∧ (v = 0 ∨ v = 1)))) ∨ (decode (jm_b z) (jm_pc z i) = .ok (.lreturn, 1) ∧ jm_rt z = some .long ∧ ∃ v, r.1 = some (jl v)) ∨
  (decode (jm_b z) (jm_pc z i) = .ok (.areturn, 1) ∧ jc_isR (jm_rt z) = true ∧ ∃ v, r.1 = some (jr v)) ∨ (decode (jm_b z) (jm_pc z i) = .ok (.return_, 1) ∧ jm_rt z = none ∧ r.1 = none)
def jb_Ret (p : Program) (l : Launch) (e : Env) (R : Room) (s : State) (m : MethodId) (args : Array Value) (below : List Frame) (meth : Method) (c : Code) (Q : State → Prop) (G : jb_G) (φ : Bool) (z C0 S0 : Nat) (ad0 : Nat → Nat) (lim0 : Nat) (r : ja_R) : Prop :=
  ∀ (i : Nat) (ad : Nat → Nat) (H : Heap) (locs : List Loc) (ls : Array Slot) (L : ja_L), jb_I G φ s (ja_maxL z) C0 S0 ad0 lim0 ad r.2 H locs L ls → (∀ v, r.1 = some v → jb_ok v) → jb_End z i φ r → W p l e R s m args below meth c H locs (jb_cl r.2 - C0) (jb_sl r.2 - S0) Q (F0 m (jm_pc z i) ls (r.1.toList.map (jb_v ad)))
def jb_SH (h : ja_H) (ck : jc_F) : Prop := ∀ (p : Program) (l : Launch) (e : Env) (R : Room) (s : State) (m : MethodId) (args : Array Value) (below : List Frame) (meth : Method) (c : Code) (Q : State → Prop) (G : jb_G) (φ : Bool) (z d C0 S0 : Nat) (ad0 : Nat → Nat) (lim0 : Nat) (E : ja_E) (a : ja_I) (i : Nat) (L : ja_L) (S : List ja_V) (M : ja_M) (κ : ja_K) (r : ja_R),
  jb_Fix p R s m args meth c G z d → jb_EOK l G φ d E → jb_Cap R C0 S0 r.2 → ck z i a = true → h φ E a i L S M κ = some r →
  (∀ i L S M, κ i L S M = some r → jb_gr M r.2 ∧ jb_Wat p l e R s m args below meth c Q G φ z C0 S0 ad0 lim0 i L S M) → jb_Ret p l e R s m args below meth c Q G φ z C0 S0 ad0 lim0 r → jb_Wat p l e R s m args below meth c Q G φ z C0 S0 ad0 lim0 i L S M
theorem jn_ofw (x : Int) : Int32.ofInt (ja_w x) = Int32.ofInt x := by
  apply Int32.toInt_inj.mp
  rw [jn_i (jn_w _), Int32.toInt_ofInt]
  rfl
theorem jn_ofW (x : Int) : Int64.ofInt (ja_W x) = Int64.ofInt x := by
  apply Int64.toInt_inj.mp
  rw [jn_l (jn_W _), Int64.toInt_ofInt]
  rfl
theorem jn_rem {x y : Int} (hx : -2147483648 ≤ x ∧ x < 2147483648) (hy : -2147483648 ≤ y ∧ y < 2147483648) : Int32.ofInt x - Int32.ofInt x / Int32.ofInt y * Int32.ofInt y = Int32.ofInt (x.tmod y) := by
  rw [← jn_div hx hy, jn_ofw, ← jn_mul, jn_ofw, ← jn_sub, jn_ofw, Int.tmod_def, Int.mul_comm y]
theorem jn_lrem {x y : Int} (hx : -9223372036854775808 ≤ x ∧ x < 9223372036854775808) (hy : -9223372036854775808 ≤ y ∧ y < 9223372036854775808) : Int64.ofInt x - Int64.ofInt x / Int64.ofInt y * Int64.ofInt y = Int64.ofInt (x.tmod y) := by
  rw [← jn_ldiv hx hy, jn_ofW, ← jn_lmul, jn_ofW, ← jn_lsub, jn_ofW, Int.tmod_def, Int.mul_comm y]
theorem jb_or {a b : Bool} (h : (a || b) = true) : a = true ∨ b = true := by cases a <;> simp_all
theorem jb_and {a b : Bool} (h : (a && b) = true) : a = true ∧ b = true := by cases a <;> simp_all
theorem jb_cond {b : Bool} {x : Option ja_R} {r : ja_R} (h : cond b x none = some r) : b = true ∧ x = some r := by cases b <;> simp_all
theorem jb_if {q : Prop} [Decidable q] {x : Option ja_R} {r : ja_R} (h : (if q then x else none) = some r) : q ∧ x = some r := by
  by_cases hq : q
  · rw [if_pos hq] at h
    exact ⟨hq, h⟩
  · rw [if_neg hq] at h
    cases h
theorem jb_and32 (x y : Int) : jb_ok (ji (ja_and x y)) := jn_r _
theorem jb_is0 {y : Int} (h : ja_is0 y = false) : y ≠ 0 := by
  intro q
  subst q
  cases h
theorem jb_cond0 {b : Bool} {x : Option ja_R} {r : ja_R} (h : cond b none x = some r) : b = false ∧ x = some r := by cases b <;> simp_all
theorem jb_i0 {x : Int} (h : jb_ok (ji x)) (hz : x ≠ 0) : ¬ Int32.ofInt x = 0 := by
  intro q
  have := congrArg Int32.toInt q
  rw [jn_i h] at this
  exact hz this
theorem jb_l0 {x : Int} (h : jb_ok (jl x)) (hz : x ≠ 0) : ¬ Int64.ofInt x = 0 := by
  intro q
  have := congrArg Int64.toInt q
  rw [jn_l h] at this
  exact hz this

set_option maxHeartbeats 4000000 in
theorem jw_ipush : jb_SH jh_ipush jc_ipush := by
  intro p l e R s m args below meth c Q G φ z d C0 S0 ad0 lim0 E a i L S M κ r F EO CP ck h hκ hR ad H locs ls I hS
  obtain ⟨⟨hx, hb, hml, hown, hts⟩, ⟨hK, hA⟩, ⟨hfr, hlo⟩, hin, hao⟩ := F
  obtain ⟨ck0, ck⟩ := jb_and ck
  obtain ⟨c1, c2⟩ := jb_and ck0
  have o0 : jb_ok (ji a.2.2.2.1) := ⟨of_decide_eq_true c1, of_decide_eq_true c2⟩
  have w := (hκ _ _ _ _ h).2 ad H locs ls I (List.forall_mem_cons.mpr ⟨o0, hS⟩)
  rcases jb_or ck with ck | ck
  · obtain ⟨hd, hn⟩ := jc_d_of ck
    rw [hn] at w
    exact lv_iconst hx hb hd rfl w
  rcases jb_or ck with ck | ck
  · obtain ⟨ck, hv⟩ := jb_and ck
    obtain ⟨hd, hn⟩ := jc_d_of ck
    rw [hn] at w
    exact lv_bipush hx hb hd (of_decide_eq_true hv) w
  rcases jb_or ck with ck | ck
  · obtain ⟨ck, hv⟩ := jb_and ck
    obtain ⟨hd, hn⟩ := jc_d_of ck
    rw [hn] at w
    exact lv_sipush hx hb hd (of_decide_eq_true hv) w
  obtain ⟨ca, ck⟩ := jb_and ck
  obtain ⟨q, hq, hq2⟩ := List.any_eq_true.mp ca
  obtain ⟨q1, hq2⟩ := jb_and hq2
  obtain ⟨q2, q3⟩ := jb_and hq2
  have hc := jm_in (jk_ok q hq) rfl
  rw [Nat.eq_of_beq_eq_true q1, Nat.eq_of_beq_eq_true q2, of_decide_eq_true q3] at hc
  rcases jb_or ck with ck | ck
  · obtain ⟨hd, hn⟩ := jc_d_of ck
    rw [hn] at w
    exact lv_ldc hx hb hown (hts _ hc) hd w
  · obtain ⟨hd, hn⟩ := jc_d_of ck
    rw [hn] at w
    exact lv_ldcw hx hb hown (hts _ hc) hd w

set_option maxHeartbeats 4000000 in
theorem jw_lpush : jb_SH jh_lpush jc_lpush := by
  intro p l e R s m args below meth c Q G φ z d C0 S0 ad0 lim0 E a i L S M κ r F EO CP ck h hκ hR ad H locs ls I hS
  obtain ⟨⟨hx, hb, hml, hown, hts⟩, ⟨hK, hA⟩, ⟨hfr, hlo⟩, hin, hao⟩ := F
  obtain ⟨ck0, ck⟩ := jb_and ck
  obtain ⟨c1, c2⟩ := jb_and ck0
  have o0 : jb_ok (jl a.2.2.2.1) := ⟨of_decide_eq_true c1, of_decide_eq_true c2⟩
  have w := (hκ _ _ _ _ h).2 ad H locs ls I (List.forall_mem_cons.mpr ⟨o0, hS⟩)
  rcases jb_or ck with ck | ck
  · obtain ⟨ck, hv⟩ := jb_and ck
    obtain ⟨hd, hn⟩ := jc_d_of ck
    rw [hn] at w
    exact lv_lconst hx hb hd (of_decide_eq_true hv) w
  obtain ⟨ca, ck⟩ := jb_and ck
  obtain ⟨q, hq, hq2⟩ := List.any_eq_true.mp ca
  obtain ⟨q1, hq2⟩ := jb_and hq2
  obtain ⟨q2, q3⟩ := jb_and hq2
  have hc := jm_in (jkl_ok q hq) rfl
  rw [Nat.eq_of_beq_eq_true q1, Nat.eq_of_beq_eq_true q2, of_decide_eq_true q3] at hc
  obtain ⟨hd, hn⟩ := jc_d_of ck
  rw [hn] at w
  exact lv_ldc2 hx hb hown (hts _ hc) hd w

set_option maxHeartbeats 4000000 in
theorem jw_load : jb_SH jh_load jc_load := by
  intro p l e R s m args below meth c Q G φ z d C0 S0 ad0 lim0 E a i L S M κ r F EO CP ck h hκ hR ad H locs ls I hS
  obtain ⟨⟨hx, hb, hml, hown, hts⟩, ⟨hK, hA⟩, ⟨hfr, hlo⟩, hin, hao⟩ := F
  have e : jh_load φ E a i L S M κ = (match L[a.2.1]? with
    | some (some v) => cond (Nat.beq (ja_kind v) a.2.2.1) (κ (i + 1) L (v :: S) M) none
    | _ => none) := rfl
  rw [e] at h
  rcases ho : L[a.2.1]? with _ | _ | v
  · rw [ho] at h; cases h
  · rw [ho] at h; cases h
  rw [ho] at h
  obtain ⟨hk, h⟩ := jb_cond h
  have hk := Nat.eq_of_beq_eq_true hk
  have ov : jb_ok v := I.2.1.2.2 v (List.mem_of_getElem? ho)
  have w := (hκ _ _ _ _ h).2 ad H locs ls I (List.forall_mem_cons.mpr ⟨ov, hS⟩)
  have hl := jb_lget I.2.1.1 ho
  rcases jb_or ck with ck | ck
  · obtain ⟨k0, ck⟩ := jb_and ck
    have k0 := Nat.eq_of_beq_eq_true k0
    rcases v with x | x | x <;> first | (simp [ja_kind] at hk; omega) | skip
    rcases jb_or ck with ck | ck
    · obtain ⟨hd, hn⟩ := jc_d_of ck
      rw [hn] at w
      exact lv_iload hx hb hd hl w
    · obtain ⟨c4, ck⟩ := jb_and ck
      obtain ⟨hd, hn⟩ := jc_d_of ck
      rw [hn] at w
      exact lv_iload_n hx hb hd (Nat.mod_eq_of_lt (Nat.blt_eq.mp c4)) hl w
  rcases jb_or ck with ck | ck
  · obtain ⟨k0, ck⟩ := jb_and ck
    have k0 := Nat.eq_of_beq_eq_true k0
    rcases v with x | x | x <;> first | (simp [ja_kind] at hk; omega) | skip
    rcases jb_or ck with ck | ck
    · obtain ⟨hd, hn⟩ := jc_d_of ck
      rw [hn] at w
      exact lv_lload hx hb hd hl w
    · obtain ⟨c4, ck⟩ := jb_and ck
      obtain ⟨hd, hn⟩ := jc_d_of ck
      rw [hn] at w
      exact lv_lload_n hx hb hd (Nat.mod_eq_of_lt (Nat.blt_eq.mp c4)) hl w
  · obtain ⟨k0, ck⟩ := jb_and ck
    have k0 := Nat.eq_of_beq_eq_true k0
    rcases v with x | x | x <;> first | (simp [ja_kind] at hk; omega) | skip
    cases x with
    | zero =>
      rcases jb_or ck with ck | ck
      · obtain ⟨hd, hn⟩ := jc_d_of ck
        rw [hn] at w
        exact lv_aloadN hx hb hd hl w
      · obtain ⟨c4, ck⟩ := jb_and ck
        obtain ⟨hd, hn⟩ := jc_d_of ck
        rw [hn] at w
        exact lv_aload_nN hx hb hd (Nat.mod_eq_of_lt (Nat.blt_eq.mp c4)) hl w
    | succ x =>
      rcases jb_or ck with ck | ck
      · obtain ⟨hd, hn⟩ := jc_d_of ck
        rw [hn] at w
        exact lv_aload hx hb hd hl w
      · obtain ⟨c4, ck⟩ := jb_and ck
        obtain ⟨hd, hn⟩ := jc_d_of ck
        rw [hn] at w
        exact lv_aload_n hx hb hd (Nat.mod_eq_of_lt (Nat.blt_eq.mp c4)) hl w

set_option maxHeartbeats 4000000 in
theorem jw_st1 : jb_SH jh_st1 jc_st1 := by
  intro p l e R s m args below meth c Q G φ z d C0 S0 ad0 lim0 E a i L S M κ r F EO CP ck h hκ hR ad H locs ls I hS
  obtain ⟨⟨hx, hb, hml, hown, hts⟩, ⟨hK, hA⟩, ⟨hfr, hlo⟩, hin, hao⟩ := F
  have st : ∀ (v : ja_V), jb_ok v → a.2.1 < L.length → ∀ ls' : Array Slot, lv_has ls' (ja_maxL z) ((a.2.1, jb_v ad v) :: (jb_lv ad 0 L).filter (fun q => !(q.1 == a.2.1) && !(q.1 + 1 == a.2.1 && q.2.category == 2))) → jb_I G φ s (ja_maxL z) C0 S0 ad0 lim0 ad M H locs (ja_set1 L a.2.1 v) ls' := by
    intro v ov hi ls' hl'
    obtain ⟨I1, ⟨I2, I3, I4⟩, I5⟩ := I
    exact ⟨I1, ⟨lv_less hl' (jb_set1_sub hi), by rw [ja_set1_len]; exact I3, jb_set1_ok I4 ov⟩, I5⟩
  have hlen := I.2.1.2.1
  have hlv := I.2.1.1
  rcases S with _ | ⟨x | x | x, S⟩ <;> first | (cases h; done) | skip
  · obtain ⟨hc, h⟩ := jb_cond h
    obtain ⟨hc, hk⟩ := jb_and hc
    have hi : a.2.1 < L.length := Nat.blt_eq.mp hc
    have hk := Nat.eq_of_beq_eq_true hk
    rw [ja_fc_eq] at h
    obtain ⟨o0, hS⟩ := List.forall_mem_cons.mp hS
    have w := fun ls' hl' => (hκ _ _ _ _ h).2 ad H locs ls' (st (ji x) o0 hi ls' hl') hS
    rcases jb_or ck with ck | ck
    · obtain ⟨-, ck⟩ := jb_and ck
      rcases jb_or ck with ck | ck
      · obtain ⟨hd, hn⟩ := jc_d_of ck
        rw [hn] at w
        exact lv_istore hx hb hd hlv (by omega) rfl w
      · obtain ⟨c4, ck⟩ := jb_and ck
        obtain ⟨hd, hn⟩ := jc_d_of ck
        rw [hn] at w
        exact lv_istore_n hx hb hd (Nat.mod_eq_of_lt (Nat.blt_eq.mp c4)) hlv (by omega) rfl w
    · obtain ⟨k2, -⟩ := jb_and ck
      have k2 := Nat.eq_of_beq_eq_true k2
      omega
  · obtain ⟨hc, h⟩ := jb_cond h
    obtain ⟨hc, hk⟩ := jb_and hc
    have hi : a.2.1 < L.length := Nat.blt_eq.mp hc
    have hk := Nat.eq_of_beq_eq_true hk
    rw [ja_fc_eq] at h
    obtain ⟨o0, hS⟩ := List.forall_mem_cons.mp hS
    have w := fun ls' hl' => (hκ _ _ _ _ h).2 ad H locs ls' (st (jr x) o0 hi ls' hl') hS
    rcases jb_or ck with ck | ck
    · obtain ⟨k2, -⟩ := jb_and ck
      have k2 := Nat.eq_of_beq_eq_true k2
      omega
    · obtain ⟨-, ck⟩ := jb_and ck
      cases x with
      | zero =>
        rcases jb_or ck with ck | ck
        · obtain ⟨hd, hn⟩ := jc_d_of ck
          rw [hn] at w
          exact lv_astoreN hx hb hd hlv (by omega) rfl w
        · obtain ⟨c4, ck⟩ := jb_and ck
          obtain ⟨hd, hn⟩ := jc_d_of ck
          rw [hn] at w
          exact lv_astore_nN hx hb hd (Nat.mod_eq_of_lt (Nat.blt_eq.mp c4)) hlv (by omega) rfl w
      | succ x =>
        rcases jb_or ck with ck | ck
        · obtain ⟨hd, hn⟩ := jc_d_of ck
          rw [hn] at w
          exact lv_astore hx hb hd hlv (by omega) rfl w
        · obtain ⟨c4, ck⟩ := jb_and ck
          obtain ⟨hd, hn⟩ := jc_d_of ck
          rw [hn] at w
          exact lv_astore_n hx hb hd (Nat.mod_eq_of_lt (Nat.blt_eq.mp c4)) hlv (by omega) rfl w

set_option maxHeartbeats 4000000 in
theorem jw_st2 : jb_SH jh_st2 jc_st2 := by
  intro p l e R s m args below meth c Q G φ z d C0 S0 ad0 lim0 E a i L S M κ r F EO CP ck h hκ hR ad H locs ls I hS
  obtain ⟨⟨hx, hb, hml, hown, hts⟩, ⟨hK, hA⟩, ⟨hfr, hlo⟩, hin, hao⟩ := F
  have hlen := I.2.1.2.1
  have hlv := I.2.1.1
  rcases S with _ | ⟨x | x | x, S⟩ <;> first | (cases h; done) | skip
  obtain ⟨hc, h⟩ := jb_cond h
  have hi : a.2.1 + 1 < L.length := Nat.blt_eq.mp hc
  rw [ja_fc_eq] at h
  obtain ⟨o0, hS⟩ := List.forall_mem_cons.mp hS
  have w : ∀ ls' : Array Slot, lv_has ls' (ja_maxL z) ((a.2.1, jb_v ad (jl x)) :: (jb_lv ad 0 L).filter (fun q => !(q.1 == a.2.1) && (!(q.1 == a.2.1 + 1) && !(q.1 + 1 == a.2.1 && q.2.category == 2)))) → _ := fun ls' hl' => (hκ _ _ _ _ h).2 ad H locs ls' (by
    obtain ⟨I1, ⟨I2, I3, I4⟩, I5⟩ := I
    exact ⟨I1, ⟨lv_less hl' (jb_set2_sub hi), by rw [ja_set2_len]; exact I3, jb_set2_ok I4 o0⟩, I5⟩) hS
  rcases jb_or ck with ck | ck
  · obtain ⟨hd, hn⟩ := jc_d_of ck
    rw [hn] at w
    exact lv_lstore hx hb hd hlv (by omega) rfl w
  · obtain ⟨c4, ck⟩ := jb_and ck
    obtain ⟨hd, hn⟩ := jc_d_of ck
    rw [hn] at w
    exact lv_lstore_n hx hb hd (Nat.mod_eq_of_lt (Nat.blt_eq.mp c4)) hlv (by omega) rfl w

set_option maxHeartbeats 4000000 in
theorem jw_iinc : jb_SH jh_iinc jc_iinc := by
  intro p l e R s m args below meth c Q G φ z d C0 S0 ad0 lim0 E a i L S M κ r F EO CP ck h hκ hR ad H locs ls I hS
  obtain ⟨⟨hx, hb, hml, hown, hts⟩, ⟨hK, hA⟩, ⟨hfr, hlo⟩, hin, hao⟩ := F
  have e : jh_iinc φ E a i L S M κ = (match L[a.2.1]? with
    | some (some (.inl x)) => ja_fc (ja_set1 L a.2.1 (ji (ja_w (x + a.2.2.2.1)))) (fun L => κ (i + 1) L S M)
    | _ => none) := rfl
  rw [e] at h
  have hlen := I.2.1.2.1
  have hlv := I.2.1.1
  rcases ho : L[a.2.1]? with _ | _ | x | x | x
  · rw [ho] at h; cases h
  · rw [ho] at h; cases h
  · rw [ho] at h
    have h : ja_fc (ja_set1 L a.2.1 (ji (ja_w (x + a.2.2.2.1)))) (fun L => κ (i + 1) L S M) = some r := h
    rw [ja_fc_eq] at h
    have hi : a.2.1 < L.length := (List.getElem?_eq_some_iff.mp ho).1
    have w : ∀ ls' : Array Slot, lv_has ls' (ja_maxL z) ((a.2.1, jb_v ad (ji (ja_w (x + a.2.2.2.1)))) :: (jb_lv ad 0 L).filter (fun q => !(q.1 == a.2.1) && !(q.1 + 1 == a.2.1 && q.2.category == 2))) → _ := fun ls' hl' => (hκ _ _ _ _ h).2 ad H locs ls' (by
      obtain ⟨I1, ⟨I2, I3, I4⟩, I5⟩ := I
      exact ⟨I1, ⟨lv_less hl' (jb_set1_sub hi), by rw [ja_set1_len]; exact I3, jb_set1_ok I4 (jn_w _)⟩, I5⟩) hS
    obtain ⟨hd, hn⟩ := jc_d_of ck
    rw [hn] at w
    obtain ⟨k, hk⟩ := List.getElem?_of_mem (jb_lv_of (ad := ad) L 0 a.2.1 (ji x) ho)
    rw [Nat.zero_add] at hk
    exact lv_iinc hx hb hd hlv hk (jn_add x a.2.2.2.1).symm (by omega) rfl w
  · rw [ho] at h; cases h
  · rw [ho] at h; cases h

set_option maxHeartbeats 4000000 in
theorem jw_ibin : jb_SH jh_ibin jc_ibin := by
  intro p l e R s m args below meth c Q G φ z d C0 S0 ad0 lim0 E a i L S M κ r F EO CP ck h hκ hR ad H locs ls I hS
  obtain ⟨⟨hx, hb, hml, hown, hts⟩, ⟨hK, hA⟩, ⟨hfr, hlo⟩, hin, hao⟩ := F
  rcases S with _ | ⟨x0 | x0 | x0, _ | ⟨x1 | x1 | x1, S⟩⟩ <;> first | (cases h; done) | skip
  obtain ⟨c9, ck⟩ := jb_and ck
  have c9 : a.2.1 < 9 := Nat.blt_eq.mp c9
  obtain ⟨hd, hn⟩ := jc_d_of ck
  obtain ⟨o0, hS⟩ := List.forall_mem_cons.mp hS
  obtain ⟨o1, hS⟩ := List.forall_mem_cons.mp hS
  have h : κ (i + 1) L (ji (ja_ib a.2.1 x1 x0) :: S) M = some r := h
  generalize a.2.1 = k at h hd c9
  rcases k with _ | _ | _ | _ | _ | _ | _ | _ | _ | k
  · have w := (hκ _ _ _ _ h).2 ad H locs ls I (List.forall_mem_cons.mpr ⟨jn_w _, hS⟩)
    rw [hn] at w
    refine lv_iadd hx hb hd ?_
    rw [← jn_add]
    exact w
  · have w := (hκ _ _ _ _ h).2 ad H locs ls I (List.forall_mem_cons.mpr ⟨jn_w _, hS⟩)
    rw [hn] at w
    refine lv_isub hx hb hd ?_
    rw [← jn_sub]
    exact w
  · have w := (hκ _ _ _ _ h).2 ad H locs ls I (List.forall_mem_cons.mpr ⟨jn_w _, hS⟩)
    rw [hn] at w
    refine lv_imul hx hb hd ?_
    rw [← jn_mul]
    exact w
  · have w := (hκ _ _ _ _ h).2 ad H locs ls I (List.forall_mem_cons.mpr ⟨jn_r _, hS⟩)
    rw [hn] at w
    refine lv_iand hx hb hd ?_
    rw [← jn_back (Int32.ofInt x1 &&& Int32.ofInt x0)]
    exact w
  · have w := (hκ _ _ _ _ h).2 ad H locs ls I (List.forall_mem_cons.mpr ⟨jn_r _, hS⟩)
    rw [hn] at w
    refine lv_ior hx hb hd ?_
    rw [← jn_back (Int32.ofInt x1 ||| Int32.ofInt x0)]
    exact w
  · have w := (hκ _ _ _ _ h).2 ad H locs ls I (List.forall_mem_cons.mpr ⟨jn_r _, hS⟩)
    rw [hn] at w
    refine lv_ixor hx hb hd ?_
    rw [← jn_back (Int32.ofInt x1 ^^^ Int32.ofInt x0)]
    exact w
  · have w := (hκ _ _ _ _ h).2 ad H locs ls I (List.forall_mem_cons.mpr ⟨jn_r _, hS⟩)
    rw [hn] at w
    refine lv_ishl hx hb hd ?_
    rw [← jn_back (Int32.ofInt x1 <<< (Int32.ofInt x0 &&& 31))]
    exact w
  · have w := (hκ _ _ _ _ h).2 ad H locs ls I (List.forall_mem_cons.mpr ⟨jn_r _, hS⟩)
    rw [hn] at w
    refine lv_ishr hx hb hd ?_
    rw [← jn_back (Int32.ofInt x1 >>> (Int32.ofInt x0 &&& 31))]
    exact w
  · have w := (hκ _ _ _ _ h).2 ad H locs ls I (List.forall_mem_cons.mpr ⟨jn_r _, hS⟩)
    rw [hn] at w
    exact lv_iushr hx hb hd (jn_back _).symm w
  · omega

set_option maxHeartbeats 4000000 in
theorem jw_idiv : jb_SH jh_idiv jc_idiv := by
  intro p l e R s m args below meth c Q G φ z d C0 S0 ad0 lim0 E a i L S M κ r F EO CP ck h hκ hR ad H locs ls I hS
  obtain ⟨⟨hx, hb, hml, hown, hts⟩, ⟨hK, hA⟩, ⟨hfr, hlo⟩, hin, hao⟩ := F
  rcases S with _ | ⟨x0 | x0 | x0, _ | ⟨x1 | x1 | x1, S⟩⟩ <;> first | (cases h; done) | skip
  obtain ⟨h0, h⟩ := jb_cond0 h
  have h0 := jb_is0 h0
  obtain ⟨hd, hn⟩ := jc_d_of ck
  obtain ⟨o0, hS⟩ := List.forall_mem_cons.mp hS
  obtain ⟨o1, hS⟩ := List.forall_mem_cons.mp hS
  have w := (hκ _ _ _ _ h).2 ad H locs ls I (List.forall_mem_cons.mpr ⟨jn_w _, hS⟩)
  rw [hn] at w
  refine lv_idiv hx hb hd (jb_i0 o0 h0) ?_
  rw [← jn_div o1 o0]
  exact w

set_option maxHeartbeats 4000000 in
theorem jw_irem : jb_SH jh_irem jc_irem := by
  intro p l e R s m args below meth c Q G φ z d C0 S0 ad0 lim0 E a i L S M κ r F EO CP ck h hκ hR ad H locs ls I hS
  obtain ⟨⟨hx, hb, hml, hown, hts⟩, ⟨hK, hA⟩, ⟨hfr, hlo⟩, hin, hao⟩ := F
  rcases S with _ | ⟨x0 | x0 | x0, _ | ⟨x1 | x1 | x1, S⟩⟩ <;> first | (cases h; done) | skip
  obtain ⟨h0, h⟩ := jb_cond0 h
  have h0 := jb_is0 h0
  obtain ⟨hd, hn⟩ := jc_d_of ck
  obtain ⟨o0, hS⟩ := List.forall_mem_cons.mp hS
  obtain ⟨o1, hS⟩ := List.forall_mem_cons.mp hS
  have w := (hκ _ _ _ _ h).2 ad H locs ls I (List.forall_mem_cons.mpr ⟨by rw [← jn_mod o1 o0]; exact jn_r _, hS⟩)
  rw [hn] at w
  refine lv_irem hx hb hd (jb_i0 o0 h0) ?_
  rw [jn_rem o1 o0]
  exact w

set_option maxHeartbeats 4000000 in
theorem jw_ineg : jb_SH jh_ineg jc_ineg := by
  intro p l e R s m args below meth c Q G φ z d C0 S0 ad0 lim0 E a i L S M κ r F EO CP ck h hκ hR ad H locs ls I hS
  obtain ⟨⟨hx, hb, hml, hown, hts⟩, ⟨hK, hA⟩, ⟨hfr, hlo⟩, hin, hao⟩ := F
  rcases S with _ | ⟨x0 | x0 | x0, S⟩ <;> first | (cases h; done) | skip
  obtain ⟨hd, hn⟩ := jc_d_of ck
  obtain ⟨o0, hS⟩ := List.forall_mem_cons.mp hS
  have w := (hκ _ _ _ _ h).2 ad H locs ls I (List.forall_mem_cons.mpr ⟨jn_w _, hS⟩)
  rw [hn] at w
  refine lv_ineg hx hb hd ?_
  rw [← jn_neg]
  exact w

set_option maxHeartbeats 4000000 in
theorem jw_lbin : jb_SH jh_lbin jc_lbin := by
  intro p l e R s m args below meth c Q G φ z d C0 S0 ad0 lim0 E a i L S M κ r F EO CP ck h hκ hR ad H locs ls I hS
  obtain ⟨⟨hx, hb, hml, hown, hts⟩, ⟨hK, hA⟩, ⟨hfr, hlo⟩, hin, hao⟩ := F
  rcases S with _ | ⟨x0 | x0 | x0, _ | ⟨x1 | x1 | x1, S⟩⟩ <;> first | (cases h; done) | skip
  obtain ⟨c9, ck⟩ := jb_and ck
  have c9 : a.2.1 < 5 := Nat.blt_eq.mp c9
  obtain ⟨hd, hn⟩ := jc_d_of ck
  obtain ⟨o0, hS⟩ := List.forall_mem_cons.mp hS
  obtain ⟨o1, hS⟩ := List.forall_mem_cons.mp hS
  have h : κ (i + 1) L (jl (ja_lb a.2.1 x1 x0) :: S) M = some r := h
  generalize a.2.1 = k at h hd c9
  rcases k with _ | _ | _ | _ | _ | k
  · have w := (hκ _ _ _ _ h).2 ad H locs ls I (List.forall_mem_cons.mpr ⟨jn_W _, hS⟩)
    rw [hn] at w
    refine lv_ladd hx hb hd ?_
    rw [← jn_ladd]
    exact w
  · have w := (hκ _ _ _ _ h).2 ad H locs ls I (List.forall_mem_cons.mpr ⟨jn_W _, hS⟩)
    rw [hn] at w
    refine lv_lsub hx hb hd ?_
    rw [← jn_lsub]
    exact w
  · have w := (hκ _ _ _ _ h).2 ad H locs ls I (List.forall_mem_cons.mpr ⟨jn_W _, hS⟩)
    rw [hn] at w
    refine lv_lmul hx hb hd ?_
    rw [← jn_lmul]
    exact w
  · have w := (hκ _ _ _ _ h).2 ad H locs ls I (List.forall_mem_cons.mpr ⟨jn_rl _, hS⟩)
    rw [hn] at w
    refine lv_land hx hb hd ?_
    rw [← jn_backl (Int64.ofInt x1 &&& Int64.ofInt x0)]
    exact w
  · have w := (hκ _ _ _ _ h).2 ad H locs ls I (List.forall_mem_cons.mpr ⟨jn_rl _, hS⟩)
    rw [hn] at w
    refine lv_lor hx hb hd ?_
    rw [← jn_backl (Int64.ofInt x1 ||| Int64.ofInt x0)]
    exact w
  · omega

set_option maxHeartbeats 4000000 in
theorem jw_ldiv : jb_SH jh_ldiv jc_ldiv := by
  intro p l e R s m args below meth c Q G φ z d C0 S0 ad0 lim0 E a i L S M κ r F EO CP ck h hκ hR ad H locs ls I hS
  obtain ⟨⟨hx, hb, hml, hown, hts⟩, ⟨hK, hA⟩, ⟨hfr, hlo⟩, hin, hao⟩ := F
  rcases S with _ | ⟨x0 | x0 | x0, _ | ⟨x1 | x1 | x1, S⟩⟩ <;> first | (cases h; done) | skip
  obtain ⟨h0, h⟩ := jb_cond0 h
  have h0 := jb_is0 h0
  obtain ⟨hd, hn⟩ := jc_d_of ck
  obtain ⟨o0, hS⟩ := List.forall_mem_cons.mp hS
  obtain ⟨o1, hS⟩ := List.forall_mem_cons.mp hS
  have w := (hκ _ _ _ _ h).2 ad H locs ls I (List.forall_mem_cons.mpr ⟨jn_W _, hS⟩)
  rw [hn] at w
  refine lv_ldiv hx hb hd (jb_l0 o0 h0) ?_
  rw [← jn_ldiv o1 o0]
  exact w

set_option maxHeartbeats 4000000 in
theorem jw_lrem : jb_SH jh_lrem jc_lrem := by
  intro p l e R s m args below meth c Q G φ z d C0 S0 ad0 lim0 E a i L S M κ r F EO CP ck h hκ hR ad H locs ls I hS
  obtain ⟨⟨hx, hb, hml, hown, hts⟩, ⟨hK, hA⟩, ⟨hfr, hlo⟩, hin, hao⟩ := F
  rcases S with _ | ⟨x0 | x0 | x0, _ | ⟨x1 | x1 | x1, S⟩⟩ <;> first | (cases h; done) | skip
  obtain ⟨h0, h⟩ := jb_cond0 h
  have h0 := jb_is0 h0
  obtain ⟨hd, hn⟩ := jc_d_of ck
  obtain ⟨o0, hS⟩ := List.forall_mem_cons.mp hS
  obtain ⟨o1, hS⟩ := List.forall_mem_cons.mp hS
  have w := (hκ _ _ _ _ h).2 ad H locs ls I (List.forall_mem_cons.mpr ⟨by show jb_ok (jl _); rw [← jn_lmod o1 o0]; exact jn_rl _, hS⟩)
  rw [hn] at w
  refine lv_lrem hx hb hd (jb_l0 o0 h0) ?_
  rw [jn_lrem o1 o0]
  exact w

set_option maxHeartbeats 4000000 in
theorem jw_lshl : jb_SH jh_lshl jc_lshl := by
  intro p l e R s m args below meth c Q G φ z d C0 S0 ad0 lim0 E a i L S M κ r F EO CP ck h hκ hR ad H locs ls I hS
  obtain ⟨⟨hx, hb, hml, hown, hts⟩, ⟨hK, hA⟩, ⟨hfr, hlo⟩, hin, hao⟩ := F
  rcases S with _ | ⟨x0 | x0 | x0, _ | ⟨x1 | x1 | x1, S⟩⟩ <;> first | (cases h; done) | skip
  obtain ⟨hd, hn⟩ := jc_d_of ck
  obtain ⟨o0, hS⟩ := List.forall_mem_cons.mp hS
  obtain ⟨o1, hS⟩ := List.forall_mem_cons.mp hS
  have w := (hκ _ _ _ _ h).2 ad H locs ls I (List.forall_mem_cons.mpr ⟨jn_rl _, hS⟩)
  rw [hn] at w
  exact lv_lshl hx hb hd (jn_backl _).symm w

set_option maxHeartbeats 4000000 in
theorem jw_lush : jb_SH jh_lush jc_lush := by
  intro p l e R s m args below meth c Q G φ z d C0 S0 ad0 lim0 E a i L S M κ r F EO CP ck h hκ hR ad H locs ls I hS
  obtain ⟨⟨hx, hb, hml, hown, hts⟩, ⟨hK, hA⟩, ⟨hfr, hlo⟩, hin, hao⟩ := F
  rcases S with _ | ⟨x0 | x0 | x0, _ | ⟨x1 | x1 | x1, S⟩⟩ <;> first | (cases h; done) | skip
  obtain ⟨hd, hn⟩ := jc_d_of ck
  obtain ⟨o0, hS⟩ := List.forall_mem_cons.mp hS
  obtain ⟨o1, hS⟩ := List.forall_mem_cons.mp hS
  have w := (hκ _ _ _ _ h).2 ad H locs ls I (List.forall_mem_cons.mpr ⟨jn_rl _, hS⟩)
  rw [hn] at w
  exact lv_lushr hx hb hd (jn_backl _).symm w

set_option maxHeartbeats 4000000 in
theorem jw_i2l : jb_SH jh_i2l jc_i2l := by
  intro p l e R s m args below meth c Q G φ z d C0 S0 ad0 lim0 E a i L S M κ r F EO CP ck h hκ hR ad H locs ls I hS
  obtain ⟨⟨hx, hb, hml, hown, hts⟩, ⟨hK, hA⟩, ⟨hfr, hlo⟩, hin, hao⟩ := F
  rcases S with _ | ⟨x0 | x0 | x0, S⟩ <;> first | (cases h; done) | skip
  obtain ⟨hd, hn⟩ := jc_d_of ck
  obtain ⟨o0, hS⟩ := List.forall_mem_cons.mp hS
  have w := (hκ _ _ _ _ h).2 ad H locs ls I (List.forall_mem_cons.mpr ⟨(show jb_ok (jl x0) by have := o0; unfold jb_ok at *; simp only at *; omega), hS⟩)
  rw [hn] at w
  exact lv_i2l hx hb hd (jn_i2l o0) w

set_option maxHeartbeats 4000000 in
theorem jw_l2i : jb_SH jh_l2i jc_l2i := by
  intro p l e R s m args below meth c Q G φ z d C0 S0 ad0 lim0 E a i L S M κ r F EO CP ck h hκ hR ad H locs ls I hS
  obtain ⟨⟨hx, hb, hml, hown, hts⟩, ⟨hK, hA⟩, ⟨hfr, hlo⟩, hin, hao⟩ := F
  rcases S with _ | ⟨x0 | x0 | x0, S⟩ <;> first | (cases h; done) | skip
  obtain ⟨hd, hn⟩ := jc_d_of ck
  obtain ⟨o0, hS⟩ := List.forall_mem_cons.mp hS
  have w := (hκ _ _ _ _ h).2 ad H locs ls I (List.forall_mem_cons.mpr ⟨jn_w _, hS⟩)
  rw [hn] at w
  exact lv_l2i hx hb hd (jn_l2i o0) w

set_option maxHeartbeats 4000000 in
theorem jw_lcmp : jb_SH jh_lcmp jc_lcmp := by
  intro p l e R s m args below meth c Q G φ z d C0 S0 ad0 lim0 E a i L S M κ r F EO CP ck h hκ hR ad H locs ls I hS
  obtain ⟨⟨hx, hb, hml, hown, hts⟩, ⟨hK, hA⟩, ⟨hfr, hlo⟩, hin, hao⟩ := F
  rcases S with _ | ⟨x0 | x0 | x0, _ | ⟨x1 | x1 | x1, S⟩⟩ <;> first | (cases h; done) | skip
  obtain ⟨hd, hn⟩ := jc_d_of ck
  obtain ⟨o0, hS⟩ := List.forall_mem_cons.mp hS
  obtain ⟨o1, hS⟩ := List.forall_mem_cons.mp hS
  have hb3 : jb_ok (ji (if x1 < x0 then -1 else if x1 = x0 then 0 else 1)) := by
    unfold jb_ok
    simp only
    split
    · omega
    · split <;> omega
  have w := (hκ _ _ _ _ h).2 ad H locs ls I (List.forall_mem_cons.mpr ⟨hb3, hS⟩)
  rw [hn] at w
  refine W.lcmp hx hb hd ?_
  have e : lg_cmp (Int64.ofInt x1) (Int64.ofInt x0) = Int32.ofInt (if x1 < x0 then -1 else if x1 = x0 then 0 else 1) := by
    unfold lg_cmp
    have e1 : (Int64.ofInt x1 > Int64.ofInt x0) ↔ x0 < x1 := by
      show Int64.ofInt x0 < Int64.ofInt x1 ↔ _
      rw [Int64.lt_iff_toInt_lt, jn_l o0, jn_l o1]
    have e2 : (Int64.ofInt x1 = Int64.ofInt x0) ↔ x1 = x0 := by
      rw [← Int64.toInt_inj, jn_l o0, jn_l o1]
    rcases Int.lt_trichotomy x1 x0 with q | q | q
    · rw [if_neg (fun w => by have := e1.mp w; omega), if_neg (fun w => by have := e2.mp w; omega), if_pos q]
      rfl
    · rw [if_neg (fun w => by have := e1.mp w; omega), if_pos (e2.mpr q), if_neg (by omega), if_pos q]
      rfl
    · rw [if_pos (e1.mpr q), if_neg (by omega), if_neg (by omega)]
      rfl
  rw [e]
  exact w

set_option maxHeartbeats 4000000 in
theorem jw_icmp : jb_SH jh_icmp jc_icmp := by
  intro p l e R s m args below meth c Q G φ z d C0 S0 ad0 lim0 E a i L S M κ r F EO CP ck h hκ hR ad H locs ls I hS
  obtain ⟨⟨hx, hb, hml, hown, hts⟩, ⟨hK, hA⟩, ⟨hfr, hlo⟩, hin, hao⟩ := F
  rcases S with _ | ⟨x0 | x0 | x0, _ | ⟨x1 | x1 | x1, S⟩⟩ <;> first | (cases h; done) | skip
  obtain ⟨hd, hn⟩ := jc_d_of ck
  obtain ⟨o0, hS⟩ := List.forall_mem_cons.mp hS
  obtain ⟨o1, hS⟩ := List.forall_mem_cons.mp hS
  have ht := jc_off_eq z i a.2.2.1
  have h : ja_cmp a.2.1 x1 x0 (κ a.2.2.1 L S M) (κ (i + 1) L S M) = some r := h
  have wt : κ a.2.2.1 L S M = some r → _ := fun h => (hκ _ _ _ _ h).2 ad H locs ls I hS
  have wf : κ (i + 1) L S M = some r → _ := fun h => (hκ _ _ _ _ h).2 ad H locs ls I hS
  rw [hn] at wf
  have ee := jn_eq o1 o0
  have el := jn_lt o1 o0
  have eg := jn_lt o0 o1
  have el2 := jn_le o1 o0
  have eg2 := jn_le o0 o1
  generalize a.2.1 = k at h hd
  unfold ja_cmp at h
  unfold jc_icI at hd
  rcases k with _ | _ | _ | _ | _ | k
  · exact lv_icmp_eq hx hb hd ht (fun q => wt (by simpa [ee.mp q] using h)) (fun q => wf (by simpa [show ¬ x1 = x0 from fun w => q (ee.mpr w)] using h))
  · exact lv_icmp_ne hx hb hd ht (fun q => wt (by simpa [show ¬ x1 = x0 from fun w => q (ee.mpr w)] using h)) (fun q => wf (by have q2 : x1 = x0 := ee.mp q; simpa [q2] using h))
  · exact lv_icmp_lt hx hb hd ht (fun q => wt (by simpa [el.mp q] using h)) (fun q => wf (by simpa [show ¬ x1 < x0 from fun w => q (el.mpr w)] using h))
  · exact lv_icmp_ge hx hb hd ht (fun q => wt (by simpa [show ¬ x1 < x0 from Int.not_lt.mpr (eg2.mp q)] using h)) (fun q => wf (by simpa [show x1 < x0 from Int.not_le.mp (fun w => q (eg2.mpr w))] using h))
  · exact lv_icmp_gt hx hb hd ht (fun q => wt (by simpa [eg.mp q] using h)) (fun q => wf (by simpa [show ¬ x0 < x1 from fun w => q (eg.mpr w)] using h))
  · exact lv_icmp_le hx hb hd ht (fun q => wt (by simpa [show ¬ x0 < x1 from Int.not_lt.mpr (el2.mp q)] using h)) (fun q => wf (by simpa [show x0 < x1 from Int.not_le.mp (fun w => q (el2.mpr w))] using h))

set_option maxHeartbeats 4000000 in
theorem jw_ifz : jb_SH jh_ifz jc_ifz := by
  intro p l e R s m args below meth c Q G φ z d C0 S0 ad0 lim0 E a i L S M κ r F EO CP ck h hκ hR ad H locs ls I hS
  obtain ⟨⟨hx, hb, hml, hown, hts⟩, ⟨hK, hA⟩, ⟨hfr, hlo⟩, hin, hao⟩ := F
  rcases S with _ | ⟨x0 | x0 | x0, S⟩ <;> first | (cases h; done) | skip
  obtain ⟨hd, hn⟩ := jc_d_of ck
  obtain ⟨o0, hS⟩ := List.forall_mem_cons.mp hS
  have ht := jc_off_eq z i a.2.2.1
  have h : ja_cmp a.2.1 x0 0 (κ a.2.2.1 L S M) (κ (i + 1) L S M) = some r := h
  have wt : κ a.2.2.1 L S M = some r → _ := fun h => (hκ _ _ _ _ h).2 ad H locs ls I hS
  have wf : κ (i + 1) L S M = some r → _ := fun h => (hκ _ _ _ _ h).2 ad H locs ls I hS
  rw [hn] at wf
  have hz : Int32.ofInt 0 = 0 := rfl
  have ee := jn_eq o0 (show jb_ok (ji 0) from ⟨by decide, by decide⟩)
  have el := jn_lt o0 (show jb_ok (ji 0) from ⟨by decide, by decide⟩)
  have eg := jn_lt (show jb_ok (ji 0) from ⟨by decide, by decide⟩) o0
  have el2 := jn_le o0 (show jb_ok (ji 0) from ⟨by decide, by decide⟩)
  have eg2 := jn_le (show jb_ok (ji 0) from ⟨by decide, by decide⟩) o0
  rw [hz] at ee el eg el2 eg2
  generalize a.2.1 = k at h hd
  unfold ja_cmp at h
  unfold jc_izI at hd
  rcases k with _ | _ | _ | _ | _ | k
  · exact lv_if_eq hx hb hd ht (fun q => wt (by simpa [ee.mp q] using h)) (fun q => wf (by simpa [show ¬ x0 = 0 from fun w => q (ee.mpr w)] using h))
  · exact lv_if_ne hx hb hd ht (fun q => wt (by simpa [show ¬ x0 = 0 from fun w => q (ee.mpr w)] using h)) (fun q => wf (by have q2 : x0 = 0 := ee.mp q; simpa [q2] using h))
  · exact lv_if_lt hx hb hd ht (fun q => wt (by simpa [el.mp q] using h)) (fun q => wf (by simpa [show ¬ x0 < 0 from fun w => q (el.mpr w)] using h))
  · exact lv_if_ge hx hb hd ht (fun q => wt (by simpa [show ¬ x0 < 0 from Int.not_lt.mpr (eg2.mp q)] using h)) (fun q => wf (by simpa [show x0 < 0 from Int.not_le.mp (fun w => q (eg2.mpr w))] using h))
  · exact lv_if_gt hx hb hd ht (fun q => wt (by simpa [eg.mp q] using h)) (fun q => wf (by simpa [show ¬ 0 < x0 from fun w => q (eg.mpr w)] using h))
  · exact lv_if_le hx hb hd ht (fun q => wt (by simpa [show ¬ 0 < x0 from Int.not_lt.mpr (el2.mp q)] using h)) (fun q => wf (by simpa [show 0 < x0 from Int.not_le.mp (fun w => q (el2.mpr w))] using h))

set_option maxHeartbeats 4000000 in
theorem jw_ifnull : jb_SH jh_ifnull jc_ifnull := by
  intro p l e R s m args below meth c Q G φ z d C0 S0 ad0 lim0 E a i L S M κ r F EO CP ck h hκ hR ad H locs ls I hS
  obtain ⟨⟨hx, hb, hml, hown, hts⟩, ⟨hK, hA⟩, ⟨hfr, hlo⟩, hin, hao⟩ := F
  rcases S with _ | ⟨x0 | x0 | x0, S⟩ <;> first | (cases h; done) | skip
  obtain ⟨hd, hn⟩ := jc_d_of ck
  replace hS := (List.forall_mem_cons.mp hS).2
  clear hR EO
  have ht := jc_off_eq z i a.2.2.1
  have h : (if x0 = 0 then κ a.2.2.1 L S M else κ (i + 1) L S M) = some r := h
  cases x0 with
  | zero =>
    have h : κ a.2.2.1 L S M = some r := h
    exact lv_ifnullN hx hb hd ht ((hκ _ _ _ _ h).2 ad H locs ls I hS)
  | succ x0 =>
    have h : κ (i + 1) L S M = some r := h
    have w := (hκ _ _ _ _ h).2 ad H locs ls I hS
    rw [hn] at w
    exact lv_ifnull hx hb hd w

set_option maxHeartbeats 4000000 in
theorem jw_ifnon : jb_SH jh_ifnon jc_ifnon := by
  intro p l e R s m args below meth c Q G φ z d C0 S0 ad0 lim0 E a i L S M κ r F EO CP ck h hκ hR ad H locs ls I hS
  obtain ⟨⟨hx, hb, hml, hown, hts⟩, ⟨hK, hA⟩, ⟨hfr, hlo⟩, hin, hao⟩ := F
  rcases S with _ | ⟨x0 | x0 | x0, S⟩ <;> first | (cases h; done) | skip
  obtain ⟨hd, hn⟩ := jc_d_of ck
  replace hS := (List.forall_mem_cons.mp hS).2
  have ht := jc_off_eq z i a.2.2.1
  have h : (if x0 = 0 then κ (i + 1) L S M else κ a.2.2.1 L S M) = some r := h
  cases x0 with
  | zero =>
    have h : κ (i + 1) L S M = some r := h
    have w := (hκ _ _ _ _ h).2 ad H locs ls I hS
    rw [hn] at w
    exact lv_ifnonnullN hx hb hd w
  | succ x0 =>
    have h : κ a.2.2.1 L S M = some r := h
    exact lv_ifnonnull hx hb hd ht ((hκ _ _ _ _ h).2 ad H locs ls I hS)

set_option maxHeartbeats 4000000 in
theorem jw_goto : jb_SH jh_goto jc_goto := by
  intro p l e R s m args below meth c Q G φ z d C0 S0 ad0 lim0 E a i L S M κ r F EO CP ck h hκ hR ad H locs ls I hS
  obtain ⟨⟨hx, hb, hml, hown, hts⟩, ⟨hK, hA⟩, ⟨hfr, hlo⟩, hin, hao⟩ := F
  have hd := of_decide_eq_true ck
  have h : κ a.2.2.1 L S M = some r := h
  exact lv_goto hx hb hd (jc_off_eq z i a.2.2.1) ((hκ _ _ _ _ h).2 ad H locs ls I hS)

set_option maxHeartbeats 4000000 in
theorem jw_dup : jb_SH jh_dup jc_dup := by
  intro p l e R s m args below meth c Q G φ z d C0 S0 ad0 lim0 E a i L S M κ r F EO CP ck h hκ hR ad H locs ls I hS
  obtain ⟨⟨hx, hb, hml, hown, hts⟩, ⟨hK, hA⟩, ⟨hfr, hlo⟩, hin, hao⟩ := F
  obtain ⟨hd, hn⟩ := jc_d_of ck
  rcases S with _ | ⟨x | x | x, S⟩ <;> first | (cases h; done) | skip
  · obtain ⟨o0, hS⟩ := List.forall_mem_cons.mp hS
    have w := (hκ _ _ _ _ h).2 ad H locs ls I (List.forall_mem_cons.mpr ⟨o0, List.forall_mem_cons.mpr ⟨o0, hS⟩⟩)
    rw [hn] at w
    exact lv_dup hx hb hd rfl w
  · obtain ⟨o0, hS⟩ := List.forall_mem_cons.mp hS
    have w := (hκ _ _ _ _ h).2 ad H locs ls I (List.forall_mem_cons.mpr ⟨o0, List.forall_mem_cons.mpr ⟨o0, hS⟩⟩)
    rw [hn] at w
    exact lv_dup hx hb hd (jb_cat ad (jr x)) w

set_option maxHeartbeats 4000000 in
theorem jw_dup2 : jb_SH jh_dup2 jc_dup2 := by
  intro p l e R s m args below meth c Q G φ z d C0 S0 ad0 lim0 E a i L S M κ r F EO CP ck h hκ hR ad H locs ls I hS
  obtain ⟨⟨hx, hb, hml, hown, hts⟩, ⟨hK, hA⟩, ⟨hfr, hlo⟩, hin, hao⟩ := F
  obtain ⟨hd, hn⟩ := jc_d_of ck
  rcases S with _ | ⟨x | x | x, _ | ⟨y | y | y, S⟩⟩ <;> first | (cases h; done) | skip
  · obtain ⟨o0, hS⟩ := List.forall_mem_cons.mp hS
    obtain ⟨o1, hS⟩ := List.forall_mem_cons.mp hS
    have w := (hκ _ _ _ _ h).2 ad H locs ls I (List.forall_mem_cons.mpr ⟨o0, List.forall_mem_cons.mpr ⟨o1, List.forall_mem_cons.mpr ⟨o0, List.forall_mem_cons.mpr ⟨o1, hS⟩⟩⟩⟩)
    rw [hn] at w
    exact lv_dup2_11 hx hb hd rfl rfl w
  · obtain ⟨o0, hS⟩ := List.forall_mem_cons.mp hS
    obtain ⟨o1, hS⟩ := List.forall_mem_cons.mp hS
    have w := (hκ _ _ _ _ h).2 ad H locs ls I (List.forall_mem_cons.mpr ⟨o0, List.forall_mem_cons.mpr ⟨o1, List.forall_mem_cons.mpr ⟨o0, List.forall_mem_cons.mpr ⟨o1, hS⟩⟩⟩⟩)
    rw [hn] at w
    exact lv_dup2_11 hx hb hd rfl (jb_cat ad (jr y)) w

set_option maxHeartbeats 4000000 in
theorem jw_pop : jb_SH jh_pop jc_pop := by
  intro p l e R s m args below meth c Q G φ z d C0 S0 ad0 lim0 E a i L S M κ r F EO CP ck h hκ hR ad H locs ls I hS
  obtain ⟨⟨hx, hb, hml, hown, hts⟩, ⟨hK, hA⟩, ⟨hfr, hlo⟩, hin, hao⟩ := F
  obtain ⟨hd, hn⟩ := jc_d_of ck
  rcases S with _ | ⟨x | x | x, S⟩ <;> first | (cases h; done) | skip
  · obtain ⟨o0, hS⟩ := List.forall_mem_cons.mp hS
    have w := (hκ _ _ _ _ h).2 ad H locs ls I hS
    rw [hn] at w
    exact lv_pop hx hb hd rfl w
  · obtain ⟨o0, hS⟩ := List.forall_mem_cons.mp hS
    have w := (hκ _ _ _ _ h).2 ad H locs ls I hS
    rw [hn] at w
    exact lv_pop hx hb hd (jb_cat ad (jr x)) w
end
section
/-! fields and arrays -/
theorem jk_N : ∀ c, c < 173 → 1 ≤ c → (ja_kd c).1 < 13 → (ja_kd c).2 = jm_N (ja_kd c).1 := by decide +kernel
theorem jk_len : ∀ c, c < 173 → (ja_kd c).2 ≤ 5000 := by decide +kernel
theorem jk_110 : ∀ c, c < 176 → (ja_kd c).1 = 110 → c = ja_RO ∨ c = ja_RO + 1 := by decide +kernel
theorem jk_111 : ∀ c, c < 176 → (ja_kd c).1 = 111 → c = ja_RO + 2 := by decide +kernel
theorem jk_out : ∀ c, 176 ≤ c → ja_kd c = (0, 0) := fun c h => ja_nth_out ja_kdL c (0, 0) h
theorem jk_103 : ∀ c, c < 173 → (ja_kd c).1 = 103 → c + (ja_kd c).2 < 173 := by decide +kernel
theorem jk_cl : ∀ k, k < 13 → jm_cl[k]? = some (jm_cn k, jm_T k, jm_N k) := by
  intro k hk
  rcases k with _ | _ | _ | _ | _ | _ | _ | _ | _ | _ | _ | _ | _ | k <;> first | rfl | omega
theorem jk_in : ∀ k, k < 13 → ∀ w ∈ u_ws (jm_cn k) (jm_T k) (jm_N k), w ∈ jm_W := by
  intro k hk
  rcases k with _ | _ | _ | _ | _ | _ | _ | _ | _ | _ | _ | _ | _ | k
  · exact jw_in0
  · exact jw_in1
  · exact jw_in2
  · exact jw_in3
  · exact jw_in4
  · exact jw_in5
  · exact jw_in6
  · exact jw_in7
  · exact jw_in8
  · exact jw_in9
  · exact jw_in10
  · exact jw_in11
  · exact jw_in12
  · omega
theorem jk_ty : ∀ k, k < 13 → ∀ n, n < jm_N k → parseFieldDescriptor (jm_T k n).2.2.1 = some (jm_ty k n) := by
  intro k hk
  rcases k with _ | _ | _ | _ | _ | _ | _ | _ | _ | _ | _ | _ | _ | k
  · exact tyX0_ok
  · exact tyX1_ok
  · exact tyX2_ok
  · exact tyX3_ok
  · exact tyX4_ok
  · exact tyX5_ok
  · exact tyX6_ok
  · exact tyX7_ok
  · exact tyX8_ok
  · exact tyX9_ok
  · exact tyX10_ok
  · exact tyX11_ok
  · exact tyX12_ok
  · omega
theorem jk_nm : ∀ k, k < 13 → ∀ a, a < jm_N k → ∀ b, b < jm_N k → a ≠ b → (jm_T k a).2.1 ≠ (jm_T k b).2.1 := by
  intro k hk
  rcases k with _ | _ | _ | _ | _ | _ | _ | _ | _ | _ | _ | _ | _ | k
  · exact nmX0
  · exact nmX1
  · exact nmX2
  · exact nmX3
  · exact nmX4
  · exact nmX5
  · exact nmX6
  · exact nmX7
  · exact nmX8
  · exact nmX9
  · exact nmX10
  · exact nmX11
  · exact nmX12
  · omega
/-- the types of fields, by their numbers -/
def jk_isT (t : Nat) (ty : FieldType) : Bool := match t, ty with
  | 0, .int => true
  | 1, .boolean => true
  | 2, .long => true
  | 3, .object _ => true
  | 3, .array _ => true
  | _, _ => false
theorem jk_ft : ∀ k, k < 13 → ∀ n, n < jm_N k → jk_isT (ja_ft k n) (jm_ty k n) = true ∧ ja_ft k n < 4 ∧ (jm_T k n).1 = jm_cn k := by decide +kernel
theorem jb_okc {φ : Bool} {M : ja_M} {c : Nat} (h : ja_okc φ M c = true) (hM : jb_Mok φ M) : 1 ≤ c ∧ c ≤ (M 0 0).toNat ∧ c < 173 := by
  have h0 := hM.2.1
  have h1 := hM.2.2.1
  unfold ja_okc at h
  cases φ with
  | false =>
    simp only [Bool.false_and, cond_false] at h
    obtain ⟨a, b⟩ := jb_and h
    have a := Nat.le_of_ble_eq_true a
    have b := Nat.le_of_ble_eq_true b
    simp only [ja_N0] at h0
    omega
  | true =>
    have h1 := h1 rfl
    simp only [ja_N0] at h0 h1
    simp only [Bool.true_and] at h
    by_cases hc : (Nat.ble 1 c && Nat.ble c ja_N0) = true
    · obtain ⟨a, b⟩ := jb_and hc
      have a := Nat.le_of_ble_eq_true a
      have b := Nat.le_of_ble_eq_true b
      simp only [ja_N0] at b
      omega
    · rw [Bool.not_eq_true] at hc
      rw [hc] at h
      obtain ⟨a, b⟩ := jb_and (show (Nat.ble 1 c && Nat.ble c (M 0 0).toNat) = true from h)
      have a := Nat.le_of_ble_eq_true a
      have b := Nat.le_of_ble_eq_true b
      omega
theorem jb_eO {G : jb_G} {φ : Bool} {ad : Nat → Nat} {M : ja_M} {c k : Nat} (h : (ja_kd c).1 = k) (hk : k < 13) : jb_e G φ ad M c = .inr (k, jb_fs φ ad M c) := by
  unfold jb_e
  rw [h, if_neg (by omega), if_neg (by omega), if_neg (by omega), if_neg (by omega)]
theorem jb_e0 {G : jb_G} {φ : Bool} {ad : Nat → Nat} {M : ja_M} {c : Nat} (h : (ja_kd c).1 = 100) : jb_e G φ ad M c = .inl (G.2.1.1, (ja_kd c).2, .inl (fun i => Int32.ofInt (M c i))) := by
  unfold jb_e
  rw [if_pos h]
theorem jb_e1 {G : jb_G} {φ : Bool} {ad : Nat → Nat} {M : ja_M} {c : Nat} (h : (ja_kd c).1 = 101) : jb_e G φ ad M c = .inl (G.2.1.2.1, (ja_kd c).2, .inl (fun i => Int32.ofInt (M c i))) := by
  unfold jb_e
  rw [if_neg (by omega), if_pos h]
theorem jb_e2 {G : jb_G} {φ : Bool} {ad : Nat → Nat} {M : ja_M} {c : Nat} (h : (ja_kd c).1 = 102) : jb_e G φ ad M c = .inl (G.2.1.2.2.1, (ja_kd c).2, .inr (.inl (fun i => Int64.ofInt (M c i)))) := by
  unfold jb_e
  rw [if_neg (by omega), if_neg (by omega), if_pos h]
theorem jb_e3 {G : jb_G} {φ : Bool} {ad : Nat → Nat} {M : ja_M} {c : Nat} (h : (ja_kd c).1 = 103) : jb_e G φ ad M c = .inl (G.2.1.2.2.2, (ja_kd c).2, .inr (.inr (.inr (.inr (fun i => if i < (ja_kd c).2 then some (ad (c + 1 + i)) else none))))) := by
  unfold jb_e
  rw [if_neg (by omega), if_neg (by omega), if_neg (by omega), if_pos h]
theorem jb_fs_get {φ : Bool} {ad : Nat → Nat} {M : ja_M} {c n : Nat} (h : n < (ja_kd c).2) : (jb_fs φ ad M c)[n]? = some (jb_f φ ad M c n (ja_ft (ja_kd c).1 n)) := by
  unfold jb_fs
  rw [List.getElem?_map, List.getElem?_range h]
  rfl
theorem jb_fs_len {φ : Bool} {ad : Nat → Nat} {M : ja_M} {c : Nat} : (jb_fs φ ad M c).length = (ja_kd c).2 := by simp [jb_fs]
theorem jb_f_same {φ : Bool} {ad : Nat → Nat} {M M' : ja_M} {c n t : Nat} (h : M' c n = M c n) : jb_f φ ad M' c n t = jb_f φ ad M c n t := by
  unfold jb_f ja_rd
  rw [h]
theorem jb_fs_up {φ : Bool} {ad : Nat → Nat} {M : ja_M} {c n : Nat} {v : Int} {w : Value} (hw : jb_f φ ad (ja_up M c n v) c n (ja_ft (ja_kd c).1 n) = w) : jb_fs φ ad (ja_up M c n v) c = (jb_fs φ ad M c).set n w := by
  apply List.ext_getElem?
  intro k
  rw [List.getElem?_set, jb_fs_len]
  by_cases hl : k < (ja_kd c).2
  · rw [jb_fs_get hl]
    by_cases hk : n = k
    · subst hk
      rw [if_pos rfl, if_pos hl, hw]
    · rw [if_neg hk, jb_fs_get hl, jb_f_same (jb_up_nej (fun q => hk q.symm))]
  · have e1 : (jb_fs φ ad (ja_up M c n v) c)[k]? = none := List.getElem?_eq_none (by rw [jb_fs_len]; omega)
    have e2 : (jb_fs φ ad M c)[k]? = none := List.getElem?_eq_none (by rw [jb_fs_len]; omega)
    rw [e1, e2]
    by_cases hk : n = k
    · rw [if_pos hk, if_neg (by omega)]
    · rw [if_neg hk]
theorem jb_gr_up {M : ja_M} {c n : Nat} {v : Int} (h1 : 1 ≤ c) (h2 : c < 173) : jb_gr M (ja_up M c n v) := by
  refine ⟨?_, ?_, ?_, ?_, fun j => ?_⟩
  · rw [jb_up_ne (by omega)]; exact Int.le_refl _
  · rw [jb_up_ne (by omega)]; exact Int.le_refl _
  · rw [jb_up_ne (by omega)]; exact Int.le_refl _
  · rw [jb_up_ne (by omega)]
  · rw [jb_up_ne (by simp only [ja_RO]; omega)]
theorem jk_pp0 : ∀ c, c < 173 → (ja_kd c).1 < 13 → ∀ i, i < 58 → ja_ft (ja_kd c).1 i < 3 → ja_pp c i = 0 := by decide +kernel
theorem jk_ppA : ∀ c, c < 173 → 100 ≤ (ja_kd c).1 → ja_nth ja_ppL c [] = [] := by decide +kernel
theorem jb_ppA {c i : Nat} (h : c < 173) (hk : 100 ≤ (ja_kd c).1) : ja_pp c i = 0 := by
  unfold ja_pp
  rw [jk_ppA c h hk]
  rfl
theorem jb_refM_up {φ : Bool} {M : ja_M} {c n : Nat} {v : Int} (h : jb_refM φ M) (h1 : 1 ≤ c) (hp : ja_pp c n ≤ (M 0 0).toNat) : jb_refM φ (ja_up M c n v) := by
  have e0 : (ja_up M c n v) 0 0 = M 0 0 := jb_up_ne (by omega)
  intro d d1 d2
  rw [e0] at d2 ⊢
  obtain ⟨g1, g2⟩ := h d d1 d2
  refine ⟨fun i => ?_, g2⟩
  by_cases e : d = c ∧ i = n
  · obtain ⟨rfl, rfl⟩ := e
    unfold ja_rd
    cases φ && !(ja_mut d i)
    · show (if _ then 0 else ja_pp d i) ≤ _
      split
      · exact Nat.zero_le _
      · exact hp
    · exact hp
  · have : ja_rd φ (ja_up M c n v) d i = ja_rd φ M d i := by
      unfold ja_rd
      rw [show ja_up M c n v d i = M d i from if_neg e]
    rw [this]
    exact g1 i
theorem jb_Mok_up {φ : Bool} {M : ja_M} {c n : Nat} {v : Int} (h : jb_Mok φ M) (h1 : 1 ≤ c) (hv : jb_num c n v) (hp : ja_pp c n ≤ (M 0 0).toNat) : jb_Mok φ (ja_up M c n v) := by
  obtain ⟨m1, m2, m3, m4, m5, m6⟩ := h
  refine ⟨fun d j hd => ?_, ?_, ?_, ?_, ?_, jb_refM_up m6 h1 hp⟩
  · by_cases e : d = c ∧ j = n
    · obtain ⟨rfl, rfl⟩ := e
      rw [jb_up_eq]
      exact hv
    · have : ja_up M c n v d j = M d j := if_neg e
      rw [this]
      exact m1 d j hd
  · rw [jb_up_ne (by omega)]; exact m2
  · rw [jb_up_ne (by omega)]; exact m3
  · rw [jb_up_ne (by omega), jb_up_ne (by omega)]; exact m4
  · rw [jb_up_ne (by omega)]; exact m5
/-- one place of one cell written -/
theorem jb_I_up {G : jb_G} {φ : Bool} {s : State} {nL C0 S0 : Nat} {ad0 : Nat → Nat} {lim0 : Nat} {ad : Nat → Nat} {M : ja_M} {H H1 : Heap} {locs locs1 : List Loc} {L : ja_L} {ls : Array Slot} {c n : Nat} {v : Int} {e : va_E} (I : jb_I G φ s nL C0 S0 ad0 lim0 ad M H locs L ls) (h1 : 1 ≤ c) (h2 : c ≤ (M 0 0).toNat) (h3 : c < 173) (hv : jb_num c n v) (hp : ja_pp c n ≤ (M 0 0).toNat) (he : jb_e G φ ad (ja_up M c n v) c = e)
    (p1 : va_P G.1 jm_cl ((jb_ws G φ ad M).set (c - 1) (ad c, e)) H1) (p2 : va_D (jb_A G) ((jb_ws G φ ad M).set (c - 1) (ad c, e))) (p3 : va_S (jb_A G) s.heap H1 locs1) : jb_I G φ s nL C0 S0 ad0 lim0 ad (ja_up M c n v) H1 locs1 L ls := by
  have e0 : (ja_up M c n v) 0 0 = M 0 0 := jb_up_ne (by omega)
  have e1 : (ja_up M c n v) 0 1 = M 0 1 := jb_up_ne (by omega)
  have e2 : (ja_up M c n v) 0 2 = M 0 2 := jb_up_ne (by omega)
  have hw := jb_set (G := G) (φ := φ) (ad := ad) (M := M) (M' := ja_up M c n v) h1 h2 (by rw [e0]) (fun d i hd _ => jb_up_ne hd) he
  rw [hw] at p1 p2
  obtain ⟨⟨-, -, -, ro⟩, I2, I3, I4, I5, I6⟩ := I
  exact ⟨⟨p1, p2, p3, ro.to (jb_gr_up h1 h3) (fun _ _ => rfl)⟩, I2, jb_Mok_up I3 h1 hv hp, by unfold jb_cl jb_sl; rw [e1, e2]; exact I4, I5, by rw [e0]; exact I6⟩
theorem jb_cl_up {M : ja_M} {c n : Nat} {v : Int} (h1 : 1 ≤ c) : jb_cl (ja_up M c n v) = jb_cl M ∧ jb_sl (ja_up M c n v) = jb_sl M := by
  unfold jb_cl jb_sl
  rw [jb_up_ne (by omega), jb_up_ne (by omega)]
  exact ⟨rfl, rfl⟩
theorem jb_fld {z : Nat} {a : ja_I} (h : jc_fld z a = true) : a.2.1 < 13 ∧ a.2.2.1 < jm_N a.2.1 ∧ Cond.fieldLink (jm_cn (jm_own z)) a.2.2.2.1.toNat (jm_T a.2.1 a.2.2.1).1 (jm_T a.2.1 a.2.2.1).2.1 (jm_T a.2.1 a.2.2.1).2.2.1 ∈ jm_W := by
  obtain ⟨h1, h⟩ := jb_and h
  obtain ⟨h2, h⟩ := jb_and h
  obtain ⟨q, hq, hq2⟩ := List.any_eq_true.mp h
  obtain ⟨q1, hq2⟩ := jb_and hq2
  obtain ⟨q2, hq2⟩ := jb_and hq2
  obtain ⟨q3, q4⟩ := jb_and hq2
  have hc := jm_in (jf_ok q hq) rfl
  rw [Nat.eq_of_beq_eq_true q1, Nat.eq_of_beq_eq_true q2, Nat.eq_of_beq_eq_true q3, Nat.eq_of_beq_eq_true q4] at hc
  exact ⟨Nat.blt_eq.mp h1, Nat.blt_eq.mp h2, hc⟩
theorem jb_numI {c i : Nat} {x : Int} (h : jb_num c i x) (hl : jb_lng c i = false) : jb_ok (ji x) := by
  unfold jb_num at h
  rw [hl] at h
  exact h
theorem jb_numL {c i : Nat} {x : Int} (h : jb_num c i x) (hl : jb_lng c i = true) : jb_ok (jl x) := by
  unfold jb_num at h
  rw [hl] at h
  exact h
theorem jb_numI' {c i : Nat} {x : Int} (h : jb_ok (ji x)) (hl : jb_lng c i = false) : jb_num c i x := by
  unfold jb_num
  rw [hl]
  exact h
theorem jb_numL' {c i : Nat} {x : Int} (h : jb_ok (jl x)) (hl : jb_lng c i = true) : jb_num c i x := by
  unfold jb_num
  rw [hl]
  exact h
theorem jb_lngO {c n k : Nat} (h : (ja_kd c).1 = k) (hk : k < 13) : jb_lng c n = Nat.beq (ja_ft k n) 2 := by
  unfold jb_lng
  rw [h]
  have e1 : Nat.beq k 102 = false := by
    cases hb : Nat.beq k 102 with
    | false => rfl
    | true => have := Nat.eq_of_beq_eq_true hb; omega
  have e2 : Nat.blt k 13 = true := Nat.blt_eq.mpr hk
  rw [e1, e2]
  rfl
theorem jb_beq_ne {a b : Nat} (h : a ≠ b) : Nat.beq a b = false := by
  cases hb : Nat.beq a b with
  | false => rfl
  | true => exact absurd (Nat.eq_of_beq_eq_true hb) h
theorem jb_beq_rf (a : Nat) : Nat.beq a a = true := Nat.beq_refl a
theorem jb_lngA {c n k : Nat} (h : (ja_kd c).1 = k) (hk : k = 100 ∨ k = 101 ∨ k = 103) : jb_lng c n = false := by
  unfold jb_lng
  rw [h]
  rcases hk with rfl | rfl | rfl <;> rfl
theorem jb_lng2 {c n : Nat} (h : (ja_kd c).1 = 102) : jb_lng c n = true := by
  unfold jb_lng
  rw [h]
  rfl
theorem jb_isB {v : Int} (h : ja_isB v = true) : v = 0 ∨ v = 1 := by
  rcases v with n | n
  · rcases n with _ | _ | n
    · exact Or.inl rfl
    · exact Or.inr rfl
    · cases h
  · cases h
section VALD
variable {p : Program} {l : Launch} {e : Env} {R : Room} {s : State} {m : MethodId} {args : Array Value} {below : List Frame} {meth : Method} {c : Code} {H : Heap} {locs : List Loc} {cells slots : Nat} {Q : State → Prop}
variable {cc : ByteArray} {pc : Nat} {ls : Array Slot} {rest : List Value} {D : va_G} {cl : List vw_C} {A : Nat → Prop} {a : Nat} {tys : List (ClassId × FieldType)} {ws : va_W}
theorem va_alda (hexec : p.tables.exec = Jvm.exec) (hb : c.code = cc) (hK : va_K D cl tys s) (hP : va_P D cl ws H) (q0 t0 : Nat) {cA : ClassId} {ty : FieldType} {n : Nat} {f : Nat → Option Nat} (ha : ws[q0]? = some (a, .inl (cA, n, .inr (.inr (.inr (.inr f)))))) (ht : tys[t0]? = some (cA, .array ty)) {i : Int32} (hin : vp_in i n) (hdg : decode cc pc = .ok (.aaload, 1))
    (kk : W p l e R s m args below meth c H locs cells slots Q (F0 m (pc + 1) ls (va_rf (f i.toNatClampNeg) :: rest))) : W p l e R s m args below meth c H locs cells slots Q (F0 m pc ls (.int i :: .ref a :: rest)) := by
  have hlt : i.toNatClampNeg < n := Nat.not_le.mp fun q => hin (Or.inr q)
  exact W.aald (v := va_rf (f i.toNatClampNeg)) (ty := .array ty) hexec hb (hP q0 _ ha) ((hK.2 t0 _ ht).1 n (fun j => va_rf (f j))) rfl (fun q => by cases q) (by show ¬ (i < 0 ∨ (arrV _ _ _).slots.size ≤ _); rw [arrV_size]; exact hin) (by show (arrV _ _ _).slots[_]? = _; rw [arrV_read _ _ hlt]) rfl rfl hdg kk
end VALD

set_option maxHeartbeats 4000000 in
theorem jw_getI : jb_SH jh_getI jc_getI := by
  intro p l e R s m args below meth c Q G φ z d C0 S0 ad0 lim0 E a i L S M κ r F EO CP ck h hκ hR ad H locs ls I hS
  obtain ⟨⟨hx, hb, hml, hown, hts⟩, ⟨hK, hA⟩, ⟨hfr, hlo⟩, hin, hao⟩ := F
  rcases S with _ | ⟨x0 | x0 | x0, S⟩ <;> first | (cases h; done) | skip
  obtain ⟨ck, cf⟩ := jb_and ck
  obtain ⟨cf, ct⟩ := jb_and cf
  obtain ⟨hd, hn⟩ := jc_d_of ck
  replace hS := (List.forall_mem_cons.mp hS).2
  obtain ⟨hc0, h⟩ := jb_cond h
  obtain ⟨hokc, hkd⟩ := jb_and hc0
  have hkd := Nat.eq_of_beq_eq_true hkd
  obtain ⟨h1, h2, h3⟩ := jb_okc hokc I.2.2.1
  obtain ⟨k, rfl⟩ : ∃ k, x0 = k + 1 := ⟨x0 - 1, by omega⟩
  obtain ⟨f13, fN, flk⟩ := jb_fld cf
  obtain ⟨fT, fT4, fC⟩ := jk_ft _ f13 _ fN
  have hlenN : (ja_kd (k + 1)).2 = jm_N a.2.1 := by rw [jk_N _ h3 h1 (by omega), hkd]
  have hat := jb_at (G := G) (φ := φ) (ad := ad) (M := M) h1 h2
  rw [jb_eO hkd f13] at hat
  have hfg : (jb_fs φ ad M (k + 1))[a.2.2.1]? = some (jb_f φ ad M (k + 1) a.2.2.1 (ja_ft a.2.1 a.2.2.1)) := by rw [jb_fs_get (by omega), hkd]
  have ct := Nat.blt_eq.mp ct
  have ov : jb_ok (ji (M (k + 1) a.2.2.1)) := jb_numI (I.2.2.1.1 _ _ h1) (by rw [jb_lngO hkd f13]; exact jb_beq_ne (by omega))
  have w := (hκ _ _ _ _ h).2 ad H locs ls I (List.forall_mem_cons.mpr ⟨ov, hS⟩)
  rw [hn] at w
  refine va_get (C := jm_cn a.2.1) (T := jm_T a.2.1) (N := jm_N a.2.1) hx hb hts (jk_in _ f13) hown hK I.1.1 k hat (jk_cl _ f13) a.2.2.1 fN (hts _ flk) (fun _ q => q) hfg hd ?_
  have e : jb_f φ ad M (k + 1) a.2.2.1 (ja_ft a.2.1 a.2.2.1) = jb_v ad (ji (M (k + 1) a.2.2.1)) := by
    rcases Nat.lt_or_ge (ja_ft a.2.1 a.2.2.1) 1 with q | q
    · rw [show ja_ft a.2.1 a.2.2.1 = 0 by omega]; rfl
    · rw [show ja_ft a.2.1 a.2.2.1 = 1 by omega]; rfl
  rw [e]
  exact w

set_option maxHeartbeats 4000000 in
theorem jw_getL : jb_SH jh_getL jc_getL := by
  intro p l e R s m args below meth c Q G φ z d C0 S0 ad0 lim0 E a i L S M κ r F EO CP ck h hκ hR ad H locs ls I hS
  obtain ⟨⟨hx, hb, hml, hown, hts⟩, ⟨hK, hA⟩, ⟨hfr, hlo⟩, hin, hao⟩ := F
  rcases S with _ | ⟨x0 | x0 | x0, S⟩ <;> first | (cases h; done) | skip
  obtain ⟨ck, cf⟩ := jb_and ck
  obtain ⟨cf, ct⟩ := jb_and cf
  obtain ⟨hd, hn⟩ := jc_d_of ck
  replace hS := (List.forall_mem_cons.mp hS).2
  obtain ⟨hc0, h⟩ := jb_cond h
  obtain ⟨hokc, hkd⟩ := jb_and hc0
  have hkd := Nat.eq_of_beq_eq_true hkd
  obtain ⟨h1, h2, h3⟩ := jb_okc hokc I.2.2.1
  obtain ⟨k, rfl⟩ : ∃ k, x0 = k + 1 := ⟨x0 - 1, by omega⟩
  obtain ⟨f13, fN, flk⟩ := jb_fld cf
  obtain ⟨fT, fT4, fC⟩ := jk_ft _ f13 _ fN
  have hlenN : (ja_kd (k + 1)).2 = jm_N a.2.1 := by rw [jk_N _ h3 h1 (by omega), hkd]
  have hat := jb_at (G := G) (φ := φ) (ad := ad) (M := M) h1 h2
  rw [jb_eO hkd f13] at hat
  have hfg : (jb_fs φ ad M (k + 1))[a.2.2.1]? = some (jb_f φ ad M (k + 1) a.2.2.1 (ja_ft a.2.1 a.2.2.1)) := by rw [jb_fs_get (by omega), hkd]
  have ct := Nat.eq_of_beq_eq_true ct
  have ov : jb_ok (jl (M (k + 1) a.2.2.1)) := jb_numL (I.2.2.1.1 _ _ h1) (by rw [jb_lngO hkd f13, ct]; rfl)
  have w := (hκ _ _ _ _ h).2 ad H locs ls I (List.forall_mem_cons.mpr ⟨ov, hS⟩)
  rw [hn] at w
  refine va_get (C := jm_cn a.2.1) (T := jm_T a.2.1) (N := jm_N a.2.1) hx hb hts (jk_in _ f13) hown hK I.1.1 k hat (jk_cl _ f13) a.2.2.1 fN (hts _ flk) (fun _ q => q) hfg hd ?_
  rw [ct]
  exact w

set_option maxHeartbeats 4000000 in
theorem jw_getR : jb_SH jh_getR jc_getR := by
  intro p l e R s m args below meth c Q G φ z d C0 S0 ad0 lim0 E a i L S M κ r F EO CP ck h hκ hR ad H locs ls I hS
  obtain ⟨⟨hx, hb, hml, hown, hts⟩, ⟨hK, hA⟩, ⟨hfr, hlo⟩, hin, hao⟩ := F
  rcases S with _ | ⟨x0 | x0 | x0, S⟩ <;> first | (cases h; done) | skip
  obtain ⟨ck, cf⟩ := jb_and ck
  obtain ⟨cf, ct⟩ := jb_and cf
  obtain ⟨hd, hn⟩ := jc_d_of ck
  replace hS := (List.forall_mem_cons.mp hS).2
  obtain ⟨hc0, h⟩ := jb_cond h
  obtain ⟨hokc, hkd⟩ := jb_and hc0
  have hkd := Nat.eq_of_beq_eq_true hkd
  obtain ⟨h1, h2, h3⟩ := jb_okc hokc I.2.2.1
  obtain ⟨k, rfl⟩ : ∃ k, x0 = k + 1 := ⟨x0 - 1, by omega⟩
  obtain ⟨f13, fN, flk⟩ := jb_fld cf
  obtain ⟨fT, fT4, fC⟩ := jk_ft _ f13 _ fN
  have hlenN : (ja_kd (k + 1)).2 = jm_N a.2.1 := by rw [jk_N _ h3 h1 (by omega), hkd]
  have hat := jb_at (G := G) (φ := φ) (ad := ad) (M := M) h1 h2
  rw [jb_eO hkd f13] at hat
  have hfg : (jb_fs φ ad M (k + 1))[a.2.2.1]? = some (jb_f φ ad M (k + 1) a.2.2.1 (ja_ft a.2.1 a.2.2.1)) := by rw [jb_fs_get (by omega), hkd]
  have ct := Nat.eq_of_beq_eq_true ct
  have w := (hκ _ _ _ _ h).2 ad H locs ls I (List.forall_mem_cons.mpr ⟨trivial, hS⟩)
  rw [hn] at w
  refine va_get (C := jm_cn a.2.1) (T := jm_T a.2.1) (N := jm_N a.2.1) hx hb hts (jk_in _ f13) hown hK I.1.1 k hat (jk_cl _ f13) a.2.2.1 fN (hts _ flk) (fun _ q => q) hfg hd ?_
  rw [ct]
  exact w

set_option maxHeartbeats 4000000 in
theorem jw_putI : jb_SH jh_putI jc_putI := by
  intro p l e R s m args below meth c Q G φ z d C0 S0 ad0 lim0 E a i L S M κ r F EO CP ck h hκ hR ad H locs ls I hS
  obtain ⟨⟨hx, hb, hml, hown, hts⟩, ⟨hK, hA⟩, ⟨hfr, hlo⟩, hin, hao⟩ := F
  rcases S with _ | ⟨x0 | x0 | x0, _ | ⟨x1 | x1 | x1, S⟩⟩ <;> first | (cases h; done) | skip
  obtain ⟨ck, cf⟩ := jb_and ck
  obtain ⟨cf, ct⟩ := jb_and cf
  obtain ⟨ct, cfin⟩ := jb_and ct
  have ct := Nat.eq_of_beq_eq_true ct
  obtain ⟨hd, hn⟩ := jc_d_of ck
  obtain ⟨o0, hS1⟩ := List.forall_mem_cons.mp hS
  replace hS := (List.forall_mem_cons.mp hS1).2
  clear hS1
  obtain ⟨hc0, h⟩ := jb_cond h
  obtain ⟨hokc, hkd⟩ := jb_and hc0
  have hkd := Nat.eq_of_beq_eq_true hkd
  obtain ⟨h1, h2, h3⟩ := jb_okc hokc I.2.2.1
  obtain ⟨k, rfl⟩ : ∃ k, x1 = k + 1 := ⟨x1 - 1, by omega⟩
  obtain ⟨f13, fN, flk⟩ := jb_fld cf
  obtain ⟨fT, fT4, fC⟩ := jk_ft _ f13 _ fN
  have hlenN : (ja_kd (k + 1)).2 = jm_N a.2.1 := by rw [jk_N _ h3 h1 (by omega), hkd]
  have hat := jb_at (G := G) (φ := φ) (ad := ad) (M := M) h1 h2
  rw [jb_eO hkd f13] at hat
  have hfg : (jb_fs φ ad M (k + 1))[a.2.2.1]? = some (jb_f φ ad M (k + 1) a.2.2.1 (ja_ft a.2.1 a.2.2.1)) := by rw [jb_fs_get (by omega), hkd]
  have hty : jm_ty a.2.1 a.2.2.1 = .int := by
    rw [ct] at fT
    revert fT
    generalize jm_ty a.2.1 a.2.2.1 = t
    cases t <;> intro q <;> first | rfl | cases q
  have hfv : jb_f φ ad (ja_up M (k + 1) a.2.2.1 x0) (k + 1) a.2.2.1 (ja_ft a.2.1 a.2.2.1) = .int (Int32.ofInt x0) := by
    rw [ct]
    show Value.int (Int32.ofInt (ja_up M (k + 1) a.2.2.1 x0 (k + 1) a.2.2.1)) = _
    rw [jb_up_eq]
  have hnum : jb_num (k + 1) a.2.2.1 x0 := jb_numI' o0 (by rw [jb_lngO hkd f13, ct]; rfl)
  have hppn : ja_pp (k + 1) a.2.2.1 ≤ (M 0 0).toNat := by
    rw [jk_pp0 _ h3 (by omega) _ (by have := (show ∀ k, k < 13 → jm_N k ≤ 58 by decide) _ f13; omega) (by rw [hkd]; omega)]
    exact Nat.zero_le _
  have hee := jb_eO (G := G) (φ := φ) (ad := ad) (M := ja_up M (k + 1) a.2.2.1 x0) hkd f13
  rw [show ja_ft a.2.1 a.2.2.1 = ja_ft (ja_kd (k + 1)).1 a.2.2.1 by rw [hkd]] at hfv
  rw [jb_fs_up hfv] at hee
  have hup := fun (H1 : Heap) (locs1 : List Loc) p1 p2 p3 => jb_I_up (H1 := H1) (locs1 := locs1) I h1 h2 h3 hnum hppn hee p1 p2 p3
  obtain ⟨ec, es⟩ := jb_cl_up (M := M) (c := k + 1) (n := a.2.2.1) (v := x0) h1
  refine va_put (C := jm_cn a.2.1) (T := jm_T a.2.1) (N := jm_N a.2.1) hx hb hts (jk_in _ f13) (jm_ty a.2.1) (jk_ty _ f13) (jk_nm _ f13) hown hK I.1.1 I.1.2.1 I.1.2.2.1 k hat (jk_cl _ f13) a.2.2.1 fN (hts _ flk) (fun _ q => q) (by simpa using cfin) (jk_ty _ f13 _ fN) (by rw [hty]; rfl) (by rw [hty]; rfl) (by rw [jb_fs_len, hlenN]; exact fN) hd (fun H1 locs1 p1 p2 p3 => ?_)
  have w := (hκ _ _ _ _ h).2 ad H1 locs1 ls (hup H1 locs1 p1 p2 p3) hS
  rw [hn, ec, es] at w
  exact w

set_option maxHeartbeats 4000000 in
theorem jw_putZ : jb_SH jh_putZ jc_putZ := by
  intro p l e R s m args below meth c Q G φ z d C0 S0 ad0 lim0 E a i L S M κ r F EO CP ck h hκ hR ad H locs ls I hS
  obtain ⟨⟨hx, hb, hml, hown, hts⟩, ⟨hK, hA⟩, ⟨hfr, hlo⟩, hin, hao⟩ := F
  rcases S with _ | ⟨x0 | x0 | x0, _ | ⟨x1 | x1 | x1, S⟩⟩ <;> first | (cases h; done) | skip
  obtain ⟨ck, cf⟩ := jb_and ck
  obtain ⟨cf, ct⟩ := jb_and cf
  obtain ⟨ct, cfin⟩ := jb_and ct
  have ct := Nat.eq_of_beq_eq_true ct
  obtain ⟨hd, hn⟩ := jc_d_of ck
  obtain ⟨o0, hS1⟩ := List.forall_mem_cons.mp hS
  replace hS := (List.forall_mem_cons.mp hS1).2
  clear hS1
  obtain ⟨hc0, h⟩ := jb_cond h
  obtain ⟨hokc, hkd⟩ := jb_and hc0
  have hkd := Nat.eq_of_beq_eq_true hkd
  obtain ⟨h1, h2, h3⟩ := jb_okc hokc I.2.2.1
  obtain ⟨k, rfl⟩ : ∃ k, x1 = k + 1 := ⟨x1 - 1, by omega⟩
  obtain ⟨f13, fN, flk⟩ := jb_fld cf
  obtain ⟨fT, fT4, fC⟩ := jk_ft _ f13 _ fN
  have hlenN : (ja_kd (k + 1)).2 = jm_N a.2.1 := by rw [jk_N _ h3 h1 (by omega), hkd]
  have hat := jb_at (G := G) (φ := φ) (ad := ad) (M := M) h1 h2
  rw [jb_eO hkd f13] at hat
  have hfg : (jb_fs φ ad M (k + 1))[a.2.2.1]? = some (jb_f φ ad M (k + 1) a.2.2.1 (ja_ft a.2.1 a.2.2.1)) := by rw [jb_fs_get (by omega), hkd]
  obtain ⟨hB, h⟩ := jb_cond h
  have hB := jb_isB hB
  have hty : jm_ty a.2.1 a.2.2.1 = .boolean := by
    rw [ct] at fT
    revert fT
    generalize jm_ty a.2.1 a.2.2.1 = t
    cases t <;> intro q <;> first | rfl | cases q
  have hfv : jb_f φ ad (ja_up M (k + 1) a.2.2.1 x0) (k + 1) a.2.2.1 (ja_ft a.2.1 a.2.2.1) = .int (Int32.ofInt x0) := by
    rw [ct]
    show Value.int (Int32.ofInt (ja_up M (k + 1) a.2.2.1 x0 (k + 1) a.2.2.1)) = _
    rw [jb_up_eq]
  have hnum : jb_num (k + 1) a.2.2.1 x0 := jb_numI' o0 (by rw [jb_lngO hkd f13, ct]; rfl)
  have hppn : ja_pp (k + 1) a.2.2.1 ≤ (M 0 0).toNat := by
    rw [jk_pp0 _ h3 (by omega) _ (by have := (show ∀ k, k < 13 → jm_N k ≤ 58 by decide) _ f13; omega) (by rw [hkd]; omega)]
    exact Nat.zero_le _
  have hee := jb_eO (G := G) (φ := φ) (ad := ad) (M := ja_up M (k + 1) a.2.2.1 x0) hkd f13
  rw [show ja_ft a.2.1 a.2.2.1 = ja_ft (ja_kd (k + 1)).1 a.2.2.1 by rw [hkd]] at hfv
  rw [jb_fs_up hfv] at hee
  have hup := fun (H1 : Heap) (locs1 : List Loc) p1 p2 p3 => jb_I_up (H1 := H1) (locs1 := locs1) I h1 h2 h3 hnum hppn hee p1 p2 p3
  obtain ⟨ec, es⟩ := jb_cl_up (M := M) (c := k + 1) (n := a.2.2.1) (v := x0) h1
  refine va_put (C := jm_cn a.2.1) (T := jm_T a.2.1) (N := jm_N a.2.1) hx hb hts (jk_in _ f13) (jm_ty a.2.1) (jk_ty _ f13) (jk_nm _ f13) hown hK I.1.1 I.1.2.1 I.1.2.2.1 k hat (jk_cl _ f13) a.2.2.1 fN (hts _ flk) (fun _ q => q) (by simpa using cfin) (jk_ty _ f13 _ fN) (by rw [hty]; rcases hB with rfl | rfl <;> rfl) (by rw [hty]; rcases hB with rfl | rfl <;> rfl) (by rw [jb_fs_len, hlenN]; exact fN) hd (fun H1 locs1 p1 p2 p3 => ?_)
  have w := (hκ _ _ _ _ h).2 ad H1 locs1 ls (hup H1 locs1 p1 p2 p3) hS
  rw [hn, ec, es] at w
  exact w

set_option maxHeartbeats 4000000 in
theorem jw_putL : jb_SH jh_putL jc_putL := by
  intro p l e R s m args below meth c Q G φ z d C0 S0 ad0 lim0 E a i L S M κ r F EO CP ck h hκ hR ad H locs ls I hS
  obtain ⟨⟨hx, hb, hml, hown, hts⟩, ⟨hK, hA⟩, ⟨hfr, hlo⟩, hin, hao⟩ := F
  rcases S with _ | ⟨x0 | x0 | x0, _ | ⟨x1 | x1 | x1, S⟩⟩ <;> first | (cases h; done) | skip
  obtain ⟨ck, cf⟩ := jb_and ck
  obtain ⟨cf, ct⟩ := jb_and cf
  obtain ⟨ct, cfin⟩ := jb_and ct
  have ct := Nat.eq_of_beq_eq_true ct
  obtain ⟨hd, hn⟩ := jc_d_of ck
  obtain ⟨o0, hS1⟩ := List.forall_mem_cons.mp hS
  replace hS := (List.forall_mem_cons.mp hS1).2
  clear hS1
  obtain ⟨hc0, h⟩ := jb_cond h
  obtain ⟨hokc, hkd⟩ := jb_and hc0
  have hkd := Nat.eq_of_beq_eq_true hkd
  obtain ⟨h1, h2, h3⟩ := jb_okc hokc I.2.2.1
  obtain ⟨k, rfl⟩ : ∃ k, x1 = k + 1 := ⟨x1 - 1, by omega⟩
  obtain ⟨f13, fN, flk⟩ := jb_fld cf
  obtain ⟨fT, fT4, fC⟩ := jk_ft _ f13 _ fN
  have hlenN : (ja_kd (k + 1)).2 = jm_N a.2.1 := by rw [jk_N _ h3 h1 (by omega), hkd]
  have hat := jb_at (G := G) (φ := φ) (ad := ad) (M := M) h1 h2
  rw [jb_eO hkd f13] at hat
  have hfg : (jb_fs φ ad M (k + 1))[a.2.2.1]? = some (jb_f φ ad M (k + 1) a.2.2.1 (ja_ft a.2.1 a.2.2.1)) := by rw [jb_fs_get (by omega), hkd]
  have hty : jm_ty a.2.1 a.2.2.1 = .long := by
    rw [ct] at fT
    revert fT
    generalize jm_ty a.2.1 a.2.2.1 = t
    cases t <;> intro q <;> first | rfl | cases q
  have hfv : jb_f φ ad (ja_up M (k + 1) a.2.2.1 x0) (k + 1) a.2.2.1 (ja_ft a.2.1 a.2.2.1) = .long (Int64.ofInt x0) := by
    rw [ct]
    show Value.long (Int64.ofInt (ja_up M (k + 1) a.2.2.1 x0 (k + 1) a.2.2.1)) = _
    rw [jb_up_eq]
  have hnum : jb_num (k + 1) a.2.2.1 x0 := jb_numL' o0 (by rw [jb_lngO hkd f13, ct]; rfl)
  have hppn : ja_pp (k + 1) a.2.2.1 ≤ (M 0 0).toNat := by
    rw [jk_pp0 _ h3 (by omega) _ (by have := (show ∀ k, k < 13 → jm_N k ≤ 58 by decide) _ f13; omega) (by rw [hkd]; omega)]
    exact Nat.zero_le _
  have hee := jb_eO (G := G) (φ := φ) (ad := ad) (M := ja_up M (k + 1) a.2.2.1 x0) hkd f13
  rw [show ja_ft a.2.1 a.2.2.1 = ja_ft (ja_kd (k + 1)).1 a.2.2.1 by rw [hkd]] at hfv
  rw [jb_fs_up hfv] at hee
  have hup := fun (H1 : Heap) (locs1 : List Loc) p1 p2 p3 => jb_I_up (H1 := H1) (locs1 := locs1) I h1 h2 h3 hnum hppn hee p1 p2 p3
  obtain ⟨ec, es⟩ := jb_cl_up (M := M) (c := k + 1) (n := a.2.2.1) (v := x0) h1
  refine va_put (C := jm_cn a.2.1) (T := jm_T a.2.1) (N := jm_N a.2.1) hx hb hts (jk_in _ f13) (jm_ty a.2.1) (jk_ty _ f13) (jk_nm _ f13) hown hK I.1.1 I.1.2.1 I.1.2.2.1 k hat (jk_cl _ f13) a.2.2.1 fN (hts _ flk) (fun _ q => q) (by simpa using cfin) (jk_ty _ f13 _ fN) (by rw [hty]; rfl) (by rw [hty]; rfl) (by rw [jb_fs_len, hlenN]; exact fN) hd (fun H1 locs1 p1 p2 p3 => ?_)
  have w := (hκ _ _ _ _ h).2 ad H1 locs1 ls (hup H1 locs1 p1 p2 p3) hS
  rw [hn, ec, es] at w
  exact w

set_option maxHeartbeats 4000000 in
theorem jw_putR : jb_SH jh_putR jc_putR := by
  intro p l e R s m args below meth c Q G φ z d C0 S0 ad0 lim0 E a i L S M κ r F EO CP ck h hκ hR ad H locs ls I hS
  obtain ⟨⟨hx, hb, hml, hown, hts⟩, ⟨hK, hA⟩, ⟨hfr, hlo⟩, hin, hao⟩ := F
  rcases S with _ | ⟨x0 | x0 | x0, _ | ⟨x1 | x1 | x1, S⟩⟩ <;> first | (cases h; done) | skip
  obtain ⟨ck, cf⟩ := jb_and ck
  obtain ⟨cf, ct⟩ := jb_and cf
  obtain ⟨ct, cfin⟩ := jb_and ct
  have ct := Nat.eq_of_beq_eq_true ct
  obtain ⟨hd, hn⟩ := jc_d_of ck
  replace hS := (List.forall_mem_cons.mp (List.forall_mem_cons.mp hS).2).2
  obtain ⟨hc0, hk9⟩ := jb_cond h
  obtain ⟨hokc, hc0⟩ := jb_and hc0
  obtain ⟨hkd, hc0⟩ := jb_and hc0
  obtain ⟨hpp, hc0⟩ := jb_and hc0
  obtain ⟨hr1, hmu⟩ := jb_and hc0
  have hkd := Nat.eq_of_beq_eq_true hkd
  have hpp := Nat.eq_of_beq_eq_true hpp
  have hrr := jb_okc hr1 I.2.2.1
  have hr1 := hrr.1
  obtain ⟨h1, h2, h3⟩ := jb_okc hokc I.2.2.1
  obtain ⟨k, rfl⟩ : ∃ k, x1 = k + 1 := ⟨x1 - 1, by omega⟩
  obtain ⟨j, rfl⟩ : ∃ j, x0 = j + 1 := ⟨x0 - 1, by omega⟩
  obtain ⟨f13, fN, flk⟩ := jb_fld cf
  obtain ⟨fT, fT4, fC⟩ := jk_ft _ f13 _ fN
  have hlenN : (ja_kd (k + 1)).2 = jm_N a.2.1 := by rw [jk_N _ h3 h1 (by omega), hkd]
  have hat := jb_at (G := G) (φ := φ) (ad := ad) (M := M) h1 h2
  rw [jb_eO hkd f13] at hat
  have hfg : (jb_fs φ ad M (k + 1))[a.2.2.1]? = some (jb_f φ ad M (k + 1) a.2.2.1 (ja_ft a.2.1 a.2.2.1)) := by rw [jb_fs_get (by omega), hkd]
  have hty : (∃ C, jm_ty a.2.1 a.2.2.1 = .object C) ∨ ∃ t, jm_ty a.2.1 a.2.2.1 = .array t := by
    rw [ct] at fT
    revert fT
    generalize jm_ty a.2.1 a.2.2.1 = t
    cases t <;> intro q <;> first | exact Or.inl ⟨_, rfl⟩ | exact Or.inr ⟨_, rfl⟩ | cases q
  have hrd : ja_rd φ (ja_up M (k + 1) a.2.2.1 1) (k + 1) a.2.2.1 = j + 1 := by
    unfold ja_rd
    rw [jb_up_eq, ← hpp]
    cases φ && !(ja_mut (k + 1) a.2.2.1) <;> rfl
  have hfv : jb_f φ ad (ja_up M (k + 1) a.2.2.1 1) (k + 1) a.2.2.1 (ja_ft a.2.1 a.2.2.1) = .ref (ad (j + 1)) := by
    rw [ct]
    show jb_v ad (jr (ja_rd φ (ja_up M (k + 1) a.2.2.1 1) (k + 1) a.2.2.1)) = _
    rw [hrd]
    rfl
  have hppn : ja_pp (k + 1) a.2.2.1 ≤ (M 0 0).toNat := by
    rw [← hpp]
    exact hrr.2.1
  have hnum : jb_num (k + 1) a.2.2.1 1 := jb_numI' (show jb_ok (ji 1) from ⟨by decide, by decide⟩) (by rw [jb_lngO hkd f13, ct]; rfl)
  have hee := jb_eO (G := G) (φ := φ) (ad := ad) (M := ja_up M (k + 1) a.2.2.1 1) hkd f13
  rw [show ja_ft a.2.1 a.2.2.1 = ja_ft (ja_kd (k + 1)).1 a.2.2.1 by rw [hkd]] at hfv
  rw [jb_fs_up hfv] at hee
  have hup := fun (H1 : Heap) (locs1 : List Loc) p1 p2 p3 => jb_I_up (H1 := H1) (locs1 := locs1) I h1 h2 h3 hnum hppn hee p1 p2 p3
  obtain ⟨ec, es⟩ := jb_cl_up (M := M) (c := k + 1) (n := a.2.2.1) (v := 1) h1
  have fin : ∀ (H1 : Heap) (locs1 : List Loc), va_P G.1 jm_cl ((jb_ws G φ ad M).set k (ad (k + 1), .inr (a.2.1, (jb_fs φ ad M (k + 1)).set a.2.2.1 (.ref (ad (j + 1)))))) H1 → va_D (jb_A G) ((jb_ws G φ ad M).set k (ad (k + 1), .inr (a.2.1, (jb_fs φ ad M (k + 1)).set a.2.2.1 (.ref (ad (j + 1)))))) → va_S (jb_A G) s.heap H1 locs1 → W p l e R s m args below meth c H1 locs1 (jb_cl M - C0) (jb_sl M - S0) Q (F0 m (jm_pc z i + 3) ls (S.map (jb_v ad))) := by
    intro H1 locs1 p1 p2 p3
    have w := (hκ _ _ _ _ hk9).2 ad H1 locs1 ls (hup H1 locs1 p1 p2 p3) hS
    rw [hn, ec, es] at w
    exact w
  rcases jb_or cfin with cfin | cfin
  · exact va_put (C := jm_cn a.2.1) (T := jm_T a.2.1) (N := jm_N a.2.1) hx hb hts (jk_in _ f13) (jm_ty a.2.1) (jk_ty _ f13) (jk_nm _ f13) hown hK I.1.1 I.1.2.1 I.1.2.2.1 k hat (jk_cl _ f13) a.2.2.1 fN (hts _ flk) (fun _ q => q) (by simpa using cfin) (jk_ty _ f13 _ fN) (by rcases hty with ⟨C, q⟩ | ⟨C, q⟩ <;> rw [q] <;> rfl) (by rcases hty with ⟨C, q⟩ | ⟨C, q⟩ <;> rw [q] <;> rfl) (by rw [jb_fs_len, hlenN]; exact fN) hd fin
  · obtain ⟨hname, hcls⟩ := jb_and cfin
    have hname := of_decide_eq_true hname
    have hcls := Nat.eq_of_beq_eq_true hcls
    by_cases hf : (jm_T a.2.1 a.2.2.1).2.2.2 = true
    · exact va_putF (C := jm_cn a.2.1) (T := jm_T a.2.1) (N := jm_N a.2.1) hx hb hts (jk_in _ f13) (jm_ty a.2.1) (jk_ty _ f13) (jk_nm _ f13) hown hK I.1.1 I.1.2.1 I.1.2.2.1 k hat (jk_cl _ f13) a.2.2.1 fN (hts _ flk) (fun _ q => q) hf (hin hname) (by rw [fC, hcls]) (jk_ty _ f13 _ fN) (by rcases hty with ⟨C, q⟩ | ⟨C, q⟩ <;> rw [q] <;> rfl) (by rcases hty with ⟨C, q⟩ | ⟨C, q⟩ <;> rw [q] <;> rfl) (by rw [jb_fs_len, hlenN]; exact fN) hd fin
    · exact va_put (C := jm_cn a.2.1) (T := jm_T a.2.1) (N := jm_N a.2.1) hx hb hts (jk_in _ f13) (jm_ty a.2.1) (jk_ty _ f13) (jk_nm _ f13) hown hK I.1.1 I.1.2.1 I.1.2.2.1 k hat (jk_cl _ f13) a.2.2.1 fN (hts _ flk) (fun _ q => q) (by simpa using hf) (jk_ty _ f13 _ fN) (by rcases hty with ⟨C, q⟩ | ⟨C, q⟩ <;> rw [q] <;> rfl) (by rcases hty with ⟨C, q⟩ | ⟨C, q⟩ <;> rw [q] <;> rfl) (by rw [jb_fs_len, hlenN]; exact fN) hd fin
end
section
/-! switches, statics, arrays, ends -/
theorem jb_tab {z i : Nat} {x : Int} {f : Nat → Option ja_R} {n : Nat} {r : ja_R} : ∀ (os : List Int) (ts : List (Int × Nat)) (k : Int), jc_tab z i k os ts = true → ja_sw x f n ts = some r →
    (∃ o t, 0 ≤ x - k ∧ os[(x - k).toNat]? = some o ∧ o = jc_off z i t ∧ f t = some r) ∨ ((x < k ∨ k + (os.length : Int) - 1 < x) ∧ f n = some r)
  | [], [], k, _, h => by
    refine Or.inr ⟨?_, h⟩
    simp only [List.length_nil]
    omega
  | [], _ :: _, _, h, _ => by cases h
  | _ :: _, [], _, h, _ => by cases h
  | o :: os, (y, t) :: ts, k, h, hs => by
    obtain ⟨h1, h⟩ := jb_and h
    obtain ⟨h2, h⟩ := jb_and h
    have h1 := of_decide_eq_true h1
    have h2 := of_decide_eq_true h2
    subst h1
    by_cases hx : x = y
    · subst hx
      have hs : (if x = x then f t else ja_sw x f n ts) = some r := hs
      rw [if_pos rfl] at hs
      exact Or.inl ⟨o, t, by omega, by rw [show (x - x).toNat = 0 by omega]; rfl, h2, hs⟩
    · have hs : (if x = y then f t else ja_sw x f n ts) = some r := hs
      rw [if_neg hx] at hs
      rcases jb_tab os ts (y + 1) h hs with ⟨o', t', g1, g2, g3, g4⟩ | ⟨g1, g2⟩
      · exact Or.inl ⟨o', t', by omega, by rw [show (x - y).toNat = (x - (y + 1)).toNat + 1 by omega]; exact g2, g3, g4⟩
      · refine Or.inr ⟨?_, g2⟩
        simp only [List.length_cons]
        omega
theorem jb_lok {z i : Nat} {x : Int} {f : Nat → Option ja_R} {n : Nat} {r : ja_R} : ∀ (os : List (Int × Int)) (ts : List (Int × Nat)), jc_lok z i os ts = true → ja_sw x f n ts = some r → ∃ t, Op.lookupswitch.offset os (jc_off z i n) x = jc_off z i t ∧ f t = some r
  | [], [], _, h => ⟨n, rfl, h⟩
  | [], _ :: _, h, _ => by cases h
  | _ :: _, [], h, _ => by cases h
  | (k, o) :: os, (y, t) :: ts, h, hs => by
    obtain ⟨h1, hA⟩ := jb_and h
    obtain ⟨h2, hB⟩ := jb_and hA
    have h1 := of_decide_eq_true h1
    have h2 := of_decide_eq_true h2
    subst h1
    by_cases hx : x = y
    · have hs : (if x = y then f t else ja_sw x f n ts) = some r := hs
      rw [if_pos hx] at hs
      refine ⟨t, ?_, hs⟩
      unfold Op.lookupswitch.offset
      simp [hx, h2]
    · have hs : (if x = y then f t else ja_sw x f n ts) = some r := hs
      rw [if_neg hx] at hs
      obtain ⟨t', g1, g2⟩ := jb_lok os ts hB hs
      refine ⟨t', ?_, g2⟩
      rw [← g1]
      conv => lhs; unfold Op.lookupswitch.offset
      simp [hx, Ne.symm hx]
set_option maxHeartbeats 4000000 in
theorem jw_switch : jb_SH jh_switch jc_switch := by
  intro p l e R s m args below meth c Q G φ z d C0 S0 ad0 lim0 E a i L S M κ r F EO CP ck h hκ hR ad H locs ls I hS
  obtain ⟨⟨hx, hb, hml, hown, hts⟩, ⟨hK, hA⟩, ⟨hfr, hlo⟩, hin, hao⟩ := F
  rcases S with _ | ⟨x0 | x0 | x0, S⟩ <;> first | (cases h; done) | skip
  obtain ⟨o0, hS⟩ := List.forall_mem_cons.mp hS
  have h : ja_sw x0 (fun t => κ t L S M) a.2.2.1 a.2.2.2.2.1 = some r := h
  have hv : (Int32.ofInt x0).toInt = x0 := jn_i o0
  unfold jc_switch at ck
  split at ck
  · rename_i d lo hi offs len hd
    obtain ⟨c1, ck⟩ := jb_and ck
    obtain ⟨c2, ck⟩ := jb_and ck
    have c1 := of_decide_eq_true c1
    have c2 := of_decide_eq_true c2
    rcases jb_tab _ _ _ ck h with ⟨o, t, g1, g2, g3, g4⟩ | ⟨g1, g2⟩
    · have hlt : (x0 - lo).toNat < offs.toList.length := (List.getElem?_eq_some_iff.mp g2).1
      have w := (hκ _ _ _ _ g4).2 ad H locs ls I hS
      refine lv_tableIn hx hb hd (by rw [hv]; omega) (by rw [hv]; omega) (off := o) (by rw [hv, ← Array.getElem?_toList]; exact g2) (by rw [g3]; exact jc_off_eq z i t) w
    · have w := (hκ _ _ _ _ g2).2 ad H locs ls I hS
      refine lv_tableOut hx hb hd (by rw [hv]; omega) (by rw [c1]; exact jc_off_eq z i a.2.2.1) w
  · rename_i d ps len hd
    obtain ⟨c1, ck⟩ := jb_and ck
    obtain ⟨c2, ck⟩ := jb_and ck
    have c1 := of_decide_eq_true c1
    obtain ⟨t, g1, g2⟩ := jb_lok _ _ ck h
    have w := (hκ _ _ _ _ g2).2 ad H locs ls I hS
    exact lv_lookup hx hb hd c2 (by rw [hv, c1]; exact g1) (jc_off_eq z i t) w
  · cases ck

set_option maxHeartbeats 4000000 in
theorem jw_static : jb_SH jh_static jc_static := by
  intro p l e R s m args below meth c Q G φ z d C0 S0 ad0 lim0 E a i L S M κ r F EO CP ck h hκ hR ad H locs ls I hS
  obtain ⟨⟨hx, hb, hml, hown, hts⟩, ⟨hK, hA⟩, ⟨hfr, hlo⟩, hin, hao⟩ := F
  obtain ⟨ck, cs⟩ := jb_and ck
  obtain ⟨hd, hn⟩ := jc_d_of ck
  obtain ⟨q, hq, hq2⟩ := List.any_eq_true.mp cs
  obtain ⟨q1, hq2⟩ := jb_and hq2
  obtain ⟨q2, q3⟩ := jb_and hq2
  have hc := jm_in (js_ok q hq) rfl
  rw [Nat.eq_of_beq_eq_true q1, Nat.eq_of_beq_eq_true q2, Nat.eq_of_beq_eq_true q3] at hc
  have hq3 : a.2.1 = ja_RO ∨ a.2.1 = ja_RO + 1 := by
    rw [← Nat.eq_of_beq_eq_true q3]
    exact (show ∀ q ∈ jm_sl, q.2.2.1 = ja_RO ∨ q.2.2.1 = ja_RO + 1 by decide) q hq
  have h : κ (i + 1) L (jr a.2.1 :: S) M = some r := h
  have w := (hκ _ _ _ _ h).2 ad H locs ls I (List.forall_mem_cons.mpr ⟨trivial, hS⟩)
  rw [hn] at w
  rcases hq3 with e | e
  · rw [e] at hc w
    exact va_gets hx hb I.1.2.2.2.1 I.1.2.2.1 hown (hts _ hc) (fun _ q => q) hd w
  · rw [e] at hc w
    exact va_gets hx hb I.1.2.2.2.2.1 I.1.2.2.1 hown (hts _ hc) (fun _ q => q) hd w

set_option maxHeartbeats 4000000 in
theorem jw_iald : jb_SH jh_iald jc_iald := by
  intro p l e R s m args below meth c Q G φ z d C0 S0 ad0 lim0 E a i L S M κ r F EO CP ck h hκ hR ad H locs ls I hS
  obtain ⟨⟨hx, hb, hml, hown, hts⟩, ⟨hK, hA⟩, ⟨hfr, hlo⟩, hin, hao⟩ := F
  rcases S with _ | ⟨x0 | x0 | x0, _ | ⟨x1 | x1 | x1, S⟩⟩ <;> first | (cases h; done) | skip
  have nA : ∀ k, ja_RO ≤ k → k ≤ ja_RO + 2 → ¬ jb_A G (ad k) ∧ ad k < s.heap.size := by
    intro k k1 k2
    obtain ⟨-, -, -, -, -, ⟨b1, b2, b3⟩, b4⟩ := I.1.2.2.2
    have hk : k = ja_RO ∨ k = ja_RO + 1 ∨ k = ja_RO + 2 := by simp only [ja_RO] at *; omega
    unfold jb_A
    rcases hk with rfl | rfl | rfl
    · exact ⟨by omega, by omega⟩
    · exact ⟨by omega, by omega⟩
    · exact ⟨by omega, by omega⟩
  obtain ⟨hd, hn⟩ := jc_d_of ck
  obtain ⟨o0, hS1⟩ := List.forall_mem_cons.mp hS
  replace hS := (List.forall_mem_cons.mp hS1).2
  clear hS1
  have h : ja_ald φ M x1 x0 (fun v => κ (i + 1) L (ji v :: S) M) = some r := h
  unfold ja_ald at h
  by_cases k0 : Nat.beq (ja_kd x1).1 100 = true
  · rw [k0] at h
    obtain ⟨hokc, h⟩ := jb_cond (show cond (ja_okc φ M x1) _ none = some r from h)
    obtain ⟨hj, h⟩ := jb_if h
    have k0 := Nat.eq_of_beq_eq_true k0
    obtain ⟨h1, h2, h3⟩ := jb_okc hokc I.2.2.1
    obtain ⟨k, rfl⟩ : ∃ k, x1 = k + 1 := ⟨x1 - 1, by omega⟩
    have hat := jb_at (G := G) (φ := φ) (ad := ad) (M := M) h1 h2
    rw [jb_e0 k0] at hat
    obtain ⟨g1, g2⟩ := jn_in hj.1 hj.2 (jk_len _ h3)
    have ov : jb_ok (ji (M (k + 1) x0.toNat)) := jb_numI (I.2.2.1.1 _ _ h1) (jb_lngA k0 (Or.inl rfl))
    have w := (hκ _ _ _ _ h).2 ad H locs ls I (List.forall_mem_cons.mpr ⟨ov, hS⟩)
    rw [hn] at w
    refine va_iald hx hb hK I.1.1 k 0 hat rfl g1 hd ?_
    rw [g2]
    exact w
  rw [Bool.not_eq_true] at k0
  rw [k0] at h
  by_cases k1 : Nat.beq (ja_kd x1).1 110 = true
  · have h : cond (Nat.beq (ja_kd x1).1 110) (if 0 ≤ x0 ∧ x0 < 5 then κ (i + 1) L (ji (ja_ro x1 x0.toNat) :: S) M else none) (cond (Nat.beq (ja_kd x1).1 111) (if 0 ≤ x0 ∧ x0 < M 0 4 then κ (i + 1) L (ji (M x1 x0.toNat) :: S) M else none) none) = some r := h
    rw [k1] at h
    obtain ⟨hj, h⟩ := jb_if (show (if 0 ≤ x0 ∧ x0 < 5 then κ (i + 1) L (ji (ja_ro x1 x0.toNat) :: S) M else none) = some r from h)
    have k1 := Nat.eq_of_beq_eq_true k1
    have hc : x1 = ja_RO ∨ x1 = ja_RO + 1 := by
      rcases Nat.lt_or_ge x1 176 with q | q
      · exact jk_110 x1 q k1
      · rw [jk_out x1 q] at k1
        cases k1
    have hro : ∀ c j, jb_ok (ji (ja_ro c j)) := by
      intro c j
      unfold ja_ro jb_ok
      simp only
      split
      · split <;> decide
      · split <;> decide
    have w := (hκ _ _ _ _ h).2 ad H locs ls I (List.forall_mem_cons.mpr ⟨hro _ _, hS⟩)
    rw [hn] at w
    obtain ⟨g1, g2⟩ := jn_in (n := 5) hj.1 hj.2 (by decide)
    rcases hc with rfl | rfl
    · obtain ⟨n1, n2⟩ := nA ja_RO (by decide) (by decide)
      refine va_sld hx hb I.1.2.2.2.2.2.1 n2 n1 I.1.2.2.1 g1 hd ?_
      rw [g2]
      exact w
    · obtain ⟨n1, n2⟩ := nA (ja_RO + 1) (by decide) (by decide)
      refine va_sld hx hb I.1.2.2.2.2.2.2.1 n2 n1 I.1.2.2.1 g1 hd ?_
      rw [g2]
      exact w
  rw [Bool.not_eq_true] at k1
  have h : cond (Nat.beq (ja_kd x1).1 110) (if 0 ≤ x0 ∧ x0 < 5 then κ (i + 1) L (ji (ja_ro x1 x0.toNat) :: S) M else none) (cond (Nat.beq (ja_kd x1).1 111) (if 0 ≤ x0 ∧ x0 < M 0 4 then κ (i + 1) L (ji (M x1 x0.toNat) :: S) M else none) none) = some r := h
  rw [k1] at h
  obtain ⟨k2, h⟩ := jb_cond (show cond (Nat.beq (ja_kd x1).1 111) (if 0 ≤ x0 ∧ x0 < M 0 4 then κ (i + 1) L (ji (M x1 x0.toNat) :: S) M else none) none = some r from h)
  obtain ⟨hj, h⟩ := jb_if h
  have k2 := Nat.eq_of_beq_eq_true k2
  have hc : x1 = ja_RO + 2 := by
    rcases Nat.lt_or_ge x1 176 with q | q
    · exact jk_111 x1 q k2
    · rw [jk_out x1 q] at k2
      cases k2
  subst hc
  have ov : jb_ok (ji (M (ja_RO + 2) x0.toNat)) := jb_numI (I.2.2.1.1 _ _ (by decide)) (by rfl)
  have w := (hκ _ _ _ _ h).2 ad H locs ls I (List.forall_mem_cons.mpr ⟨ov, hS⟩)
  rw [hn] at w
  obtain ⟨n1, n2⟩ := nA (ja_RO + 2) (by decide) (by decide)
  have hb4 := I.2.2.1.2.2.2.2.1
  have g : vp_in (Int32.ofInt x0) (M 0 4).toNat ∧ (Int32.ofInt x0).toNatClampNeg = x0.toNat := by
    obtain ⟨k, rfl⟩ : ∃ k : Nat, x0 = (k : Int) := ⟨x0.toNat, by omega⟩
    rw [jn_nat, Int.toNat_natCast]
    exact ⟨nI_in (by omega) (by omega), nI_clamp (by omega)⟩
  refine va_sld hx hb I.1.2.2.2.2.2.2.2.1 n2 n1 I.1.2.2.1 g.1 hd ?_
  rw [g.2]
  exact w

set_option maxHeartbeats 4000000 in
theorem jw_bald : jb_SH jh_bald jc_bald := by
  intro p l e R s m args below meth c Q G φ z d C0 S0 ad0 lim0 E a i L S M κ r F EO CP ck h hκ hR ad H locs ls I hS
  obtain ⟨⟨hx, hb, hml, hown, hts⟩, ⟨hK, hA⟩, ⟨hfr, hlo⟩, hin, hao⟩ := F
  rcases S with _ | ⟨x0 | x0 | x0, _ | ⟨x1 | x1 | x1, S⟩⟩ <;> first | (cases h; done) | skip
  obtain ⟨o0, hS1⟩ := List.forall_mem_cons.mp hS
  replace hS := (List.forall_mem_cons.mp hS1).2
  clear hS1
  obtain ⟨hd, hn⟩ := jc_d_of ck
  obtain ⟨hc0, hk9⟩ := jb_cond h
  obtain ⟨hj, hk9⟩ := jb_if hk9
  obtain ⟨hokc, hkd⟩ := jb_and hc0
  have hkd := Nat.eq_of_beq_eq_true hkd
  obtain ⟨h1, h2, h3⟩ := jb_okc hokc I.2.2.1
  obtain ⟨k, rfl⟩ : ∃ k, x1 = k + 1 := ⟨x1 - 1, by omega⟩
  have hat := jb_at (G := G) (φ := φ) (ad := ad) (M := M) h1 h2
  rw [jb_e1 hkd] at hat
  obtain ⟨g1, g2⟩ := jn_in hj.1 hj.2 (jk_len _ h3)
  have ov : jb_ok (ji (M (k + 1) x0.toNat)) := jb_numI (I.2.2.1.1 _ _ h1) (jb_lngA hkd (Or.inr (Or.inl rfl)))
  have w := (hκ _ _ _ _ hk9).2 ad H locs ls I (List.forall_mem_cons.mpr ⟨ov, hS⟩)
  rw [hn] at w
  refine va_zald hx hb hK I.1.1 k 1 hat rfl g1 hd ?_
  rw [g2]
  exact w

set_option maxHeartbeats 4000000 in
theorem jw_lald : jb_SH jh_lald jc_lald := by
  intro p l e R s m args below meth c Q G φ z d C0 S0 ad0 lim0 E a i L S M κ r F EO CP ck h hκ hR ad H locs ls I hS
  obtain ⟨⟨hx, hb, hml, hown, hts⟩, ⟨hK, hA⟩, ⟨hfr, hlo⟩, hin, hao⟩ := F
  rcases S with _ | ⟨x0 | x0 | x0, _ | ⟨x1 | x1 | x1, S⟩⟩ <;> first | (cases h; done) | skip
  obtain ⟨o0, hS1⟩ := List.forall_mem_cons.mp hS
  replace hS := (List.forall_mem_cons.mp hS1).2
  clear hS1
  obtain ⟨hd, hn⟩ := jc_d_of ck
  obtain ⟨hc0, hk9⟩ := jb_cond h
  obtain ⟨hj, hk9⟩ := jb_if hk9
  obtain ⟨hokc, hkd⟩ := jb_and hc0
  have hkd := Nat.eq_of_beq_eq_true hkd
  obtain ⟨h1, h2, h3⟩ := jb_okc hokc I.2.2.1
  obtain ⟨k, rfl⟩ : ∃ k, x1 = k + 1 := ⟨x1 - 1, by omega⟩
  have hat := jb_at (G := G) (φ := φ) (ad := ad) (M := M) h1 h2
  rw [jb_e2 hkd] at hat
  obtain ⟨g1, g2⟩ := jn_in hj.1 hj.2 (jk_len _ h3)
  have ov : jb_ok (jl (M (k + 1) x0.toNat)) := jb_numL (I.2.2.1.1 _ _ h1) (jb_lng2 hkd)
  have w := (hκ _ _ _ _ hk9).2 ad H locs ls I (List.forall_mem_cons.mpr ⟨ov, hS⟩)
  rw [hn] at w
  refine va_lald hx hb hK I.1.1 k 2 hat rfl g1 hd ?_
  rw [g2]
  exact w

set_option maxHeartbeats 4000000 in
theorem jw_aald : jb_SH jh_aald jc_aald := by
  intro p l e R s m args below meth c Q G φ z d C0 S0 ad0 lim0 E a i L S M κ r F EO CP ck h hκ hR ad H locs ls I hS
  obtain ⟨⟨hx, hb, hml, hown, hts⟩, ⟨hK, hA⟩, ⟨hfr, hlo⟩, hin, hao⟩ := F
  rcases S with _ | ⟨x0 | x0 | x0, _ | ⟨x1 | x1 | x1, S⟩⟩ <;> first | (cases h; done) | skip
  obtain ⟨o0, hS1⟩ := List.forall_mem_cons.mp hS
  replace hS := (List.forall_mem_cons.mp hS1).2
  clear hS1
  obtain ⟨hd, hn⟩ := jc_d_of ck
  obtain ⟨hc0, hk9⟩ := jb_cond h
  obtain ⟨hj, hk9⟩ := jb_if hk9
  obtain ⟨hokc, hkd⟩ := jb_and hc0
  have hkd := Nat.eq_of_beq_eq_true hkd
  obtain ⟨h1, h2, h3⟩ := jb_okc hokc I.2.2.1
  obtain ⟨k, rfl⟩ : ∃ k, x1 = k + 1 := ⟨x1 - 1, by omega⟩
  have hat := jb_at (G := G) (φ := φ) (ad := ad) (M := M) h1 h2
  rw [jb_e3 hkd] at hat
  obtain ⟨g1, g2⟩ := jn_in hj.1 hj.2 (jk_len _ h3)
  have w := (hκ _ _ _ _ hk9).2 ad H locs ls I (List.forall_mem_cons.mpr ⟨trivial, hS⟩)
  rw [hn] at w
  refine va_alda hx hb hK I.1.1 k 3 hat rfl g1 hd ?_
  have e : va_rf (if (Int32.ofInt x0).toNatClampNeg < (ja_kd (k + 1)).2 then some (ad (k + 1 + 1 + (Int32.ofInt x0).toNatClampNeg)) else none) = jb_v ad (jr (k + 1 + 1 + x0.toNat)) := by
    rw [g2, if_pos (by omega), show k + 1 + 1 + x0.toNat = (k + 1 + x0.toNat) + 1 by omega]
    rfl
  rw [e]
  exact w

set_option maxHeartbeats 4000000 in
theorem jw_iast : jb_SH jh_iast jc_iast := by
  intro p l e R s m args below meth c Q G φ z d C0 S0 ad0 lim0 E a i L S M κ r F EO CP ck h hκ hR ad H locs ls I hS
  obtain ⟨⟨hx, hb, hml, hown, hts⟩, ⟨hK, hA⟩, ⟨hfr, hlo⟩, hin, hao⟩ := F
  rcases S with _ | ⟨x0 | x0 | x0, _ | ⟨x1 | x1 | x1, _ | ⟨x2 | x2 | x2, S⟩⟩⟩ <;> first | (cases h; done) | skip
  obtain ⟨o0, hS1⟩ := List.forall_mem_cons.mp hS
  replace hS := (List.forall_mem_cons.mp (List.forall_mem_cons.mp hS1).2).2
  clear hS1
  have h : ja_ast φ M x2 x1 x0 (fun M => κ (i + 1) L S M) = some r := h
  unfold ja_ast at h
  obtain ⟨hd, hn⟩ := jc_d_of ck
  obtain ⟨hc0, hk9⟩ := jb_cond h
  obtain ⟨hj, hk9⟩ := jb_if hk9
  obtain ⟨hokc, hkd⟩ := jb_and hc0
  have hkd := Nat.eq_of_beq_eq_true hkd
  obtain ⟨h1, h2, h3⟩ := jb_okc hokc I.2.2.1
  obtain ⟨k, rfl⟩ : ∃ k, x2 = k + 1 := ⟨x2 - 1, by omega⟩
  have hat := jb_at (G := G) (φ := φ) (ad := ad) (M := M) h1 h2
  rw [jb_e0 hkd] at hat
  obtain ⟨g1, g2⟩ := jn_in hj.1 hj.2 (jk_len _ h3)
  have hnum : jb_num (k + 1) x1.toNat x0 := jb_numI' o0 (jb_lngA hkd (Or.inl rfl))
  have hee : jb_e G φ ad (ja_up M (k + 1) x1.toNat x0) (k + 1) = .inl (G.2.1.1, (ja_kd (k + 1)).2, .inl (upd (fun i => Int32.ofInt (M (k + 1) i)) x1.toNat (Int32.ofInt x0))) := by
    rw [jb_e0 hkd]
    have : (fun i => Int32.ofInt (ja_up M (k + 1) x1.toNat x0 (k + 1) i)) = upd (fun i => Int32.ofInt (M (k + 1) i)) x1.toNat (Int32.ofInt x0) := by
      funext j
      unfold upd
      by_cases e : j = x1.toNat
      · subst e
        rw [jb_up_eq, if_pos rfl]
      · rw [jb_up_nej e, if_neg e]
    rw [this]
  obtain ⟨ec, es⟩ := jb_cl_up (M := M) (c := k + 1) (n := x1.toNat) (v := x0) h1
  refine va_iast hx hb hK I.1.1 I.1.2.1 I.1.2.2.1 k 0 hat rfl g1 hd (fun H1 locs1 p1 p2 p3 => ?_)
  rw [g2] at p1 p2
  have w := (hκ _ _ _ _ hk9).2 ad H1 locs1 ls (jb_I_up I h1 h2 h3 hnum (by rw [jb_ppA h3 (by omega)]; exact Nat.zero_le _) hee p1 p2 p3) hS
  rw [hn, ec, es] at w
  exact w

set_option maxHeartbeats 4000000 in
theorem jw_bast : jb_SH jh_bast jc_bast := by
  intro p l e R s m args below meth c Q G φ z d C0 S0 ad0 lim0 E a i L S M κ r F EO CP ck h hκ hR ad H locs ls I hS
  obtain ⟨⟨hx, hb, hml, hown, hts⟩, ⟨hK, hA⟩, ⟨hfr, hlo⟩, hin, hao⟩ := F
  rcases S with _ | ⟨x0 | x0 | x0, _ | ⟨x1 | x1 | x1, _ | ⟨x2 | x2 | x2, S⟩⟩⟩ <;> first | (cases h; done) | skip
  obtain ⟨o0, hS1⟩ := List.forall_mem_cons.mp hS
  replace hS := (List.forall_mem_cons.mp (List.forall_mem_cons.mp hS1).2).2
  clear hS1
  obtain ⟨hd, hn⟩ := jc_d_of ck
  obtain ⟨hc0, hk9⟩ := jb_cond h
  obtain ⟨hj, hk9⟩ := jb_if hk9
  obtain ⟨hokc, hkd⟩ := jb_and hc0
  have hkd := Nat.eq_of_beq_eq_true hkd
  obtain ⟨h1, h2, h3⟩ := jb_okc hokc I.2.2.1
  obtain ⟨k, rfl⟩ : ∃ k, x2 = k + 1 := ⟨x2 - 1, by omega⟩
  have hat := jb_at (G := G) (φ := φ) (ad := ad) (M := M) h1 h2
  rw [jb_e1 hkd] at hat
  obtain ⟨g1, g2⟩ := jn_in hj.1 hj.2 (jk_len _ h3)
  obtain ⟨hB, hk9⟩ := jb_cond hk9
  have hB := jb_isB hB
  have hnar : vp_nar .boolean (Int32.ofInt x0) = Int32.ofInt x0 := by rcases hB with rfl | rfl <;> rfl
  have hnum : jb_num (k + 1) x1.toNat x0 := jb_numI' o0 (jb_lngA hkd (Or.inr (Or.inl rfl)))
  have hee : jb_e G φ ad (ja_up M (k + 1) x1.toNat x0) (k + 1) = .inl (G.2.1.2.1, (ja_kd (k + 1)).2, .inl (upd (fun i => Int32.ofInt (M (k + 1) i)) x1.toNat (Int32.ofInt x0))) := by
    rw [jb_e1 hkd]
    have : (fun i => Int32.ofInt (ja_up M (k + 1) x1.toNat x0 (k + 1) i)) = upd (fun i => Int32.ofInt (M (k + 1) i)) x1.toNat (Int32.ofInt x0) := by
      funext j
      unfold upd
      by_cases e : j = x1.toNat
      · subst e
        rw [jb_up_eq, if_pos rfl]
      · rw [jb_up_nej e, if_neg e]
    rw [this]
  obtain ⟨ec, es⟩ := jb_cl_up (M := M) (c := k + 1) (n := x1.toNat) (v := x0) h1
  refine va_zast hx hb hK I.1.1 I.1.2.1 I.1.2.2.1 k 1 hat rfl g1 hd (fun H1 locs1 p1 p2 p3 => ?_)
  rw [g2, hnar] at p1 p2
  have w := (hκ _ _ _ _ hk9).2 ad H1 locs1 ls (jb_I_up I h1 h2 h3 hnum (by rw [jb_ppA h3 (by omega)]; exact Nat.zero_le _) hee p1 p2 p3) hS
  rw [hn, ec, es] at w
  exact w

theorem updL_eq (f : Nat → Int64) (k : Nat) (x : Int64) (j : Nat) : vp_updL f k x j = if j = k then x else f j := rfl
set_option maxHeartbeats 4000000 in
theorem jw_last : jb_SH jh_last jc_last := by
  intro p l e R s m args below meth c Q G φ z d C0 S0 ad0 lim0 E a i L S M κ r F EO CP ck h hκ hR ad H locs ls I hS
  obtain ⟨⟨hx, hb, hml, hown, hts⟩, ⟨hK, hA⟩, ⟨hfr, hlo⟩, hin, hao⟩ := F
  rcases S with _ | ⟨x0 | x0 | x0, _ | ⟨x1 | x1 | x1, _ | ⟨x2 | x2 | x2, S⟩⟩⟩ <;> first | (cases h; done) | skip
  obtain ⟨o0, hS1⟩ := List.forall_mem_cons.mp hS
  replace hS := (List.forall_mem_cons.mp (List.forall_mem_cons.mp hS1).2).2
  clear hS1
  obtain ⟨hd, hn⟩ := jc_d_of ck
  obtain ⟨hc0, hk9⟩ := jb_cond h
  obtain ⟨hj, hk9⟩ := jb_if hk9
  obtain ⟨hokc, hkd⟩ := jb_and hc0
  have hkd := Nat.eq_of_beq_eq_true hkd
  obtain ⟨h1, h2, h3⟩ := jb_okc hokc I.2.2.1
  obtain ⟨k, rfl⟩ : ∃ k, x2 = k + 1 := ⟨x2 - 1, by omega⟩
  have hat := jb_at (G := G) (φ := φ) (ad := ad) (M := M) h1 h2
  rw [jb_e2 hkd] at hat
  obtain ⟨g1, g2⟩ := jn_in hj.1 hj.2 (jk_len _ h3)
  have hnum : jb_num (k + 1) x1.toNat x0 := jb_numL' o0 (jb_lng2 hkd)
  have hee : jb_e G φ ad (ja_up M (k + 1) x1.toNat x0) (k + 1) = .inl (G.2.1.2.2.1, (ja_kd (k + 1)).2, .inr (.inl (vp_updL (fun i => Int64.ofInt (M (k + 1) i)) x1.toNat (Int64.ofInt x0)))) := by
    rw [jb_e2 hkd]
    have : (fun i => Int64.ofInt (ja_up M (k + 1) x1.toNat x0 (k + 1) i)) = vp_updL (fun i => Int64.ofInt (M (k + 1) i)) x1.toNat (Int64.ofInt x0) := by
      funext j
      rw [updL_eq]
      by_cases e : j = x1.toNat
      · subst e
        rw [jb_up_eq, if_pos rfl]
      · rw [jb_up_nej e, if_neg e]
    rw [this]
  obtain ⟨ec, es⟩ := jb_cl_up (M := M) (c := k + 1) (n := x1.toNat) (v := x0) h1
  refine va_last hx hb hK I.1.1 I.1.2.1 I.1.2.2.1 k 2 hat rfl g1 hd (fun H1 locs1 p1 p2 p3 => ?_)
  rw [g2] at p1 p2
  have w := (hκ _ _ _ _ hk9).2 ad H1 locs1 ls (jb_I_up I h1 h2 h3 hnum (by rw [jb_ppA h3 (by omega)]; exact Nat.zero_le _) hee p1 p2 p3) hS
  rw [hn, ec, es] at w
  exact w

set_option maxHeartbeats 4000000 in
theorem jw_alen : jb_SH jh_alen jc_alen := by
  intro p l e R s m args below meth c Q G φ z d C0 S0 ad0 lim0 E a i L S M κ r F EO CP ck h hκ hR ad H locs ls I hS
  obtain ⟨⟨hx, hb, hml, hown, hts⟩, ⟨hK, hA⟩, ⟨hfr, hlo⟩, hin, hao⟩ := F
  rcases S with _ | ⟨x0 | x0 | x0, S⟩ <;> first | (cases h; done) | skip
  have nA : ∀ k, ja_RO ≤ k → k ≤ ja_RO + 2 → ¬ jb_A G (ad k) ∧ ad k < s.heap.size := by
    intro k k1 k2
    obtain ⟨-, -, -, -, -, ⟨b1, b2, b3⟩, b4⟩ := I.1.2.2.2
    have hk : k = ja_RO ∨ k = ja_RO + 1 ∨ k = ja_RO + 2 := by simp only [ja_RO] at *; omega
    unfold jb_A
    rcases hk with rfl | rfl | rfl
    · exact ⟨by omega, by omega⟩
    · exact ⟨by omega, by omega⟩
    · exact ⟨by omega, by omega⟩
  obtain ⟨hd, hn⟩ := jc_d_of ck
  replace hS := (List.forall_mem_cons.mp hS).2
  have h : ja_aln φ M x0 (fun v => κ (i + 1) L (ji v :: S) M) = some r := h
  unfold ja_aln at h
  by_cases k0 : Nat.beq (ja_kd x0).1 111 = true
  · rw [k0] at h
    have h : κ (i + 1) L (ji (M 0 4) :: S) M = some r := h
    have k0 := Nat.eq_of_beq_eq_true k0
    have hc : x0 = ja_RO + 2 := by
      rcases Nat.lt_or_ge x0 176 with q | q
      · exact jk_111 x0 q k0
      · rw [jk_out x0 q] at k0
        cases k0
    subst hc
    have hb4 := I.2.2.1.2.2.2.2.1
    have w := (hκ _ _ _ _ h).2 ad H locs ls I (List.forall_mem_cons.mpr ⟨(show jb_ok (ji (M 0 4)) by unfold jb_ok; simp only; omega), hS⟩)
    rw [hn] at w
    obtain ⟨n1, n2⟩ := nA (ja_RO + 2) (by decide) (by decide)
    refine va_slen hx hb I.1.2.2.2.2.2.2.2.1 n2 n1 I.1.2.2.1 hd ?_
    have e : Int32.ofNat (M 0 4).toNat = Int32.ofInt (M 0 4) := by
      obtain ⟨k, hk⟩ : ∃ k : Nat, M 0 4 = (k : Int) := ⟨(M 0 4).toNat, by omega⟩
      rw [hk, jn_nat, Int.toNat_natCast]
      rfl
    rw [e]
    exact w
  rw [Bool.not_eq_true] at k0
  rw [k0] at h
  obtain ⟨hc0, hk9⟩ := jb_cond (show cond (ja_okc φ M x0 && (Nat.ble 100 (ja_kd x0).1 && Nat.ble (ja_kd x0).1 103)) (κ (i + 1) L (ji ((ja_kd x0).2 : Int) :: S) M) none = some r from h)
  obtain ⟨hokc, hkd⟩ := jb_and hc0
  obtain ⟨hk1, hk2⟩ := jb_and hkd
  have hk1 := Nat.le_of_ble_eq_true hk1
  have hk2 := Nat.le_of_ble_eq_true hk2
  obtain ⟨h1, h2, h3⟩ := jb_okc hokc I.2.2.1
  obtain ⟨k, rfl⟩ : ∃ k, x0 = k + 1 := ⟨x0 - 1, by omega⟩
  have hlen := jk_len _ h3
  have hat := jb_at (G := G) (φ := φ) (ad := ad) (M := M) h1 h2
  have w := (hκ _ _ _ _ hk9).2 ad H locs ls I (List.forall_mem_cons.mpr ⟨(show jb_ok (ji ((ja_kd (k + 1)).2 : Int)) by unfold jb_ok; simp only; omega), hS⟩)
  rw [hn] at w
  have hk : (ja_kd (k + 1)).1 = 100 ∨ (ja_kd (k + 1)).1 = 101 ∨ (ja_kd (k + 1)).1 = 102 ∨ (ja_kd (k + 1)).1 = 103 := by omega
  rcases hk with q | q | q | q
  · rw [jb_e0 q] at hat
    exact va_alen hx hb hK I.1.1 k 0 hat rfl rfl hd w
  · rw [jb_e1 q] at hat
    exact va_alen hx hb hK I.1.1 k 1 hat rfl rfl hd w
  · rw [jb_e2 q] at hat
    exact va_alen hx hb hK I.1.1 k 2 hat rfl rfl hd w
  · rw [jb_e3 q] at hat
    exact va_alen hx hb hK I.1.1 k 3 hat rfl rfl hd w

set_option maxHeartbeats 4000000 in
theorem jw_iret : jb_SH jh_iret jc_iret := by
  intro p l e R s m args below meth c Q G φ z d C0 S0 ad0 lim0 E a i L S M κ r F EO CP ck h hκ hR ad H locs ls I hS
  obtain ⟨⟨hx, hb, hml, hown, hts⟩, ⟨hK, hA⟩, ⟨hfr, hlo⟩, hin, hao⟩ := F
  rcases S with _ | ⟨x | x | x, _ | ⟨y, S⟩⟩ <;> first | (cases h; done) | skip
  obtain ⟨ck, ct⟩ := jb_and ck
  have ck := of_decide_eq_true ck
  cases h
  exact hR i ad H locs ls L I (fun v hv => by cases hv; exact (List.forall_mem_cons.mp hS).1) (Or.inl ⟨ck, x, rfl, Or.inl (of_decide_eq_true ct)⟩)

set_option maxHeartbeats 4000000 in
theorem jw_zret : jb_SH jh_zret jc_zret := by
  intro p l e R s m args below meth c Q G φ z d C0 S0 ad0 lim0 E a i L S M κ r F EO CP ck h hκ hR ad H locs ls I hS
  obtain ⟨⟨hx, hb, hml, hown, hts⟩, ⟨hK, hA⟩, ⟨hfr, hlo⟩, hin, hao⟩ := F
  rcases S with _ | ⟨x | x | x, _ | ⟨y, S⟩⟩ <;> first | (cases h; done) | skip
  obtain ⟨ck, ct⟩ := jb_and ck
  have ck := of_decide_eq_true ck
  obtain ⟨hB, h⟩ := jb_cond h
  have hB := jb_isB hB
  cases h
  exact hR i ad H locs ls L I (fun v hv => by cases hv; exact (List.forall_mem_cons.mp hS).1) (Or.inl ⟨ck, x, rfl, Or.inr ⟨of_decide_eq_true ct, hB⟩⟩)

set_option maxHeartbeats 4000000 in
theorem jw_lret : jb_SH jh_lret jc_lret := by
  intro p l e R s m args below meth c Q G φ z d C0 S0 ad0 lim0 E a i L S M κ r F EO CP ck h hκ hR ad H locs ls I hS
  obtain ⟨⟨hx, hb, hml, hown, hts⟩, ⟨hK, hA⟩, ⟨hfr, hlo⟩, hin, hao⟩ := F
  rcases S with _ | ⟨x | x | x, _ | ⟨y, S⟩⟩ <;> first | (cases h; done) | skip
  obtain ⟨ck, ct⟩ := jb_and ck
  have ck := of_decide_eq_true ck
  cases h
  exact hR i ad H locs ls L I (fun v hv => by cases hv; exact (List.forall_mem_cons.mp hS).1) (Or.inr (Or.inl ⟨ck, of_decide_eq_true ct, x, rfl⟩))

set_option maxHeartbeats 4000000 in
theorem jw_aret : jb_SH jh_aret jc_aret := by
  intro p l e R s m args below meth c Q G φ z d C0 S0 ad0 lim0 E a i L S M κ r F EO CP ck h hκ hR ad H locs ls I hS
  obtain ⟨⟨hx, hb, hml, hown, hts⟩, ⟨hK, hA⟩, ⟨hfr, hlo⟩, hin, hao⟩ := F
  rcases S with _ | ⟨x | x | x, _ | ⟨y, S⟩⟩ <;> first | (cases h; done) | skip
  obtain ⟨ck, ct⟩ := jb_and ck
  have ck := of_decide_eq_true ck
  obtain ⟨hB, h⟩ := jb_cond h
  cases h
  exact hR i ad H locs ls L I (fun v hv => by cases hv; trivial) (Or.inr (Or.inr (Or.inl ⟨ck, ct, x, rfl⟩)))

set_option maxHeartbeats 4000000 in
theorem jw_vret : jb_SH jh_vret jc_vret := by
  intro p l e R s m args below meth c Q G φ z d C0 S0 ad0 lim0 E a i L S M κ r F EO CP ck h hκ hR ad H locs ls I hS
  obtain ⟨⟨hx, hb, hml, hown, hts⟩, ⟨hK, hA⟩, ⟨hfr, hlo⟩, hin, hao⟩ := F
  rcases S with _ | ⟨y, S⟩ <;> first | (cases h; done) | skip
  obtain ⟨ck, ct⟩ := jb_and ck
  have ck := of_decide_eq_true ck
  cases h
  exact hR i ad H locs ls L I (fun v hv => by cases hv) (Or.inr (Or.inr (Or.inr ⟨ck, of_decide_eq_true ct, rfl⟩)))

set_option maxHeartbeats 4000000 in
theorem jw_mmax : jb_SH jh_mmax (jc_mth 0) := by
  intro p l e R s m args below meth c Q G φ z d C0 S0 ad0 lim0 E a i L S M κ r F EO CP ck h hκ hR ad H locs ls I hS
  obtain ⟨⟨hx, hb, hml, hown, hts⟩, ⟨hK, hA⟩, ⟨hfr, hlo⟩, hin, hao⟩ := F
  rcases S with _ | ⟨x0 | x0 | x0, _ | ⟨x1 | x1 | x1, S⟩⟩ <;> first | (cases h; done) | skip
  obtain ⟨ck, cs⟩ := jb_and ck
  obtain ⟨hd, hn⟩ := jc_d_of ck
  obtain ⟨q, hq, hq2⟩ := List.any_eq_true.mp cs
  obtain ⟨q1, hq2⟩ := jb_and hq2
  obtain ⟨q2, q3⟩ := jb_and hq2
  have hc := jm_in (jt_ok q hq) rfl
  rw [Nat.eq_of_beq_eq_true q1, Nat.eq_of_beq_eq_true q2, Nat.eq_of_beq_eq_true q3] at hc
  obtain ⟨hsz, h⟩ := jb_cond h
  have hsz := Nat.le_of_ble_eq_true hsz
  obtain ⟨o0, hS⟩ := List.forall_mem_cons.mp hS
  obtain ⟨o1, hS⟩ := List.forall_mem_cons.mp hS
  have ov : jb_ok (ji (ja_max x1 x0)) := by unfold ja_max; split <;> assumption
  have w := (hκ _ _ _ _ h).2 ad H locs ls I (List.forall_mem_cons.mpr ⟨ov, hS⟩)
  rw [hn] at w
  have hg : jb_gr M r.2 := (hκ _ _ _ _ h).1
  have hcap : jb_cl M - C0 ≤ R.cells ∧ jb_sl M - S0 ≤ R.slots := by
    obtain ⟨b1, b2⟩ := CP
    have m1 := hg.2.1
    have m2 := hg.2.2.1
    unfold jb_cl jb_sl at *
    omega
  refine va_mmax hx hb (by rw [hml]; exact I.2.1.1.1.symm) hown (hts _ hc) (hts _ jt_s0) (hts _ jt_i) (hts _ jt_c0) (by omega) (by rw [jb_catsum]; omega) hcap.1 hcap.2 hd ?_
  have e : (if Int32.ofInt x1 < Int32.ofInt x0 then Int32.ofInt x0 else Int32.ofInt x1) = Int32.ofInt (ja_max x1 x0) := by
    unfold ja_max
    have := jn_lt o1 o0
    by_cases q : x1 < x0
    · rw [if_pos q, if_pos (this.mpr q)]
    · rw [if_neg q, if_neg (fun w => q (this.mp w))]
  rw [e]
  exact w

set_option maxHeartbeats 4000000 in
theorem jw_mmin : jb_SH jh_mmin (jc_mth 1) := by
  intro p l e R s m args below meth c Q G φ z d C0 S0 ad0 lim0 E a i L S M κ r F EO CP ck h hκ hR ad H locs ls I hS
  obtain ⟨⟨hx, hb, hml, hown, hts⟩, ⟨hK, hA⟩, ⟨hfr, hlo⟩, hin, hao⟩ := F
  rcases S with _ | ⟨x0 | x0 | x0, _ | ⟨x1 | x1 | x1, S⟩⟩ <;> first | (cases h; done) | skip
  obtain ⟨ck, cs⟩ := jb_and ck
  obtain ⟨hd, hn⟩ := jc_d_of ck
  obtain ⟨q, hq, hq2⟩ := List.any_eq_true.mp cs
  obtain ⟨q1, hq2⟩ := jb_and hq2
  obtain ⟨q2, q3⟩ := jb_and hq2
  have hc := jm_in (jt_ok q hq) rfl
  rw [Nat.eq_of_beq_eq_true q1, Nat.eq_of_beq_eq_true q2, Nat.eq_of_beq_eq_true q3] at hc
  obtain ⟨hsz, h⟩ := jb_cond h
  have hsz := Nat.le_of_ble_eq_true hsz
  obtain ⟨o0, hS⟩ := List.forall_mem_cons.mp hS
  obtain ⟨o1, hS⟩ := List.forall_mem_cons.mp hS
  have ov : jb_ok (ji (ja_min x1 x0)) := by unfold ja_min; split <;> assumption
  have w := (hκ _ _ _ _ h).2 ad H locs ls I (List.forall_mem_cons.mpr ⟨ov, hS⟩)
  rw [hn] at w
  have hg : jb_gr M r.2 := (hκ _ _ _ _ h).1
  have hcap : jb_cl M - C0 ≤ R.cells ∧ jb_sl M - S0 ≤ R.slots := by
    obtain ⟨b1, b2⟩ := CP
    have m1 := hg.2.1
    have m2 := hg.2.2.1
    unfold jb_cl jb_sl at *
    omega
  refine va_mmin hx hb (by rw [hml]; exact I.2.1.1.1.symm) hown (hts _ hc) (hts _ jt_s1) (hts _ jt_i) (hts _ jt_c1) (by omega) (by rw [jb_catsum]; omega) hcap.1 hcap.2 hd ?_
  have e : (if Int32.ofInt x0 < Int32.ofInt x1 then Int32.ofInt x0 else Int32.ofInt x1) = Int32.ofInt (ja_min x1 x0) := by
    unfold ja_min
    have := jn_lt o0 o1
    by_cases q : x0 < x1
    · rw [if_pos q, if_pos (this.mpr q)]
    · rw [if_neg q, if_neg (fun w => q (this.mp w))]
  rw [e]
  exact w

set_option maxHeartbeats 4000000 in
theorem jw_mabs : jb_SH jh_mabs (jc_mth 2) := by
  intro p l e R s m args below meth c Q G φ z d C0 S0 ad0 lim0 E a i L S M κ r F EO CP ck h hκ hR ad H locs ls I hS
  obtain ⟨⟨hx, hb, hml, hown, hts⟩, ⟨hK, hA⟩, ⟨hfr, hlo⟩, hin, hao⟩ := F
  rcases S with _ | ⟨x0 | x0 | x0, S⟩ <;> first | (cases h; done) | skip
  obtain ⟨ck, cs⟩ := jb_and ck
  obtain ⟨hd, hn⟩ := jc_d_of ck
  obtain ⟨q, hq, hq2⟩ := List.any_eq_true.mp cs
  obtain ⟨q1, hq2⟩ := jb_and hq2
  obtain ⟨q2, q3⟩ := jb_and hq2
  have hc := jm_in (jt_ok q hq) rfl
  rw [Nat.eq_of_beq_eq_true q1, Nat.eq_of_beq_eq_true q2, Nat.eq_of_beq_eq_true q3] at hc
  obtain ⟨hsz, h⟩ := jb_cond h
  have hsz := Nat.le_of_ble_eq_true hsz
  obtain ⟨o0, hS⟩ := List.forall_mem_cons.mp hS
  have ov : jb_ok (ji (ja_abs x0)) := by unfold ja_abs; split <;> first | assumption | exact jn_w _
  have w := (hκ _ _ _ _ h).2 ad H locs ls I (List.forall_mem_cons.mpr ⟨ov, hS⟩)
  rw [hn] at w
  have hg : jb_gr M r.2 := (hκ _ _ _ _ h).1
  have hcap : jb_cl M - C0 ≤ R.cells ∧ jb_sl M - S0 ≤ R.slots := by
    obtain ⟨b1, b2⟩ := CP
    have m1 := hg.2.1
    have m2 := hg.2.2.1
    unfold jb_cl jb_sl at *
    omega
  refine va_mabs hx hb (by rw [hml]; exact I.2.1.1.1.symm) hown (hts _ hc) (hts _ jt_s2) (hts _ jt_i) (hts _ jt_c2) (by omega) (by rw [jb_catsum]; omega) hcap.1 hcap.2 hd ?_
  have e : (if 0 ≤ Int32.ofInt x0 then Int32.ofInt x0 else 0 - Int32.ofInt x0) = Int32.ofInt (ja_abs x0) := by
    unfold ja_abs
    have : (0 : Int32) ≤ Int32.ofInt x0 ↔ 0 ≤ x0 := jn_le (x := 0) ⟨by decide, by decide⟩ o0
    by_cases q : 0 ≤ x0
    · rw [if_pos q, if_pos (this.mpr q)]
    · rw [if_neg q, if_neg (fun w => q (this.mp w)), jn_sub]
      rfl
  rw [e]
  exact w

set_option maxHeartbeats 4000000 in
theorem jw_lmax : jb_SH jh_lmax (jc_mth 3) := by
  intro p l e R s m args below meth c Q G φ z d C0 S0 ad0 lim0 E a i L S M κ r F EO CP ck h hκ hR ad H locs ls I hS
  obtain ⟨⟨hx, hb, hml, hown, hts⟩, ⟨hK, hA⟩, ⟨hfr, hlo⟩, hin, hao⟩ := F
  rcases S with _ | ⟨x0 | x0 | x0, _ | ⟨x1 | x1 | x1, S⟩⟩ <;> first | (cases h; done) | skip
  obtain ⟨ck, cs⟩ := jb_and ck
  obtain ⟨hd, hn⟩ := jc_d_of ck
  obtain ⟨q, hq, hq2⟩ := List.any_eq_true.mp cs
  obtain ⟨q1, hq2⟩ := jb_and hq2
  obtain ⟨q2, q3⟩ := jb_and hq2
  have hc := jm_in (jt_ok q hq) rfl
  rw [Nat.eq_of_beq_eq_true q1, Nat.eq_of_beq_eq_true q2, Nat.eq_of_beq_eq_true q3] at hc
  obtain ⟨hsz, h⟩ := jb_cond h
  have hsz := Nat.le_of_ble_eq_true hsz
  obtain ⟨o0, hS⟩ := List.forall_mem_cons.mp hS
  obtain ⟨o1, hS⟩ := List.forall_mem_cons.mp hS
  have ov : jb_ok (jl (ja_max x1 x0)) := by unfold ja_max; split <;> assumption
  have w := (hκ _ _ _ _ h).2 ad H locs ls I (List.forall_mem_cons.mpr ⟨ov, hS⟩)
  rw [hn] at w
  have hg : jb_gr M r.2 := (hκ _ _ _ _ h).1
  have hcap : jb_cl M - C0 ≤ R.cells ∧ jb_sl M - S0 ≤ R.slots := by
    obtain ⟨b1, b2⟩ := CP
    have m1 := hg.2.1
    have m2 := hg.2.2.1
    unfold jb_cl jb_sl at *
    omega
  refine va_mmax_long hx hb (by rw [hml]; exact I.2.1.1.1.symm) hown (hts _ hc) (hts _ jt_s3) (hts _ jt_i) (hts _ jt_c3) (by omega) (by rw [jb_catsum]; omega) hcap.1 hcap.2 hd ?_
  have e : (if Int64.ofInt x0 < Int64.ofInt x1 then Int64.ofInt x1 else Int64.ofInt x0) = Int64.ofInt (ja_max x1 x0) := by
    unfold ja_max
    have : Int64.ofInt x0 < Int64.ofInt x1 ↔ x0 < x1 := by rw [Int64.lt_iff_toInt_lt, jn_l o0, jn_l o1]
    rcases Int.lt_trichotomy x0 x1 with q | q | q
    · rw [if_pos (this.mpr q), if_neg (by omega)]
    · subst q
      rw [if_neg (fun w => by have := this.mp w; omega), if_neg (by omega)]
    · rw [if_neg (fun w => by have := this.mp w; omega), if_pos q]
  rw [e]
  exact w

set_option maxHeartbeats 4000000 in
theorem jw_lmin : jb_SH jh_lmin (jc_mth 4) := by
  intro p l e R s m args below meth c Q G φ z d C0 S0 ad0 lim0 E a i L S M κ r F EO CP ck h hκ hR ad H locs ls I hS
  obtain ⟨⟨hx, hb, hml, hown, hts⟩, ⟨hK, hA⟩, ⟨hfr, hlo⟩, hin, hao⟩ := F
  rcases S with _ | ⟨x0 | x0 | x0, _ | ⟨x1 | x1 | x1, S⟩⟩ <;> first | (cases h; done) | skip
  obtain ⟨ck, cs⟩ := jb_and ck
  obtain ⟨hd, hn⟩ := jc_d_of ck
  obtain ⟨q, hq, hq2⟩ := List.any_eq_true.mp cs
  obtain ⟨q1, hq2⟩ := jb_and hq2
  obtain ⟨q2, q3⟩ := jb_and hq2
  have hc := jm_in (jt_ok q hq) rfl
  rw [Nat.eq_of_beq_eq_true q1, Nat.eq_of_beq_eq_true q2, Nat.eq_of_beq_eq_true q3] at hc
  obtain ⟨hsz, h⟩ := jb_cond h
  have hsz := Nat.le_of_ble_eq_true hsz
  obtain ⟨o0, hS⟩ := List.forall_mem_cons.mp hS
  obtain ⟨o1, hS⟩ := List.forall_mem_cons.mp hS
  have ov : jb_ok (jl (ja_min x1 x0)) := by unfold ja_min; split <;> assumption
  have w := (hκ _ _ _ _ h).2 ad H locs ls I (List.forall_mem_cons.mpr ⟨ov, hS⟩)
  rw [hn] at w
  have hg : jb_gr M r.2 := (hκ _ _ _ _ h).1
  have hcap : jb_cl M - C0 ≤ R.cells ∧ jb_sl M - S0 ≤ R.slots := by
    obtain ⟨b1, b2⟩ := CP
    have m1 := hg.2.1
    have m2 := hg.2.2.1
    unfold jb_cl jb_sl at *
    omega
  refine va_mmin_long hx hb (by rw [hml]; exact I.2.1.1.1.symm) hown (hts _ hc) (hts _ jt_s4) (hts _ jt_i) (hts _ jt_c4) (by omega) (by rw [jb_catsum]; omega) hcap.1 hcap.2 hd ?_
  have e : (if Int64.ofInt x0 < Int64.ofInt x1 then Int64.ofInt x0 else Int64.ofInt x1) = Int64.ofInt (ja_min x1 x0) := by
    unfold ja_min
    have : Int64.ofInt x0 < Int64.ofInt x1 ↔ x0 < x1 := by rw [Int64.lt_iff_toInt_lt, jn_l o0, jn_l o1]
    by_cases q : x0 < x1
    · rw [if_pos q, if_pos (this.mpr q)]
    · rw [if_neg q, if_neg (fun w => q (this.mp w))]
  rw [e]
  exact w

set_option maxHeartbeats 4000000 in
theorem jw_objI : jb_SH jh_objI jc_objI := by
  intro p l e R s m args below meth c Q G φ z d C0 S0 ad0 lim0 E a i L S M κ r F EO CP ck h hκ hR ad H locs ls I hS
  obtain ⟨⟨hx, hb, hml, hown, hts⟩, ⟨hK, hA⟩, ⟨hfr, hlo⟩, hin, hao⟩ := F
  rcases S with _ | ⟨x0 | x0 | x0, S⟩ <;> first | (cases h; done) | skip
  obtain ⟨ck, cs⟩ := jb_and ck
  obtain ⟨hd, hn⟩ := jc_d_of ck
  obtain ⟨q, hq, hq2⟩ := List.any_eq_true.mp cs
  obtain ⟨q1, q2⟩ := jb_and hq2
  have hc := jm_in (jo_ok q hq) rfl
  rw [Nat.eq_of_beq_eq_true q1, Nat.eq_of_beq_eq_true q2] at hc
  replace hS := (List.forall_mem_cons.mp hS).2
  obtain ⟨hc0, hk9⟩ := jb_cond h
  obtain ⟨h1, hsz⟩ := jb_and hc0
  have h1 := Nat.le_of_ble_eq_true h1
  have hsz := Nat.le_of_ble_eq_true hsz
  obtain ⟨k, rfl⟩ : ∃ k, x0 = k + 1 := ⟨x0 - 1, by omega⟩
  have w := (hκ _ _ _ _ hk9).2 ad H locs ls I hS
  rw [hn] at w
  refine W.objInit hx hb hown (hts _ hc) (hts _ jo_oiI) (hts _ jo_oiC) rfl (by rw [hml]; exact I.2.1.1.1) rfl hd (by omega) ?_ ?_
  · rw [jb_catsum]
    show 2 * 0 + _ + 12 ≤ _
    omega
  · exact w
end
section
/-! ===== BEGIN new T[n][m]: the outer array a place, the inner ones among the pooled ===== -/
/-- f, but v at every address of l -/
def vr_up {α : Type} (f : Nat → α) (l : List Nat) (v : α) : Nat → α := fun a => if a ∈ l then v else f a
theorem vr_up_in {α : Type} {f : Nat → α} {l : List Nat} {v : α} {a : Nat} (h : a ∈ l) : vr_up f l v a = v := if_pos h
theorem vr_up_ne {α : Type} {f : Nat → α} {l : List Nat} {v : α} {a : Nat} (h : a ∉ l) : vr_up f l v a = f a := if_neg h
theorem vr_rows {L l : List Nat} {f : Nat → va_E} {e : va_E} (h : ∀ a, a ∈ l → a ∉ L) : va_pl L f ++ l.map (fun a => (a, e)) = va_pl (L ++ l) (vr_up f l e) := by
  unfold va_pl
  rw [List.map_append]
  congr 1
  · apply List.map_congr_left
    intro a ha
    rw [vr_up_ne (fun q => h a q ha)]
  · apply List.map_congr_left
    intro a ha
    rw [vr_up_in ha]
theorem vr_lay {X rows : va_W} {x : Nat × va_E} {pl : va_W} {D : va_G} {cl : List vw_C} {H : Heap} (hP : va_P D cl (((X ++ pl) ++ [x]) ++ rows) H) : va_P D cl ((X ++ [x]) ++ (pl ++ rows)) H := by
  rw [List.append_assoc (X ++ pl)] at hP
  have h := va_P.swap hP
  rw [← List.append_assoc X] at h
  have h2 := va_P.swap h
  rw [List.append_assoc (X ++ [x])] at h2
  exact h2
theorem vr_layD {X rows : va_W} {x : Nat × va_E} {pl : va_W} {A : Nat → Prop} (hD : va_D A (((X ++ pl) ++ [x]) ++ rows)) : va_D A ((X ++ [x]) ++ (pl ++ rows)) := by
  rw [List.append_assoc (X ++ pl)] at hD
  have h := va_D.swap hD
  rw [← List.append_assoc X] at h
  have h2 := va_D.swap h
  rw [List.append_assoc (X ++ [x])] at h2
  exact h2
theorem vr_outer (c : ClassId) (N h0 : Nat) : ∀ i : Nat, Jvm.Free.Multi.outerC c N h0 i = arrV c N (fun j => va_rf (if j < i then some (h0 + 1 + j) else none))
  | 0 => by
    show ({ cls := c, slots := Array.replicate N .null, vm := .none } : Cell) = _
    rw [arrV_new]
    refine congrArg (arrV c N) (funext fun j => ?_)
    simp [va_rf]
  | i + 1 => by
    show (Jvm.Free.Multi.outerC c N h0 i).setSlot i (.ref (h0 + 1 + i)) = _
    rw [vr_outer c N h0 i, arrV_store]
    refine congrArg (arrV c N) (funext fun j => ?_)
    by_cases e : j = i
    · subst e
      simp [updV, va_rf]
    · by_cases h : j < i
      · simp [updV, e, h, Nat.lt_succ_of_lt h]
      · simp [updV, e, h, show ¬ j < i + 1 by omega]
section VGM
variable {p : Program} {l : Launch} {e : Env} {R : Room} {s : State} {m : MethodId} {args : Array Value} {below : List Frame} {meth : Method} {c : Code} {H : Heap} {locs : List Loc} {cells slots : Nat} {Q : State → Prop}
variable {cc : ByteArray} {pc : Nat} {ls : Array Slot} {rest : List Value} {D : va_G} {cl : List vw_C} {A : Nat → Prop} {a : Nat} {tys : List (ClassId × FieldType)} {ws : va_W} {H0 : Heap}
theorem va_mna {X : va_W} {L : List Nat} {f : Nat → va_E} {cc : ByteArray} (hexec : p.tables.exec = Jvm.exec) (hb : c.code = cc) {own : String} {index : Nat} {ty : FieldType} {cy : ClassId} (hown : s.vm.findClass own = some m.cls) (hclink : (Cond.classLink own index ("[" ++ (FieldType.array ty).toString)).before args s = true) (hover : (Cond.arrayOver (.array ty)).before args s = true) (harr : (Cond.arrayClass ty).before args s = true) (hcy : s.vm.findClass (FieldType.array ty).toString = some cy)
    (hK : va_K D cl tys s) (hP : va_P D cl (X ++ va_pl L f) H) (hD : va_D A (X ++ va_pl L f)) (hS : va_S A H0 H locs) (hA : ∀ q, H0.size ≤ q → A q) {n k : Int32} {N' K' : Nat} {z : vp_A} (hn : ¬ n < 0) (hk : ¬ k < 0) (hN : n.toNatClampNeg = N') (hM : k.toNatClampNeg = K')
    (hb1 : N' * 4 ≤ 536870912) (hb2 : K' * componentBytes ty ≤ 536870912) (hb3 : K' ≤ 536870912) (hdf : fits ty (defaultValue ty) = true) (hdd : (defaultValue ty).isDefault = true) (hcells : cells + (1 + N') ≤ R.cells) (hslots : slots + (N' + N' * K') ≤ R.slots) (hz : ∀ c : ClassId, Jvm.Free.Multi.innerC c K' (defaultValue ty) = vp_cell c z) (hdg : decode cc pc = .ok (.multianewarray index 2, 4))
    (kk : ∀ (q : Nat) (r : Nat → Nat) (cA : ClassId) (H1 : Heap), (∀ i j : Nat, i < N' → j < N' → r i = r j → i = j) → (∀ i : Nat, i < N' → r i ∉ L) → va_K D cl (tys ++ [(cA, .array ty)]) s →
      va_P D cl ((X ++ [(q, .inl (cA, N', .inr (.inr (.inr (.inr (fun i => if i < N' then some (r i) else none))))))]) ++ va_pl (L ++ (List.range N').map r) (vr_up f ((List.range N').map r) (.inl (cy, z)))) H1 → va_D A ((X ++ [(q, .inl (cA, N', .inr (.inr (.inr (.inr (fun i => if i < N' then some (r i) else none))))))]) ++ va_pl (L ++ (List.range N').map r) (vr_up f ((List.range N').map r) (.inl (cy, z)))) → va_S A H0 H1 locs →
      W p l e R s m args below meth c H1 locs (cells + 1 + N') (slots + N' + N' * K') Q (F0 m (pc + 4) ls (.ref q :: rest))) : W p l e R s m args below meth c H locs cells slots Q (F0 m pc ls (.int k :: .int n :: rest)) := by
  subst hN
  subst hM
  intro T hT Xs
  obtain ⟨vm₁, cA, comp, -, fA, fC, hO, -, X', step⟩ := Xs.multianewarray2F hexec hown hclink hover harr (g := F0 m pc ls (.int k :: .int n :: rest)) rfl (by rw [hb]; exact hdg) rfl hn hk hb1 hb2 hb3 hdf hdd hcells hslots
  have ec : some cy = some comp := hcy.symm.trans fC
  cases ec
  generalize hF : Jvm.Free.Multi.fill (T.setVm vm₁) cA cy n.toNatClampNeg k.toNatClampNeg (defaultValue ty) n.toNatClampNeg = F at X' step
  have hTh : (T.setVm vm₁).heap = H := hT
  obtain ⟨f1, f2, -, -⟩ := Jvm.Free.Multi.fill_facts (T.setVm vm₁) cA cy n.toNatClampNeg k.toNatClampNeg (defaultValue ty) n.toNatClampNeg
  rw [hF, hTh] at f1 f2
  have hold : ∀ x : Nat, x < H.size → F.heap[x]? = H[x]? := fun x hx => by
    have := Jvm.Free.Multi.fill_old (T.setVm vm₁) cA cy n.toNatClampNeg k.toNatClampNeg (defaultValue ty) (a := x) (by rw [hTh]; exact hx) n.toNatClampNeg
    rw [hF, hTh] at this
    exact this
  have hrow : ∀ j : Nat, j < n.toNatClampNeg → F.heap[H.size + 1 + j]? = some (vp_cell cy z) := fun j hj => by
    have := Jvm.Free.Multi.fill_inner (T.setVm vm₁) cA cy n.toNatClampNeg k.toNatClampNeg (defaultValue ty) n.toNatClampNeg j hj
    rw [hF, hTh, hz] at this
    exact this
  have hout : Jvm.Free.Multi.outerC cA n.toNatClampNeg H.size n.toNatClampNeg = vp_cell cA (n.toNatClampNeg, .inr (.inr (.inr (.inr (fun i => if i < n.toNatClampNeg then some (H.size + 1 + i) else none))))) := by
    rw [vp_cell_q]
    exact vr_outer cA n.toNatClampNeg H.size n.toNatClampNeg
  rw [hout] at f2
  have hlt : ∀ a, a ∈ L → a < H.size := fun a ha => by
    obtain ⟨k9, hk9⟩ := va_pl_get (X := X) (f := f) ha
    exact (hP k9 _ hk9).lt
  have hnl : ∀ i : Nat, i < n.toNatClampNeg → H.size + 1 + i ∉ L := fun i _ h => by
    have := hlt _ h
    omega
  have hnm : ∀ a, a ∈ (List.range n.toNatClampNeg).map (fun i => H.size + 1 + i) → a ∉ L := fun a ha h => by
    obtain ⟨i, -, rfl⟩ := List.mem_map.mp ha
    have := hlt _ h
    omega
  have hP0 : va_P D cl (X ++ va_pl L f) F.heap := hP.kept (fun k9 x hx => hold x.1 ((hP k9 x hx).lt))
  have hP1 : va_P D cl ((X ++ va_pl L f) ++ [(H.size, .inl (cA, n.toNatClampNeg, .inr (.inr (.inr (.inr (fun i => if i < n.toNatClampNeg then some (H.size + 1 + i) else none))))))]) F.heap := hP0.app (fun k9 x hx => by
    have h0 : k9 < 1 := (List.getElem?_eq_some_iff.mp hx).1
    rw [show k9 = 0 by omega] at hx
    cases hx
    exact f2)
  have hP2 : va_P D cl (((X ++ va_pl L f) ++ [(H.size, .inl (cA, n.toNatClampNeg, .inr (.inr (.inr (.inr (fun i => if i < n.toNatClampNeg then some (H.size + 1 + i) else none))))))]) ++ ((List.range n.toNatClampNeg).map (fun i => H.size + 1 + i)).map (fun a => (a, .inl (cy, z)))) F.heap := hP1.app (fun k9 x hx => by
    obtain ⟨a, ha, rfl⟩ := List.mem_map.mp (List.mem_of_getElem? hx)
    obtain ⟨i, hi, rfl⟩ := List.mem_map.mp ha
    exact hrow i (List.mem_range.mp hi))
  have hD2 : va_D A (((X ++ va_pl L f) ++ [(H.size, .inl (cA, n.toNatClampNeg, .inr (.inr (.inr (.inr (fun i => if i < n.toNatClampNeg then some (H.size + 1 + i) else none))))))]) ++ ((List.range n.toNatClampNeg).map (fun i => H.size + 1 + i)).map (fun a => (a, .inl (cy, z)))) := by
    have hD1 := hD.push (e := .inl (cA, n.toNatClampNeg, .inr (.inr (.inr (.inr (fun i => if i < n.toNatClampNeg then some (H.size + 1 + i) else none)))))) hP rfl (hA _ hS.1)
    generalize hW1 : (X ++ va_pl L f) ++ [(H.size, .inl (cA, n.toNatClampNeg, .inr (.inr (.inr (.inr (fun i => if i < n.toNatClampNeg then some (H.size + 1 + i) else none))))))] = W1 at hD1 hP1 ⊢
    have hle : ∀ (k9 : Nat) (x : Nat × va_E), W1[k9]? = some x → x.1 ≤ H.size := fun k9 x hx => by
      rw [← hW1] at hx
      by_cases hl : k9 < (X ++ va_pl L f).length
      · rw [List.getElem?_append_left hl] at hx
        exact Nat.le_of_lt ((hP k9 x hx).lt)
      · rw [List.getElem?_append_right (by omega)] at hx
        have h0 : k9 - (X ++ va_pl L f).length < 1 := (List.getElem?_eq_some_iff.mp hx).1
        rw [show k9 - (X ++ va_pl L f).length = 0 by omega] at hx
        cases hx
        exact Nat.le_refl _
    have hr : ∀ (k9 : Nat) (x : Nat × va_E), (((List.range n.toNatClampNeg).map (fun i => H.size + 1 + i)).map (fun a => ((a, .inl (cy, z)) : Nat × va_E)))[k9]? = some x → x.1 = H.size + 1 + k9 := fun k9 x hx => by
      rw [List.getElem?_map, List.getElem?_map] at hx
      by_cases h9 : k9 < n.toNatClampNeg
      · rw [List.getElem?_range h9] at hx
        cases hx
        rfl
      · have hn0 : (List.range n.toNatClampNeg)[k9]? = none := List.getElem?_eq_none (by rw [List.length_range]; omega)
        rw [hn0] at hx
        cases hx
    refine ⟨fun i j x y hi hj hxy => ?_, fun k9 x hx => ?_⟩
    · by_cases h1 : i < W1.length <;> by_cases h2 : j < W1.length
      · rw [List.getElem?_append_left h1] at hi
        rw [List.getElem?_append_left h2] at hj
        exact hD1.1 i j x y hi hj hxy
      · rw [List.getElem?_append_left h1] at hi
        rw [List.getElem?_append_right (by omega)] at hj
        have := hle _ _ hi
        have := hr _ _ hj
        omega
      · rw [List.getElem?_append_right (by omega)] at hi
        rw [List.getElem?_append_left h2] at hj
        have := hle _ _ hj
        have := hr _ _ hi
        omega
      · rw [List.getElem?_append_right (by omega)] at hi hj
        have := hr _ _ hi
        have := hr _ _ hj
        omega
    · by_cases h1 : k9 < W1.length
      · rw [List.getElem?_append_left h1] at hx
        exact hD1.2 k9 x hx
      · rw [List.getElem?_append_right (by omega)] at hx
        have := hr _ _ hx
        exact hA _ (by have := hS.1; omega)
  have hAr : ArrOfT s cA (.array ty) := fun N9 z9 => by
    obtain ⟨-, k9, hk9, cm9, hkk9⟩ := (hO 0 0 0).1
    exact ⟨(fun q hq => by cases hq), k9, hk9, cm9, hkk9⟩
  have hK2 : va_K D cl (tys ++ [(cA, .array ty)]) s := ⟨hK.1, fun k9 x hx => by
    by_cases hl : k9 < tys.length
    · rw [List.getElem?_append_left hl] at hx
      exact hK.2 k9 x hx
    · rw [List.getElem?_append_right (by omega)] at hx
      have h0 : k9 - tys.length < 1 := (List.getElem?_eq_some_iff.mp hx).1
      rw [show k9 - tys.length = 0 by omega] at hx
      cases hx
      exact ⟨hAr, fA⟩⟩
  obtain ⟨t, a1, b1⟩ := kk H.size (fun i => H.size + 1 + i) cA F.heap (fun i j _ _ h => by have h9 : H.size + 1 + i = H.size + 1 + j := h; omega) hnl hK2 (by rw [← vr_rows hnm]; exact vr_lay hP2) (by rw [← vr_rows hnm]; exact vr_layD hD2) ⟨by rw [f1]; have := hS.1; omega, fun x h1 h2 => (hold x (Nat.lt_of_lt_of_le h1 hS.1)).trans (hS.2.1 x h1 h2), hS.2.2⟩ F rfl X'
  refine ⟨t, step t ?_, b1⟩
  have e : T.heap.size = H.size := by rw [hT]
  rw [e]
  exact a1
end VGM
/-! ===== END ===== -/
end
section
/-! calls and new cells -/
theorem va_AOI.moved {u U : State} (hW : u.WarmedH U.vm) (h : va_AOI u) : va_AOI U :=
  ⟨Jvm.Stand.arrayOver_alikeB hW.alike h.1, fun q hq => va_Nw.warmM hW (h.2 q hq)⟩
theorem jb_ro.at {G : jb_G} {ad : Nat → Nat} {M : ja_M} {s U : State} {H : Heap} {locs : List Loc} (h : jb_ro G ad M s) (hS : va_S (jb_A G) s.heap H locs) (hU : U.heap = H) (hvm : s.vm.Alike U.vm) : jb_ro G ad M U := by
  obtain ⟨h1, h2, h3, h4, h5, ⟨b1, b2, b3⟩, h7⟩ := h
  subst hU
  have hk : ∀ q, q < G.2.2 → U.heap[q]? = s.heap[q]? := fun q hq => hS.2.1 q (by omega) (by unfold jb_A; omega)
  exact ⟨(h1.moved hvm).kept (fun a x y => hS.2.1 a x y), (h2.moved hvm).kept (fun a x y => hS.2.1 a x y), (h3.moved hvm).kept (hk _ b1), (h4.moved hvm).kept (hk _ b2), (h5.moved hvm).kept (hk _ b3), ⟨b1, b2, b3⟩, Nat.le_trans h7 hS.1⟩
theorem jb_ro.calling {G : jb_G} {ad : Nat → Nat} {M : ja_M} {U : State} {g : JFrame} {mk : MethodId} {a : Array Value} (h : jb_ro G ad M U) : jb_ro G ad M (U.calling g mk a) := by
  obtain ⟨h1, h2, h3, h4, h5, h6, h7⟩ := h
  exact ⟨h1.moved (Vm.Alike.refl U.vm), h2.moved (Vm.Alike.refl U.vm), h3.moved (Vm.Alike.refl U.vm), h4.moved (Vm.Alike.refl U.vm), h5.moved (Vm.Alike.refl U.vm), h6, h7⟩
theorem jb_blind {G : jb_G} {φ : Bool} {ad : Nat → Nat} {as : List ja_V} {M : ja_M} : FrameBlind (jb_Pc G φ ad as M) := by
  intro a U g mk h
  obtain ⟨h0, h1, h2, h3, h4, h5⟩ := h
  exact ⟨h0, h1, h2, va_K.moved (u := U) (U := U.calling g mk a) (Vm.Alike.refl U.vm) h3, h4.calling, va_AOI.moved (u := U) (U := U.calling g mk a) (State.WarmedH.refl U) h5⟩
theorem ja_nth_mem {α : Type} : ∀ (l : List α) (k : Nat) (d : α), k < l.length → ja_nth l k d ∈ l
  | [], _, _, h => by simp at h
  | _ :: _, 0, _, _ => List.mem_cons_self
  | _ :: r, k + 1, d, h => List.mem_cons_of_mem _ (ja_nth_mem r k d (by simpa using h))
theorem ja_nth_app {α : Type} : ∀ (l r : List α) (k : Nat) (d : α), k < l.length → ja_nth (l ++ r) k d = ja_nth l k d
  | [], _, _, _, h => by simp at h
  | _ :: _, _, 0, _, _ => rfl
  | _ :: l, r, k + 1, d, h => ja_nth_app l r k d (by simpa using h)
theorem jw_all : ∀ x ∈ jm_all0 ++ jm_all1 ++ jm_all2 ++ jm_all3 ++ jm_all4 ++ jm_all5 ++ jm_all6 ++ jm_all7, Cond.code x.1 x.2.1 x.2.2.1 x.2.2.2 ∈ lw_tbl := by
  intro x hx
  simp only [List.mem_append] at hx
  rcases hx with ((((((h | h) | h) | h) | h) | h) | h) | h
  · exact jw_code0 x h
  · exact jw_code1 x h
  · exact jw_code2 x h
  · exact jw_code3 x h
  · exact jw_code4 x h
  · exact jw_code5 x h
  · exact jw_code6 x h
  · exact jw_code7 x h
theorem jw_codeW {y : Nat} (h : y < jm_NM) : Cond.code (jm_nm y) (jm_b y) (ja_maxL y) (jm_rt y) ∈ jm_W := by
  have hlen : (jm_all0 ++ jm_all1 ++ jm_all2 ++ jm_all3 ++ jm_all4 ++ jm_all5 ++ jm_all6 ++ jm_all7).length = jm_NM := by decide +kernel
  have e : jm_y y = ja_nth (jm_all0 ++ jm_all1 ++ jm_all2 ++ jm_all3 ++ jm_all4 ++ jm_all5 ++ jm_all6 ++ jm_all7) y (⟨"", "", ""⟩, ⟨#[]⟩, 0, none) := ja_nth_app _ _ _ _ (by rw [hlen]; exact h)
  have hm := ja_nth_mem (jm_all0 ++ jm_all1 ++ jm_all2 ++ jm_all3 ++ jm_all4 ++ jm_all5 ++ jm_all6 ++ jm_all7) y (⟨"", "", ""⟩, ⟨#[]⟩, 0, none) (by rw [hlen]; exact h)
  rw [← e] at hm
  have hc := jw_all _ hm
  rw [(jw_maxL y h).1] at hc
  exact List.mem_filter.mpr ⟨hc, rfl⟩
theorem jw_goodW {y : Nat} (h : y < jm_NM) : GoodIn jm_W (jb_ws1 y) := by
  intro w hw
  rcases List.mem_cons.mp hw with rfl | hw
  · exact ⟨jw_codeW h, good_of_word rfl⟩
  · exact ⟨hw, good_of_word (List.mem_filter.mp hw).2⟩
theorem jw_ml : ∀ q ∈ jm_ml, (jm_ch q.2.2.2.1)[q.2.2.2.2]? = some (Cond.methodLink (jm_cn q.1) q.2.1 (jm_nm q.2.2.1)) := by
  intro q hq
  unfold jm_ml at hq
  simp only [List.mem_append] at hq
  rcases hq with ((h | h) | h) | h
  · exact jl_ok0 q h
  · exact jl_ok1 q h
  · exact jl_ok2 q h
  · exact jl_ok3 q h
section JBC
variable {p : Program} {l : Launch} {e : Env} {R : Room} {s : State} {m : MethodId} {args : Array Value} {below : List Frame} {meth : Method} {c : Code} {H : Heap} {locs : List Loc} {cells slots mc ms : Nat} {Q : State → Prop} {pc : Nat} {ls : Array Slot} {st0 rest : List Value} {A : Nat → Prop} {free : Addr → Prop} {Qa : State → Outcome → State → Prop}
theorem jb_call (hr : va_Run p l e R s m args below meth c H locs cells slots mc ms (F0 m pc ls st0) rest Qa free) (hf : ∀ q, free q → A q) (hS : va_S A s.heap H locs)
    (kk : ∀ (v : Option Value) (st t : State) (locs1 : List Loc), st.heap = H → Qa st (.returned v) t → (va_F A st t → va_S A s.heap t.heap locs1) → W p l e R s m args below meth c t.heap locs1 (cells + mc) (slots + ms) Q (F0 m (pc + 3) ls (v.toList ++ rest))) : W p l e R s m args below meth c H locs cells slots Q (F0 m pc ls st0) := by
  intro T hT X
  obtain ⟨v, st, t, T', L, e0, X', hL, e1, -, hq, go⟩ := hr T hT X
  obtain ⟨u, a1, b1⟩ := kk v st t (locs ++ L) e0 hq (fun hF => ⟨Nat.le_trans hS.1 (by rw [← e0]; exact hF.1), fun q h1 h2 => by
    rw [hF.2 q (by rw [e0]; exact Nat.lt_of_lt_of_le h1 hS.1) h2, e0]
    exact hS.2.1 q h1 h2, fun x hx => by
    rcases List.mem_append.mp hx with h | h
    · exact hS.2.2 x h
    · exact hf _ (hL x h)⟩) T' e1 X'
  exact ⟨u, go u a1, b1⟩
end JBC
theorem jb_back_of {b : Nat} {o : Option ja_R} {i : Nat} {L : ja_L} {S : List ja_V} {κ : ja_K} {r : ja_R} (h : ja_back b o i L S κ = some r) : ∃ r1, o = some r1 ∧ κ (i + 1) L (r1.1.toList ++ S) r1.2 = some r := by
  rcases b with _ | _ | _ | b <;> rcases o with _ | ⟨_ | x | x | x, M⟩ <;> first | (cases h; done) | exact ⟨_, rfl, h⟩
/-- values that are named before a call are named so behind it -/
theorem jb_v_keep {φ : Bool} {M : ja_M} {ad ad' : Nat → Nat} (hk : ∀ k, k ≤ ja_lim φ M ∨ ja_RO ≤ k → ad' k = ad k) {v : ja_V} (h : ja_refok φ M v = true) : jb_v ad' v = jb_v ad v := by
  rcases v with x | x | x
  · rfl
  · rfl
  · cases x with
    | zero => rfl
    | succ x =>
      show Value.ref (ad' (x + 1)) = Value.ref (ad (x + 1))
      rw [hk (x + 1)]
      rcases jb_or h with q | q
      · exact Or.inl (Nat.le_of_ble_eq_true q)
      · exact Or.inr (Nat.le_of_ble_eq_true q)
theorem jb_S_keep {φ : Bool} {M : ja_M} {ad ad' : Nat → Nat} (hk : ∀ k, k ≤ ja_lim φ M ∨ ja_RO ≤ k → ad' k = ad k) : ∀ S : List ja_V, ja_refsS φ M S = true → S.map (jb_v ad') = S.map (jb_v ad)
  | [], _ => rfl
  | v :: S, h => by
    obtain ⟨h1, h2⟩ := jb_and h
    simp only [List.map_cons]
    rw [jb_v_keep hk h1, jb_S_keep hk S h2]
theorem jb_L_keep {φ : Bool} {M : ja_M} {ad ad' : Nat → Nat} (hk : ∀ k, k ≤ ja_lim φ M ∨ ja_RO ≤ k → ad' k = ad k) : ∀ (L : ja_L) (j : Nat), ja_refsL φ M L = true → jb_lv ad' j L = jb_lv ad j L
  | [], _, _ => rfl
  | none :: L, j, h => jb_L_keep hk L (j + 1) h
  | some v :: L, j, h => by
    obtain ⟨h1, h2⟩ := jb_and h
    show (j, jb_v ad' v) :: _ = (j, jb_v ad v) :: _
    rw [jb_v_keep hk h1, jb_L_keep hk L (j + 1) h2]
theorem jb_refsS_drop {φ : Bool} {M : ja_M} : ∀ (n : Nat) (S : List ja_V), ja_refsS φ M S = true → ja_refsS φ M (S.drop n) = true
  | 0, _, h => h
  | _ + 1, [], h => h
  | n + 1, _ :: S, h => jb_refsS_drop n S (jb_and h).2
theorem jb_limle {φ : Bool} {M : ja_M} (hM : jb_Mok φ M) : ja_lim φ M ≤ (M 0 0).toNat := by
  unfold ja_lim
  cases φ with
  | false => exact Nat.le_refl _
  | true =>
    have := hM.2.2.1 rfl
    simp only [cond_true, ja_N0] at this ⊢
    omega
/-- behind a call: the walk's invariant again -/
theorem jb_after {G : jb_G} {φ : Bool} {s st t : State} {nL C0 S0 : Nat} {ad0 : Nat → Nat} {lim0 : Nat} {ad : Nat → Nat} {M : ja_M} {H : Heap} {locs locs1 : List Loc} {L : ja_L} {ls : Array Slot} {r1 : ja_R} {o : Outcome} {as : Array Value} (I : jb_I G φ s nL C0 S0 ad0 lim0 ad M H locs L ls) (hg : jb_gr M r1.2) (hL : ja_refsL φ M L = true) (hlim : lim0 ≤ ja_lim φ M)
    (hq : jb_Qc G φ ad (ja_lim φ M) r1 as st o t) (hS : va_F (jb_A G) st t → va_S (jb_A G) s.heap t.heap locs1) : ∃ ad' : Nat → Nat, (∀ k, k ≤ ja_lim φ M ∨ ja_RO ≤ k → ad' k = ad k) ∧ o = .returned (r1.1.map (jb_v ad')) ∧ (∀ v, r1.1 = some v → jb_ok v) ∧ jb_I G φ s nL C0 S0 ad0 lim0 ad' r1.2 t.heap locs1 L ls := by
  obtain ⟨ad', k1, k2, ⟨k3, k4⟩, k5, k6, k7⟩ := hq
  obtain ⟨⟨-, -, -, ro⟩, ⟨I2, I3, I4⟩, I5, ⟨I6, I7⟩, I8, I9⟩ := I
  refine ⟨ad', k1, k2, k6, ⟨k3, k4, hS k5, ro.to hg (fun k hk => k1 k (Or.inr hk))⟩, ⟨by rw [jb_L_keep k1 L 0 hL]; exact I2, I3, I4⟩, k7, ?_, fun k hk => ?_, ?_⟩
  · have m1 := hg.2.1
    have m2 := hg.2.2.1
    unfold jb_cl jb_sl at *
    omega
  · rw [k1 k (by rcases hk with q | q; exact Or.inl (Nat.le_trans q hlim); exact Or.inr q)]
    exact I8 k hk
  · have m0 := hg.1
    omega

/-- as jb_SH, where the walk's own start names no more cells than there are -/
def jb_SH2 (h : ja_H) (ck : jc_F) : Prop := ∀ (p : Program) (l : Launch) (e : Env) (R : Room) (s : State) (m : MethodId) (args : Array Value) (below : List Frame) (meth : Method) (c : Code) (Q : State → Prop) (G : jb_G) (φ : Bool) (z d C0 S0 : Nat) (ad0 : Nat → Nat) (lim0 : Nat) (E : ja_E) (a : ja_I) (i : Nat) (L : ja_L) (S : List ja_V) (M : ja_M) (κ : ja_K) (r : ja_R),
  jb_Fix p R s m args meth c G z d → jb_EOK l G φ d E → jb_Cap R C0 S0 r.2 → ck z i a = true → h φ E a i L S M κ = some r →
  (∀ i L S M, κ i L S M = some r → jb_gr M r.2 ∧ jb_Wat p l e R s m args below meth c Q G φ z C0 S0 ad0 lim0 i L S M) → jb_Ret p l e R s m args below meth c Q G φ z C0 S0 ad0 lim0 r → (φ = true → lim0 ≤ ja_N0) → jb_Wat p l e R s m args below meth c Q G φ z C0 S0 ad0 lim0 i L S M
theorem jb_SH.to2 {h : ja_H} {ck : jc_F} (H : jb_SH h ck) : jb_SH2 h ck := fun p l e R s m args below meth c Q G φ z d C0 S0 ad0 lim0 E a i L S M κ r a1 a2 a3 a4 a5 a6 a7 _ => H p l e R s m args below meth c Q G φ z d C0 S0 ad0 lim0 E a i L S M κ r a1 a2 a3 a4 a5 a6 a7
theorem jb_limlim {φ : Bool} {M : ja_M} {lim0 : Nat} (h : φ = true → lim0 ≤ ja_N0) (h2 : lim0 ≤ (M 0 0).toNat) : lim0 ≤ ja_lim φ M := by
  unfold ja_lim
  cases φ with
  | false => exact h2
  | true => exact h rfl
set_option maxHeartbeats 4000000 in
theorem jw_callV : jb_SH2 jh_callV jc_callV := by
  intro p l e R s m args below meth c Q G φ z d C0 S0 ad0 lim0 E a i L S M κ r F EO CP ck h hκ hR hlim ad H locs ls I hS
  obtain ⟨⟨hx, hb, hml, hown, hts⟩, ⟨hK, hA⟩, ⟨hfr, hlo⟩, hin, hao⟩ := F
  obtain ⟨ck, cs⟩ := jb_and ck
  obtain ⟨hd, hn⟩ := jc_d_of ck
  obtain ⟨cy, cs⟩ := jb_and cs
  have cy : a.2.1 < jm_NM := Nat.blt_eq.mp cy
  obtain ⟨cst, cs⟩ := jb_and cs
  have cst := Nat.eq_of_beq_eq_true cst
  obtain ⟨cname, cs⟩ := jb_and cs
  have cname := of_decide_eq_true cname
  obtain ⟨c13, cs⟩ := jb_and cs
  have c13 : ja_mcls a.2.1 < 13 := Nat.blt_eq.mp c13
  obtain ⟨cown, cs⟩ := jb_and cs
  have cown := Nat.eq_of_beq_eq_true cown
  obtain ⟨cnp, cs⟩ := jb_and cs
  have cnp := of_decide_eq_true cnp
  have h : (match S.drop a.2.2.1 with
    | .inr (.inr c) :: S' => cond (ja_ckV φ M c a.2.1 S' L S) (ja_back a.2.2.2.1.toNat (E a.2.1 (jr c :: (S.take a.2.2.1).reverse) M) i L S' κ) none
    | _ => none) = some r := h
  rcases hdr : S.drop a.2.2.1 with _ | ⟨x | x | x, S'⟩
  · rw [hdr] at h; cases h
  · rw [hdr] at h; cases h
  · rw [hdr] at h; cases h
  rw [hdr] at h
  obtain ⟨hc0, h⟩ := jb_cond h
  obtain ⟨hokc, hc0⟩ := jb_and hc0
  obtain ⟨hkd, hc0⟩ := jb_and hc0
  have hkd := Nat.eq_of_beq_eq_true hkd
  obtain ⟨h1, h2, h3⟩ := jb_okc hokc I.2.2.1
  obtain ⟨hsz, hc0⟩ := jb_and hc0
  have hsz := Nat.le_of_ble_eq_true hsz
  obtain ⟨hrL, hrS⟩ := jb_and hc0
  obtain ⟨k, hxk⟩ : ∃ k, x = k + 1 := ⟨x - 1, by omega⟩
  obtain ⟨r1, hE, hk9⟩ := jb_back_of h
  have hnl : a.2.2.1 < S.length := by
    rcases Nat.lt_or_ge a.2.2.1 S.length with q | q
    · exact q
    · rw [List.drop_eq_nil_of_le q] at hdr
      cases hdr
  have hsplit : S = S.take a.2.2.1 ++ jr x :: S' := by rw [← hdr]; exact (List.take_append_drop _ _).symm
  have hoA : ∀ v ∈ jr x :: (S.take a.2.2.1).reverse, jb_ok v := List.forall_mem_cons.mpr ⟨trivial, fun v hv => hS v (List.mem_of_mem_take (List.mem_reverse.mp hv))⟩
  have hoS : ∀ v ∈ S', jb_ok v := fun v hv => hS v (by rw [hsplit]; exact List.mem_append_right _ (List.mem_cons_of_mem _ hv))
  have hrS' : ja_refsS φ M S' = true := by
    have := jb_refsS_drop a.2.2.1 S hrS
    rw [hdr] at this
    exact (jb_and this).2
  obtain ⟨hg, hMet⟩ := EO _ _ _ _ cy hE
  have hMet := hMet ad hoA I.2.2.1
  obtain ⟨hgr, hW⟩ := hκ _ _ _ _ hk9
  have hcap : (jb_cl M - C0) + (jb_cl r1.2 - jb_cl M) ≤ R.cells ∧ (jb_sl M - S0) + (jb_sl r1.2 - jb_sl M) ≤ R.slots := by
    obtain ⟨b1, b2⟩ := CP
    obtain ⟨c1, c2⟩ := I.2.2.2.1
    have m1 := hg.2.1
    have m2 := hg.2.2.1
    have m3 := hgr.2.1
    have m4 := hgr.2.2.1
    unfold jb_cl jb_sl at *
    omega
  have hceq : (jb_cl M - C0) + (jb_cl r1.2 - jb_cl M) = jb_cl r1.2 - C0 ∧ (jb_sl M - S0) + (jb_sl r1.2 - jb_sl M) = jb_sl r1.2 - S0 := by
    obtain ⟨c1, c2⟩ := I.2.2.2.1
    have m1 := hg.2.1
    have m2 := hg.2.2.1
    unfold jb_cl jb_sl at *
    omega
  have hstk : S.map (jb_v ad) = ((S.take a.2.2.1).reverse.map (jb_v ad)).reverse ++ Value.ref (ad (k + 1)) :: S'.map (jb_v ad) := by
    rw [← List.map_reverse, List.reverse_reverse]
    conv => lhs; rw [hsplit, List.map_append]
    rw [hxk]
    rfl
  have hcls := jw_cls a.2.1 cy
  obtain ⟨-, hp2, hp3⟩ := jw_plain _ (jw_own a.2.1 cy)
  rw [← hcls] at hp2 hp3
  have hmax := (jw_maxL a.2.1 cy).2
  have hpar : ∀ sig, parseMethodDescriptor (jm_nm a.2.1).desc = some sig → a.2.2.1 = sig.parameters.length := fun sig hs => by
    rw [hs] at cnp
    exact (Option.some.inj cnp).symm
  have hws : ∀ w ∈ jb_ws1 a.2.1, ∀ (a' : Array Value) (U : State), s.WarmedH U.vm → w.before a' U = true := pay_in hts (jw_goodW cy)
  obtain ⟨q, hq, hq2⟩ := List.any_eq_true.mp cs
  obtain ⟨q1, hq2⟩ := jb_and hq2
  obtain ⟨q2, q3⟩ := jb_and hq2
  have hlk := jm_in (jw_ml q hq) rfl
  rw [Nat.eq_of_beq_eq_true q1, Nat.eq_of_beq_eq_true q2, Nat.eq_of_beq_eq_true q3] at hlk
  have hinst := jw_inst a.2.1 cy
  rw [if_neg (by omega)] at hinst
  have hinst := jm_in hinst rfl
  have hsel := jm_in (jw_sel a.2.1 cy cst cname) rfl
  have hat := jb_at (G := G) (φ := φ) (ad := ad) (M := M) h1 h2
  rw [jb_eO hkd c13] at hat
  have hclsV : (jm_nm a.2.1).cls = jm_cn (ja_mcls a.2.1) := by rw [hcls, cown]
  have hrecv := va_recv hK I.1.1 (jk_cl _ c13) hat
  rw [hxk] at hrecv
  have hrun := va_runV (As := ((S.take a.2.2.1).reverse.map (jb_v ad))) (rest := S'.map (jb_v ad)) (b := ad (k + 1)) (C := (jm_nm a.2.1).cls) (locs := locs) (below := below) (p := p) (l := l) (e := e) (cells := jb_cl M - C0) (slots := jb_sl M - S0) (meth := meth) (n := a.2.2.1) ⟨hx, hb, hml, hown, hts⟩ hMet (⟨⟨rfl, rfl, (show d + 1 ≤ R.frames from hfr), (show 8 + (ja_maxL a.2.1 + 11) + (40 * d + 20) ≤ R.locals by omega), hws, List.mem_cons_self, hts _ (jw_codeW cy), hts _ (jm_in (jw_ini _ cy) rfl), ⟨hp2, hp3⟩, hpar, hts _ hlk⟩, hts _ hinst, hts _ hsel⟩) ⟨jb_blind, by rw [hclsV]; exact hrecv, fun U hU hWm => ⟨by rw [List.map_cons, hxk]; rfl, by rw [hU]; exact I.1.1, I.1.2.1, va_K.moved hWm.alike hK, I.1.2.2.2.at I.1.2.2.1 hU hWm.alike, va_AOI.moved hWm hao⟩⟩ (g := F0 m (jm_pc z i) ls (S.map (jb_v ad))) rfl (by simp; omega) I.2.1.1.1 hstk (by rw [jb_catsum]; show 2 * 0 + _ ≤ 8; omega) hd hcap
  refine jb_call hrun (fun q hq => hq) I.1.2.2.1 (fun v st t locs1 e0 hq hSt => ?_)
  obtain ⟨ad', k1, k2, k3, I'⟩ := jb_after I hg hrL (jb_limlim hlim I.2.2.2.2.2) hq hSt
  cases k2
  have w := hW ad' t.heap locs1 ls I' (fun v hv => by
    rcases List.mem_append.mp hv with q | q
    · exact k3 v (by cases hr1 : r1.1 with
        | none => rw [hr1] at q; cases q
        | some u => rw [hr1] at q; simp at q; rw [q])
    · exact hoS v q)
  rw [hn, List.map_append, jb_S_keep k1 S' hrS'] at w
  rw [hceq.1, hceq.2]
  have e2 : (r1.1.toList).map (jb_v ad') = (r1.1.map (jb_v ad')).toList := by cases r1.1 <;> rfl
  rw [e2] at w
  exact w

set_option maxHeartbeats 4000000 in
theorem jw_callS : jb_SH2 jh_callS jc_callS := by
  intro p l e R s m args below meth c Q G φ z d C0 S0 ad0 lim0 E a i L S M κ r F EO CP ck h hκ hR hlim ad H locs ls I hS
  obtain ⟨⟨hx, hb, hml, hown, hts⟩, ⟨hK, hA⟩, ⟨hfr, hlo⟩, hin, hao⟩ := F
  obtain ⟨ck, cs⟩ := jb_and ck
  obtain ⟨hd, hn⟩ := jc_d_of ck
  obtain ⟨cy, cs⟩ := jb_and cs
  have cy : a.2.1 < jm_NM := Nat.blt_eq.mp cy
  obtain ⟨cst, cs⟩ := jb_and cs
  have cst := Nat.eq_of_beq_eq_true cst
  obtain ⟨cnp, cs⟩ := jb_and cs
  have cnp := of_decide_eq_true cnp
  obtain ⟨hc0, h⟩ := jb_cond h
  obtain ⟨hnl, hc0⟩ := jb_and hc0
  have hnl := Nat.le_of_ble_eq_true hnl
  obtain ⟨hsz, hc0⟩ := jb_and hc0
  have hsz := Nat.le_of_ble_eq_true hsz
  obtain ⟨hrL, hrS⟩ := jb_and hc0
  obtain ⟨r1, hE, hk9⟩ := jb_back_of h
  have hoA : ∀ v ∈ (S.take a.2.2.1).reverse, jb_ok v := fun v hv => hS v (List.mem_of_mem_take (List.mem_reverse.mp hv))
  generalize hS' : S.drop a.2.2.1 = S' at hk9 hsz
  have hsplit : S = S.take a.2.2.1 ++ S' := by rw [← hS']; exact (List.take_append_drop _ _).symm
  have hoS : ∀ v ∈ S', jb_ok v := fun v hv => hS v (by rw [hsplit]; exact List.mem_append_right _ hv)
  have hrS' : ja_refsS φ M S' = true := by
    rw [← hS']
    exact jb_refsS_drop a.2.2.1 S hrS
  obtain ⟨hg, hMet⟩ := EO _ _ _ _ cy hE
  have hMet := hMet ad hoA I.2.2.1
  obtain ⟨hgr, hW⟩ := hκ _ _ _ _ hk9
  have hcap : (jb_cl M - C0) + (jb_cl r1.2 - jb_cl M) ≤ R.cells ∧ (jb_sl M - S0) + (jb_sl r1.2 - jb_sl M) ≤ R.slots := by
    obtain ⟨b1, b2⟩ := CP
    obtain ⟨c1, c2⟩ := I.2.2.2.1
    have m1 := hg.2.1
    have m2 := hg.2.2.1
    have m3 := hgr.2.1
    have m4 := hgr.2.2.1
    unfold jb_cl jb_sl at *
    omega
  have hceq : (jb_cl M - C0) + (jb_cl r1.2 - jb_cl M) = jb_cl r1.2 - C0 ∧ (jb_sl M - S0) + (jb_sl r1.2 - jb_sl M) = jb_sl r1.2 - S0 := by
    obtain ⟨c1, c2⟩ := I.2.2.2.1
    have m1 := hg.2.1
    have m2 := hg.2.2.1
    unfold jb_cl jb_sl at *
    omega
  have hstk : S.map (jb_v ad) = ((S.take a.2.2.1).reverse.map (jb_v ad)).reverse ++ S'.map (jb_v ad) := by
    rw [← List.map_reverse, List.reverse_reverse]
    conv => lhs; rw [hsplit, List.map_append]
  have hcls := jw_cls a.2.1 cy
  obtain ⟨-, hp2, hp3⟩ := jw_plain _ (jw_own a.2.1 cy)
  rw [← hcls] at hp2 hp3
  have hmax := (jw_maxL a.2.1 cy).2
  have hpar : ∀ sig, parseMethodDescriptor (jm_nm a.2.1).desc = some sig → a.2.2.1 = sig.parameters.length := fun sig hs => by
    rw [hs] at cnp
    exact (Option.some.inj cnp).symm
  have hws : ∀ w ∈ jb_ws1 a.2.1, ∀ (a' : Array Value) (U : State), s.WarmedH U.vm → w.before a' U = true := pay_in hts (jw_goodW cy)
  obtain ⟨q, hq, hq2⟩ := List.any_eq_true.mp cs
  obtain ⟨q1, hq2⟩ := jb_and hq2
  obtain ⟨q2, q3⟩ := jb_and hq2
  have hlk := jm_in (jw_ml q hq) rfl
  rw [Nat.eq_of_beq_eq_true q1, Nat.eq_of_beq_eq_true q2, Nat.eq_of_beq_eq_true q3] at hlk
  have hinst := jw_inst a.2.1 cy
  rw [if_pos cst] at hinst
  have hinst := jm_in hinst rfl
  have hrun := va_runS (As := ((S.take a.2.2.1).reverse.map (jb_v ad))) (rest := S'.map (jb_v ad)) (locs := locs) (below := below) (p := p) (l := l) (e := e) (cells := jb_cl M - C0) (slots := jb_sl M - S0) (meth := meth) (n := a.2.2.1) ⟨hx, hb, hml, hown, hts⟩ hMet (⟨⟨rfl, rfl, (show d + 1 ≤ R.frames from hfr), (show 8 + (ja_maxL a.2.1 + 11) + (40 * d + 20) ≤ R.locals by omega), hws, List.mem_cons_self, hts _ (jw_codeW cy), hts _ (jm_in (jw_ini _ cy) rfl), ⟨hp2, hp3⟩, hpar, hts _ hlk⟩, hts _ hinst⟩) ⟨jb_blind, fun U hU hWm => ⟨rfl, by rw [hU]; exact I.1.1, I.1.2.1, va_K.moved hWm.alike hK, I.1.2.2.2.at I.1.2.2.1 hU hWm.alike, va_AOI.moved hWm hao⟩⟩ (g := F0 m (jm_pc z i) ls (S.map (jb_v ad))) rfl (by simp; omega) I.2.1.1.1 hstk (by rw [jb_catsum]; show 2 * 0 + _ ≤ 8; omega) hd hcap
  refine jb_call hrun (fun q hq => hq) I.1.2.2.1 (fun v st t locs1 e0 hq hSt => ?_)
  obtain ⟨ad', k1, k2, k3, I'⟩ := jb_after I hg hrL (jb_limlim hlim I.2.2.2.2.2) hq hSt
  cases k2
  have w := hW ad' t.heap locs1 ls I' (fun v hv => by
    rcases List.mem_append.mp hv with q | q
    · exact k3 v (by cases hr1 : r1.1 with
        | none => rw [hr1] at q; cases q
        | some u => rw [hr1] at q; simp at q; rw [q])
    · exact hoS v q)
  rw [hn, List.map_append, jb_S_keep k1 S' hrS'] at w
  rw [hceq.1, hceq.2]
  have e2 : (r1.1.toList).map (jb_v ad') = (r1.1.map (jb_v ad')).toList := by cases r1.1 <;> rfl
  rw [e2] at w
  exact w

set_option maxHeartbeats 4000000 in
theorem jw_callI : jb_SH2 jh_callI jc_callI := by
  intro p l e R s m args below meth c Q G φ z d C0 S0 ad0 lim0 E a i L S M κ r F EO CP ck h hκ hR hlim ad H locs ls I hS
  obtain ⟨⟨hx, hb, hml, hown, hts⟩, ⟨hK, hA⟩, ⟨hfr, hlo⟩, hin, hao⟩ := F
  obtain ⟨ck, cs⟩ := jb_and ck
  obtain ⟨hd, hn⟩ := jc_d_of ck
  obtain ⟨cy, cs⟩ := jb_and cs
  have cy : a.2.1 < jm_NM := Nat.blt_eq.mp cy
  obtain ⟨cst, cs⟩ := jb_and cs
  have cst := Nat.eq_of_beq_eq_true cst
  obtain ⟨cname, cs⟩ := jb_and cs
  have cname := of_decide_eq_true cname
  obtain ⟨crt, cs⟩ := jb_and cs
  have crt := of_decide_eq_true crt
  obtain ⟨cnp, cs⟩ := jb_and cs
  have cnp := of_decide_eq_true cnp
  have h : (match S.drop a.2.2.1 with
    | .inr (.inr c) :: S' => cond (ja_ckI φ M c S' L S) (ja_back 0 (E a.2.1 (jr c :: (S.take a.2.2.1).reverse) M) i L S' κ) none
    | _ => none) = some r := h
  rcases hdr : S.drop a.2.2.1 with _ | ⟨x | x | x, S'⟩
  · rw [hdr] at h; cases h
  · rw [hdr] at h; cases h
  · rw [hdr] at h; cases h
  rw [hdr] at h
  obtain ⟨hc0, h⟩ := jb_cond h
  obtain ⟨h1, hc0⟩ := jb_and hc0
  have h1 := Nat.le_of_ble_eq_true h1
  obtain ⟨hsz, hc0⟩ := jb_and hc0
  have hsz := Nat.le_of_ble_eq_true hsz
  obtain ⟨hrL, hrS⟩ := jb_and hc0
  obtain ⟨k, hxk⟩ : ∃ k, x = k + 1 := ⟨x - 1, by omega⟩
  obtain ⟨r1, hE, hk9⟩ := jb_back_of h
  have hnl : a.2.2.1 < S.length := by
    rcases Nat.lt_or_ge a.2.2.1 S.length with q | q
    · exact q
    · rw [List.drop_eq_nil_of_le q] at hdr
      cases hdr
  have hsplit : S = S.take a.2.2.1 ++ jr x :: S' := by rw [← hdr]; exact (List.take_append_drop _ _).symm
  have hoA : ∀ v ∈ jr x :: (S.take a.2.2.1).reverse, jb_ok v := List.forall_mem_cons.mpr ⟨trivial, fun v hv => hS v (List.mem_of_mem_take (List.mem_reverse.mp hv))⟩
  have hoS : ∀ v ∈ S', jb_ok v := fun v hv => hS v (by rw [hsplit]; exact List.mem_append_right _ (List.mem_cons_of_mem _ hv))
  have hrS' : ja_refsS φ M S' = true := by
    have := jb_refsS_drop a.2.2.1 S hrS
    rw [hdr] at this
    exact (jb_and this).2
  obtain ⟨hg, hMet⟩ := EO _ _ _ _ cy hE
  have hMet := hMet ad hoA I.2.2.1
  obtain ⟨hgr, hW⟩ := hκ _ _ _ _ hk9
  have hcap : (jb_cl M - C0) + (jb_cl r1.2 - jb_cl M) ≤ R.cells ∧ (jb_sl M - S0) + (jb_sl r1.2 - jb_sl M) ≤ R.slots := by
    obtain ⟨b1, b2⟩ := CP
    obtain ⟨c1, c2⟩ := I.2.2.2.1
    have m1 := hg.2.1
    have m2 := hg.2.2.1
    have m3 := hgr.2.1
    have m4 := hgr.2.2.1
    unfold jb_cl jb_sl at *
    omega
  have hceq : (jb_cl M - C0) + (jb_cl r1.2 - jb_cl M) = jb_cl r1.2 - C0 ∧ (jb_sl M - S0) + (jb_sl r1.2 - jb_sl M) = jb_sl r1.2 - S0 := by
    obtain ⟨c1, c2⟩ := I.2.2.2.1
    have m1 := hg.2.1
    have m2 := hg.2.2.1
    unfold jb_cl jb_sl at *
    omega
  have hstk : S.map (jb_v ad) = ((S.take a.2.2.1).reverse.map (jb_v ad)).reverse ++ Value.ref (ad (k + 1)) :: S'.map (jb_v ad) := by
    rw [← List.map_reverse, List.reverse_reverse]
    conv => lhs; rw [hsplit, List.map_append]
    rw [hxk]
    rfl
  have hcls := jw_cls a.2.1 cy
  obtain ⟨-, hp2, hp3⟩ := jw_plain _ (jw_own a.2.1 cy)
  rw [← hcls] at hp2 hp3
  have hmax := (jw_maxL a.2.1 cy).2
  have hpar : ∀ sig, parseMethodDescriptor (jm_nm a.2.1).desc = some sig → a.2.2.1 = sig.parameters.length := fun sig hs => by
    rw [hs] at cnp
    exact (Option.some.inj cnp).symm
  have hws : ∀ w ∈ jb_ws1 a.2.1, ∀ (a' : Array Value) (U : State), s.WarmedH U.vm → w.before a' U = true := pay_in hts (jw_goodW cy)
  have hinst := jw_inst a.2.1 cy
  rw [if_neg (by omega)] at hinst
  have hinst := jm_in hinst rfl
  have hcodeN : Cond.code (jm_nm a.2.1) (jm_b a.2.1) (ja_maxL a.2.1) none ∈ jm_W := by
    have := jw_codeW cy
    rw [crt] at this
    exact this
  have hcodeN2 : Cond.code (jm_nm a.2.1) (jm_b a.2.1) (ja_maxL a.2.1) none ∈ jb_ws1 a.2.1 := by
    unfold jb_ws1
    rw [crt]
    exact List.mem_cons_self
  have fin : va_Run p l e R s m args below meth c H locs (jb_cl M - C0) (jb_sl M - S0) (jb_cl r1.2 - jb_cl M) (jb_sl r1.2 - jb_sl M) (F0 m (jm_pc z i) ls (S.map (jb_v ad))) (S'.map (jb_v ad)) (jb_Qc G φ ad (ja_lim φ M) r1 (Value.ref (ad (k + 1)) :: ((S.take a.2.2.1).reverse.map (jb_v ad))).toArray) (jb_A G) := by
    rcases jb_or cs with cs | cs
    · obtain ⟨q, hq, hq2⟩ := List.any_eq_true.mp cs
      obtain ⟨q1, hq2⟩ := jb_and hq2
      obtain ⟨q2, q3⟩ := jb_and hq2
      have hlk := jm_in (jw_ml q hq) rfl
      rw [Nat.eq_of_beq_eq_true q1, Nat.eq_of_beq_eq_true q2, Nat.eq_of_beq_eq_true q3] at hlk
      exact va_runI (As := ((S.take a.2.2.1).reverse.map (jb_v ad))) (rest := S'.map (jb_v ad)) (b := ad (k + 1)) (n := a.2.2.1) ⟨hx, hb, hml, hown, hts⟩ hMet ⟨⟨rfl, rfl, (show d + 1 ≤ R.frames from hfr), (show 8 + (ja_maxL a.2.1 + 11) + (40 * d + 20) ≤ R.locals by omega), hws, hcodeN2, hts _ hcodeN, hts _ (jm_in (jw_ini _ cy) rfl), ⟨hp2, hp3⟩, hpar, hts _ hlk⟩, cname, hts _ hinst⟩ ⟨jb_blind, fun U hU hWm => ⟨by rw [List.map_cons, hxk]; rfl, by rw [hU]; exact I.1.1, I.1.2.1, va_K.moved hWm.alike hK, I.1.2.2.2.at I.1.2.2.1 hU hWm.alike, va_AOI.moved hWm hao⟩⟩ rfl (by simp; omega) I.2.1.1.1 hstk (by rw [jb_catsum]; show 2 * 0 + _ ≤ 8; omega) hd hcap
    · obtain ⟨q, hq, hq2⟩ := List.any_eq_true.mp cs
      obtain ⟨q1, hq2⟩ := jb_and hq2
      obtain ⟨q2, q3⟩ := jb_and hq2
      have hlk := hao.2 q hq
      rw [Nat.eq_of_beq_eq_true q1, Nat.eq_of_beq_eq_true q2, Nat.eq_of_beq_eq_true q3] at hlk
      exact va_runIN (As := ((S.take a.2.2.1).reverse.map (jb_v ad))) (rest := S'.map (jb_v ad)) (b := ad (k + 1)) (n := a.2.2.1) ⟨hx, hb, hml, hown, hts⟩ hMet ⟨⟨⟨rfl, rfl, (show d + 1 ≤ R.frames from hfr), (show 8 + (ja_maxL a.2.1 + 11) + (40 * d + 20) ≤ R.locals by omega), hws, hcodeN2⟩, hts _ hcodeN, hts _ (jm_in (jw_ini _ cy) rfl), ⟨hp2, hp3⟩, hpar, va_Nw.use rfl hlk⟩, cname, hts _ hinst⟩ ⟨jb_blind, fun U hU hWm => ⟨by rw [List.map_cons, hxk]; rfl, by rw [hU]; exact I.1.1, I.1.2.1, va_K.moved hWm.alike hK, I.1.2.2.2.at I.1.2.2.1 hU hWm.alike, va_AOI.moved hWm hao⟩⟩ rfl (by simp; omega) I.2.1.1.1 hstk (by rw [jb_catsum]; show 2 * 0 + _ ≤ 8; omega) hd hcap
  have hrun := fin
  refine jb_call hrun (fun q hq => hq) I.1.2.2.1 (fun v st t locs1 e0 hq hSt => ?_)
  obtain ⟨ad', k1, k2, k3, I'⟩ := jb_after I hg hrL (jb_limlim hlim I.2.2.2.2.2) hq hSt
  cases k2
  have w := hW ad' t.heap locs1 ls I' (fun v hv => by
    rcases List.mem_append.mp hv with q | q
    · exact k3 v (by cases hr1 : r1.1 with
        | none => rw [hr1] at q; cases q
        | some u => rw [hr1] at q; simp at q; rw [q])
    · exact hoS v q)
  rw [hn, List.map_append, jb_S_keep k1 S' hrS'] at w
  rw [hceq.1, hceq.2]
  have e2 : (r1.1.toList).map (jb_v ad') = (r1.1.map (jb_v ad')).toList := by cases r1.1 <;> rfl
  rw [e2] at w
  exact w

set_option maxHeartbeats 4000000 in
theorem jw_copy : jb_SH2 jh_copy jc_copy := by
  intro p l e R s m args below meth c Q G φ z d C0 S0 ad0 lim0 E a i L S M κ r F EO CP ck h hκ hR hlim ad H locs ls I hS
  obtain ⟨⟨hx, hb, hml, hown, hts⟩, ⟨hK, hA⟩, ⟨hfr, hlo⟩, hin, hao⟩ := F
  rcases S with _ | ⟨x0 | x0 | x0, _ | ⟨x1 | x1 | x1, _ | ⟨x2 | x2 | x2, _ | ⟨x3 | x3 | x3, _ | ⟨x4 | x4 | x4, S⟩⟩⟩⟩⟩ <;> first | (cases h; done) | skip
  obtain ⟨ck, cs⟩ := jb_and ck
  obtain ⟨hd, hn⟩ := jc_d_of ck
  obtain ⟨q, hq, hq2⟩ := List.any_eq_true.mp cs
  obtain ⟨q1, q2⟩ := jb_and hq2
  have hlk := jm_in (ja_ok2 q hq) rfl
  rw [Nat.eq_of_beq_eq_true q1, Nat.eq_of_beq_eq_true q2] at hlk
  obtain ⟨hc0, hk9⟩ := jb_cond h
  obtain ⟨hj, hk9⟩ := jb_if hk9
  obtain ⟨d1, hc0⟩ := jb_and hc0
  obtain ⟨d2, hc0⟩ := jb_and hc0
  obtain ⟨s1, hc0⟩ := jb_and hc0
  obtain ⟨s2, hsz⟩ := jb_and hc0
  have d2 := Nat.eq_of_beq_eq_true d2
  have s2 := Nat.eq_of_beq_eq_true s2
  have hsz := Nat.le_of_ble_eq_true hsz
  obtain ⟨o0, hS1⟩ := List.forall_mem_cons.mp hS
  obtain ⟨o1, hS1⟩ := List.forall_mem_cons.mp hS1
  obtain ⟨-, hS1⟩ := List.forall_mem_cons.mp hS1
  obtain ⟨o3, hS1⟩ := List.forall_mem_cons.mp hS1
  replace hS := (List.forall_mem_cons.mp hS1).2
  clear hS1
  obtain ⟨d3, d4, d5⟩ := jb_okc d1 I.2.2.1
  obtain ⟨s3, s4, s5⟩ := jb_okc s1 I.2.2.1
  obtain ⟨kd, hkd⟩ : ∃ k, x2 = k + 1 := ⟨x2 - 1, by omega⟩
  obtain ⟨ks, hks⟩ : ∃ k, x4 = k + 1 := ⟨x4 - 1, by omega⟩
  subst hkd
  subst hks
  have hatd := jb_at (G := G) (φ := φ) (ad := ad) (M := M) d3 d4
  have hats := jb_at (G := G) (φ := φ) (ad := ad) (M := M) s3 s4
  rw [jb_e0 d2] at hatd
  rw [jb_e0 s2] at hats
  have ld := jk_len _ d5
  have ls5 := jk_len _ s5
  obtain ⟨b0, b1, b2, b3, b4⟩ := hj
  have hcl : ∀ x : Int, 0 ≤ x → x ≤ 5000 → ¬ Int32.ofInt x < 0 ∧ (Int32.ofInt x).toNatClampNeg = x.toNat := by
    intro x h0 h1
    obtain ⟨k, rfl⟩ : ∃ k : Nat, x = (k : Int) := ⟨x.toNat, by omega⟩
    rw [jn_nat, Int.toNat_natCast]
    exact ⟨nI_pos (by omega), nI_clamp (by omega)⟩
  obtain ⟨n0, m0⟩ := hcl x0 b0 (by omega)
  obtain ⟨n1, m1⟩ := hcl x1 b1 (by omega)
  obtain ⟨n3, m3⟩ := hcl x3 b2 (by omega)
  have hee : jb_e G φ ad (ja_cpy M (ks + 1) x3.toNat (kd + 1) x1.toNat x0.toNat) (kd + 1) = .inl (G.2.1.1, (ja_kd (kd + 1)).2, .inl (va_cpy (fun i => Int32.ofInt (M (ks + 1) i)) (fun i => Int32.ofInt (M (kd + 1) i)) x3.toNat x1.toNat x0.toNat)) := by
    rw [jb_e0 d2]
    have : (fun i => Int32.ofInt (ja_cpy M (ks + 1) x3.toNat (kd + 1) x1.toNat x0.toNat (kd + 1) i)) = va_cpy (fun i => Int32.ofInt (M (ks + 1) i)) (fun i => Int32.ofInt (M (kd + 1) i)) x3.toNat x1.toNat x0.toNat := by
      funext j
      unfold va_cpy ja_cpy
      by_cases e : x1.toNat ≤ j ∧ j < x1.toNat + x0.toNat
      · rw [if_pos ⟨rfl, e⟩, if_pos e]
      · rw [if_neg (fun q => e q.2), if_neg e]
    rw [this]
  have hM' : ∀ dd jj, dd ≠ kd + 1 → ja_cpy M (ks + 1) x3.toNat (kd + 1) x1.toNat x0.toNat dd jj = M dd jj := fun dd jj hne => if_neg (fun q => hne q.1)
  have e0 := hM' 0 0 (by omega)
  have e1 := hM' 0 1 (by omega)
  have e2 := hM' 0 2 (by omega)
  have e4 := hM' 0 4 (by omega)
  have hgr' : jb_gr M (ja_cpy M (ks + 1) x3.toNat (kd + 1) x1.toNat x0.toNat) := ⟨by rw [e0]; exact Int.le_refl _, by rw [e1]; exact Int.le_refl _, by rw [e2]; exact Int.le_refl _, e4, fun j => hM' _ _ (by simp only [ja_RO]; omega)⟩
  have hok' : jb_Mok φ (ja_cpy M (ks + 1) x3.toNat (kd + 1) x1.toNat x0.toNat) := by
    obtain ⟨k1, k2, k3, k4, k5, k6⟩ := I.2.2.1
    refine ⟨fun dd jj hdd => ?_, by rw [e0]; exact k2, by rw [e0]; exact k3, by rw [e1, e2]; exact k4, by rw [e4]; exact k5, fun dd d1' d2' => ?_⟩
    case refine_2 =>
      rw [e0] at d2' ⊢
      obtain ⟨g1, g2⟩ := k6 dd d1' d2'
      refine ⟨fun ii => ?_, g2⟩
      by_cases e : dd = kd + 1
      · subst e
        have : ja_rd φ (ja_cpy M (ks + 1) x3.toNat (kd + 1) x1.toNat x0.toNat) (kd + 1) ii ≤ 0 := by
          unfold ja_rd
          rw [jb_ppA d5 (by omega)]
          cases φ && !(ja_mut (kd + 1) ii)
          · show (if _ then 0 else 0) ≤ 0
            split <;> exact Nat.le_refl _
          · exact Nat.le_refl _
        omega
      · have : ja_rd φ (ja_cpy M (ks + 1) x3.toNat (kd + 1) x1.toNat x0.toNat) dd ii = ja_rd φ M dd ii := by
          unfold ja_rd
          rw [hM' dd ii e]
        rw [this]
        exact g1 ii
    unfold ja_cpy
    split
    · rename_i hq5
      rw [hq5.1]
      exact jb_numI' (jb_numI (k1 (ks + 1) _ s3) (jb_lngA s2 (Or.inl rfl))) (jb_lngA d2 (Or.inl rfl))
    · exact k1 dd jj hdd
  have hnf : nativeFrameWords "java/lang/System" "arraycopy" 5 ≤ 40 := by decide +kernel
  refine va_copyi hx hb (by rw [hml]; exact I.2.1.1.1.symm) hown (hts _ hlk) (hts _ jo_acN) (hts _ jo_acS) (hts _ jo_acI) hK I.1.1 I.1.2.1 I.1.2.2.1 ks kd 0 0 hats hatd rfl rfl rfl n3 n1 n0 (by rw [m3, m0]; omega) (by rw [m1, m0]; omega) (fun _ _ => rfl) (by omega) (by rw [jb_catsum]; omega) hd (fun H1 locs1 p1 p2 p3 => ?_)
  rw [m3, m1, m0] at p1 p2
  have hw := jb_set (G := G) (φ := φ) (ad := ad) (M := M) (M' := ja_cpy M (ks + 1) x3.toNat (kd + 1) x1.toNat x0.toNat) d3 d4 (by rw [e0]) (fun dd ii hdd _ => hM' dd ii hdd) hee
  rw [show kd + 1 - 1 = kd by omega] at hw
  rw [hw] at p1 p2
  have I' : jb_I G φ s (ja_maxL z) C0 S0 ad0 lim0 ad (ja_cpy M (ks + 1) x3.toNat (kd + 1) x1.toNat x0.toNat) H1 locs1 L ls := by
    obtain ⟨⟨-, -, -, ro⟩, I2, I3, I4, I5, I6⟩ := I
    exact ⟨⟨p1, p2, p3, ro.to hgr' (fun _ _ => rfl)⟩, I2, hok', by unfold jb_cl jb_sl; rw [e1, e2]; exact I4, I5, by rw [e0]; exact I6⟩
  have w := (hκ _ _ _ _ hk9).2 ad H1 locs1 ls I' hS
  have ec : jb_cl (ja_cpy M (ks + 1) x3.toNat (kd + 1) x1.toNat x0.toNat) = jb_cl M := by unfold jb_cl; rw [e1]
  have es : jb_sl (ja_cpy M (ks + 1) x3.toNat (kd + 1) x1.toNat x0.toNat) = jb_sl M := by unfold jb_sl; rw [e2]
  rw [hn, ec, es] at w
  exact w
end
section
/-! new cells -/
/-- t cells more, at the addresses nw -/
def jb_ad (ad nw : Nat → Nat) (n t : Nat) : Nat → Nat := fun k => if n < k ∧ k ≤ n + t then nw (k - n - 1) else ad k
theorem jb_ad_old {ad nw : Nat → Nat} {n t k : Nat} (h : k ≤ n ∨ n + t < k) : jb_ad ad nw n t k = ad k := if_neg (fun q => by omega)
theorem jb_ad_new {ad nw : Nat → Nat} {n t j : Nat} (h : j < t) : jb_ad ad nw n t (n + 1 + j) = nw j := by
  unfold jb_ad
  rw [if_pos (by omega), show n + 1 + j - n - 1 = j by omega]
theorem jg_old {M : ja_M} {n w c i : Nat} (h0 : c ≠ 0) (h : c ≤ (M 0 0).toNat ∨ (M 0 0).toNat + n < c) : ja_grow M n w c i = M c i := by
  unfold ja_grow
  rw [if_neg h0, if_neg (fun q => by omega)]
theorem jg_new {M : ja_M} {n w c i : Nat} (h : (M 0 0).toNat < c ∧ c ≤ (M 0 0).toNat + n) : ja_grow M n w c i = 0 := by
  unfold ja_grow
  rw [if_neg (by omega), if_pos h]
theorem jg_0 (M : ja_M) (n w : Nat) : ja_grow M n w 0 0 = M 0 0 + n := rfl
theorem jg_1 (M : ja_M) (n w : Nat) : ja_grow M n w 0 1 = M 0 1 + n := rfl
theorem jg_2 (M : ja_M) (n w : Nat) : ja_grow M n w 0 2 = M 0 2 + w := rfl
theorem jg_4 (M : ja_M) (n w : Nat) : ja_grow M n w 0 4 = M 0 4 := rfl
theorem jg_gr {M : ja_M} {n w : Nat} (h : (M 0 0).toNat + n < 173) : jb_gr M (ja_grow M n w) := by
  refine ⟨?_, ?_, ?_, jg_4 M n w, fun j => jg_old (by decide) (Or.inr (by simp only [ja_RO]; omega))⟩
  · rw [jg_0]; omega
  · rw [jg_1]; omega
  · rw [jg_2]; omega
theorem jk_ppN : ∀ c, c < 173 → ∀ i, i < 58 → ja_mut c i = false → ja_pp c i ≤ ja_N0 := by decide +kernel
theorem jg_ok {φ : Bool} {M : ja_M} {n w : Nat} (hM : jb_Mok φ M) (h : (M 0 0).toNat + n < 173) (hφ : φ = true → n = 1 ∧ (M 0 0).toNat = ja_N0) (h3 : ∀ c, (M 0 0).toNat < c → c ≤ (M 0 0).toNat + n → (ja_kd c).1 = 103 → c + (ja_kd c).2 ≤ (M 0 0).toNat + n) : jb_Mok φ (ja_grow M n w) := by
  obtain ⟨m1, m2, m3, m4, m5, m6⟩ := hM
  refine ⟨fun c i hc => ?_, ?_, ?_, ?_, ?_, fun c c1 c2 => ?_⟩
  · by_cases e : (M 0 0).toNat < c ∧ c ≤ (M 0 0).toNat + n
    · rw [jg_new e]
      unfold jb_num
      split
      · exact ⟨by decide, by decide⟩
      · exact ⟨by decide, by decide⟩
    · rw [jg_old (by omega) (by omega)]
      exact m1 c i hc
  · rw [jg_0]
    simp only [ja_N0]
    omega
  · intro q
    have := m3 q
    rw [jg_0]
    omega
  · rw [jg_1, jg_2]
    omega
  · rw [jg_4]
    exact m5
  · have e0 : (ja_grow M n w 0 0).toNat = (M 0 0).toNat + n := by rw [jg_0]; omega
    rw [e0] at c2 ⊢
    by_cases e : (M 0 0).toNat < c
    · refine ⟨fun i => ?_, h3 c e c2⟩
      unfold ja_rd
      rw [jg_new ⟨e, c2⟩]
      cases φ with
      | false => exact Nat.zero_le _
      | true =>
        obtain ⟨h4, h5⟩ := hφ rfl
        have hc : c = 172 := by simp only [ja_N0] at h5; omega
        have hp : ja_pp c i = 0 := by
          subst hc
          rfl
        rw [hp]
        cases hmu : ja_mut c i <;> exact Nat.zero_le _
    · obtain ⟨g1, g2⟩ := m6 c c1 (by omega)
      refine ⟨fun i => ?_, fun q => Nat.le_trans (g2 q) (by omega)⟩
      have : ja_rd φ (ja_grow M n w) c i = ja_rd φ M c i := by
        unfold ja_rd
        rw [jg_old (by omega) (Or.inl (by omega))]
      rw [this]
      exact Nat.le_trans (g1 i) (by omega)
/-- the world with the new cells behind it -/
theorem jg_ws {G : jb_G} {φ : Bool} {ad nw : Nat → Nat} {M : ja_M} {n w : Nat} (hM : jb_Mok φ M) : jb_ws G φ (jb_ad ad nw (M 0 0).toNat n) (ja_grow M n w) = jb_ws G φ ad M ++ (List.range n).map (fun j => (nw j, jb_e G φ (jb_ad ad nw (M 0 0).toNat n) (ja_grow M n w) ((M 0 0).toNat + 1 + j))) := by
  have h0 := hM.2.1.1
  have e0 : (ja_grow M n w 0 0).toNat = (M 0 0).toNat + n := by rw [jg_0]; omega
  unfold jb_ws
  rw [e0, List.range_add, List.map_append, List.map_map]
  congr 1
  · apply List.map_congr_left
    intro k hk
    have hk := List.mem_range.mp hk
    obtain ⟨g1, g2⟩ := hM.2.2.2.2.2 (k + 1) (by omega) (by omega)
    rw [jb_ad_old (Or.inl (by omega)), jb_e_congr (M := M) (M' := ja_grow M n w) (ad := ad) (fun i => jg_old (by omega) (Or.inl (by omega))) (fun i _ => jb_ad_old (Or.inl (g1 i))) (fun q i hi => jb_ad_old (Or.inl (by have := g2 q; omega)))]
  · apply List.map_congr_left
    intro j hj
    have hj := List.mem_range.mp hj
    show (jb_ad ad nw (M 0 0).toNat n ((M 0 0).toNat + j + 1), _) = _
    rw [show (M 0 0).toNat + j + 1 = (M 0 0).toNat + 1 + j by omega, jb_ad_new hj]
theorem jg_keep {φ : Bool} {M : ja_M} {ad nw : Nat → Nat} {n : Nat} (hM : jb_Mok φ M) (h : (M 0 0).toNat + n < 173) : ∀ k, k ≤ ja_lim φ M ∨ ja_RO ≤ k → jb_ad ad nw (M 0 0).toNat n k = ad k := by
  intro k hk
  have := jb_limle hM
  apply jb_ad_old
  simp only [ja_RO] at hk
  omega
theorem jg_I {G : jb_G} {φ : Bool} {s : State} {nL C0 S0 : Nat} {ad0 : Nat → Nat} {lim0 : Nat} {ad nw : Nat → Nat} {M : ja_M} {H H1 : Heap} {locs locs1 : List Loc} {L : ja_L} {ls : Array Slot} {n w : Nat} (I : jb_I G φ s nL C0 S0 ad0 lim0 ad M H locs L ls) (h : (M 0 0).toNat + n < 173) (hok : jb_Mok φ (ja_grow M n w)) (hL : ja_refsL φ M L = true)
    (p1 : va_P G.1 jm_cl (jb_ws G φ (jb_ad ad nw (M 0 0).toNat n) (ja_grow M n w)) H1) (p2 : va_D (jb_A G) (jb_ws G φ (jb_ad ad nw (M 0 0).toNat n) (ja_grow M n w))) (p3 : va_S (jb_A G) s.heap H1 locs1) : jb_I G φ s nL C0 S0 ad0 lim0 (jb_ad ad nw (M 0 0).toNat n) (ja_grow M n w) H1 locs1 L ls := by
  obtain ⟨⟨-, -, -, ro⟩, ⟨I2, I3, I4⟩, I5, ⟨I6, I7⟩, I8, I9⟩ := I
  have hk := jg_keep (ad := ad) (nw := nw) I5 h
  refine ⟨⟨p1, p2, p3, ro.to (jg_gr h) (fun k hk' => hk k (Or.inr hk'))⟩, ⟨by rw [jb_L_keep hk L 0 hL]; exact I2, I3, I4⟩, hok, ?_, fun k hk' => ?_, ?_⟩
  · unfold jb_cl jb_sl at *
    rw [jg_1, jg_2]
    omega
  · rw [← I8 k hk']
    apply jb_ad_old
    simp only [ja_RO] at hk'
    omega
  · rw [jg_0]
    omega
theorem jg_cl {M : ja_M} {n w : Nat} (h1 : 0 ≤ M 0 1) (h2 : 0 ≤ M 0 2) : jb_cl (ja_grow M n w) = jb_cl M + n ∧ jb_sl (ja_grow M n w) = jb_sl M + w := by
  unfold jb_cl jb_sl
  rw [jg_1, jg_2]
  omega
theorem jg_int (G : jb_G) {s : State} {cA : ClassId} {ty : FieldType} (hk : va_K G.1 jm_cl (jb_tys G) s) (hk2 : va_K G.1 jm_cl (jb_tys G ++ [(cA, ty)]) s) {t0 : Nat} {tA : ClassId} (ht : (jb_tys G)[t0]? = some (tA, ty)) (hno : ∀ C, ty ≠ .object C) : cA = tA := by
  have a1 := (hk.2 t0 _ ht).2
  have a2 := (hk2.2 4 (cA, ty) (by rfl)).2
  have e1 : s.vm.findClass ("[" ++ ty.toString) = some tA := by
    unfold va_RA at a1
    split at a1
    · rename_i C hC
      exact absurd hC (hno C)
    · exact a1
  have e2 : s.vm.findClass ("[" ++ ty.toString) = some cA := by
    unfold va_RA at a2
    split at a2
    · rename_i C hC
      exact absurd hC (hno C)
    · exact a2
  rw [e1] at e2
  exact (Option.some.inj e2).symm
theorem jk_dflt : ∀ k, k < 13 → ∀ j, j < jm_N k → ∀ M : ja_M, ∀ c, M c j = 0 → defaultValue (jm_ty k j) = jb_f false (fun _ => 0) M c j (ja_ft k j) := by
  intro k hk j hj M c h
  obtain ⟨f1, f2, -⟩ := jk_ft k hk j hj
  generalize ja_ft k j = t at f1 f2
  generalize jm_ty k j = ty at f1
  rcases t with _ | _ | _ | _ | t
  · cases ty <;> first | (cases f1; done) | (show Value.int 0 = Value.int (Int32.ofInt (M c j)); rw [h]; rfl)
  · cases ty <;> first | (cases f1; done) | (show Value.int 0 = Value.int (Int32.ofInt (M c j)); rw [h]; rfl)
  · cases ty <;> first | (cases f1; done) | (show Value.long 0 = Value.long (Int64.ofInt (M c j)); rw [h]; rfl)
  · have e : jb_f false (fun _ => 0) M c j 3 = .null := by
      show jb_v (fun _ => 0) (jr (ja_rd false M c j)) = _
      have : ja_rd false M c j = 0 := by
        unfold ja_rd
        rw [h]
        rfl
      rw [this]
      rfl
    cases ty <;> first | (cases f1; done) | (rw [e]; rfl)
  · omega
theorem jk_kd : ∀ c, c < 200 → ((ja_kd c).1 < 13 ∨ (100 ≤ (ja_kd c).1 ∧ (ja_kd c).1 ≤ 103)) → c < 173 ∨ 176 ≤ c := by decide +kernel
theorem jg_lt {φ : Bool} {M : ja_M} (hM : jb_Mok φ M) {k : Nat} (hk : (ja_kd ((M 0 0).toNat + 1)).1 = k) (h : k < 13 ∨ (100 ≤ k ∧ k ≤ 103)) : (M 0 0).toNat + 1 < 173 := by
  have h2 := hM.2.1
  simp only [ja_N0] at h2
  rcases jk_kd ((M 0 0).toNat + 1) (by omega) (by rw [hk]; exact h) with q | q <;> omega
theorem jg_new1 {φ : Bool} {M : ja_M} {kind n : Nat} {L : ja_L} {S : List ja_V} (h : ja_new1 φ M kind n L S = true) : ja_nx φ M = (M 0 0).toNat + 1 ∧ (ja_kd ((M 0 0).toNat + 1)).1 = kind ∧ (ja_kd ((M 0 0).toNat + 1)).2 = n ∧ n ≤ 5000 ∧ (φ = true → (M 0 0).toNat = ja_N0) ∧ ja_refsL φ M L = true ∧ ja_refsS φ M S = true := by
  obtain ⟨a1, h⟩ := jb_and h
  obtain ⟨a2, h⟩ := jb_and h
  obtain ⟨a3, h⟩ := jb_and h
  obtain ⟨a4, h⟩ := jb_and h
  obtain ⟨a5, a6⟩ := jb_and h
  have a1 := Nat.eq_of_beq_eq_true a1
  have a2 := Nat.eq_of_beq_eq_true a2
  have a3 := Nat.le_of_ble_eq_true a3
  have e : ja_nx φ M = (M 0 0).toNat + 1 := by
    unfold ja_nx
    cases φ with
    | false => rfl
    | true =>
      obtain ⟨b1, -⟩ := jb_and a4
      have b1 := Nat.eq_of_beq_eq_true b1
      show ja_N0 + 1 = _
      omega
  rw [e] at a1 a2
  refine ⟨e, a1, a2, a3, fun q => ?_, a5, a6⟩
  subst q
  exact Nat.eq_of_beq_eq_true (jb_and a4).1

set_option maxHeartbeats 4000000 in
theorem jw_new : jb_SH2 jh_new jc_new := by
  intro p l e R s m args below meth c Q G φ z d C0 S0 ad0 lim0 E a i L S M κ r F EO CP ck h hκ hR hlim ad H locs ls I hS
  obtain ⟨⟨hx, hb, hml, hown, hts⟩, ⟨hK, hA⟩, ⟨hfr, hlo⟩, hin, hao⟩ := F
  obtain ⟨ck, cs⟩ := jb_and ck
  obtain ⟨hd, hn⟩ := jc_d_of ck
  obtain ⟨c13, cs⟩ := jb_and cs
  have c13 : a.2.1 < 13 := Nat.blt_eq.mp c13
  obtain ⟨cN, cs⟩ := jb_and cs
  have cN := Nat.eq_of_beq_eq_true cN
  obtain ⟨q, hq, hq2⟩ := List.any_eq_true.mp cs
  obtain ⟨q1, hq2⟩ := jb_and hq2
  obtain ⟨q2, q3⟩ := jb_and hq2
  obtain ⟨g1, g2, g3⟩ := jc_ok q hq
  have g1 := jm_in g1 rfl
  have g2 := jm_in g2 rfl
  have g3 := jm_in g3 rfl
  rw [Nat.eq_of_beq_eq_true q1, Nat.eq_of_beq_eq_true q2, Nat.eq_of_beq_eq_true q3] at g1
  rw [Nat.eq_of_beq_eq_true q3] at g2 g3
  obtain ⟨hc0, hk9⟩ := jb_cond h
  obtain ⟨hφ, hc0⟩ := jb_and hc0
  have hφ : φ = false := by cases φ <;> first | rfl | cases hφ
  subst hφ
  obtain ⟨-, k1, k2, -, -, k5, k6⟩ := jg_new1 hc0
  have hlt := jg_lt I.2.2.1 k1 (Or.inl c13)
  have hMok := I.2.2.1
  obtain ⟨hgr, hW⟩ := hκ _ _ _ _ hk9
  obtain ⟨ec, es⟩ := jg_cl (M := M) (n := 1) (w := a.2.2.1) hMok.2.2.2.1.1 hMok.2.2.2.1.2
  have hcap : (jb_cl M - C0) + (1) ≤ R.cells ∧ (jb_sl M - S0) + (a.2.2.1) ≤ R.slots := by
    obtain ⟨b1, b2⟩ := CP
    obtain ⟨c1, c2⟩ := I.2.2.2.1
    have m3 := hgr.2.1
    have m4 := hgr.2.2.1
    have m5 : jb_cl (ja_grow M (1) (a.2.2.1)) ≤ jb_cl r.2 := by unfold jb_cl; omega
    have m6 : jb_sl (ja_grow M (1) (a.2.2.1)) ≤ jb_sl r.2 := by unfold jb_sl; omega
    omega
  have hceq : jb_cl (ja_grow M (1) (a.2.2.1)) - C0 = (jb_cl M - C0) + (1) ∧ jb_sl (ja_grow M (1) (a.2.2.1)) - S0 = (jb_sl M - S0) + (a.2.2.1) := by
    obtain ⟨c1, c2⟩ := I.2.2.2.1
    omega
  have hok : jb_Mok false (ja_grow M 1 a.2.2.1) := jg_ok hMok hlt (fun q => by cases q) (fun c x y z => by
    have e : c = (M 0 0).toNat + 1 := by omega
    rw [e, k1] at z
    omega)
  have hfs : ∀ (ad' : Nat → Nat) (j : Nat), j < jm_N a.2.1 → defaultValue (jm_ty a.2.1 j) = vp_V (jb_fs false ad' (ja_grow M 1 a.2.2.1) ((M 0 0).toNat + 1)) j := by
    intro ad' j hj
    have hz : ja_grow M 1 a.2.2.1 ((M 0 0).toNat + 1) j = 0 := jg_new (by omega)
    rw [jk_dflt a.2.1 c13 j hj (ja_grow M 1 a.2.2.1) ((M 0 0).toNat + 1) hz]
    unfold vp_V
    rw [List.getD_eq_getElem?_getD, jb_fs_get (by omega), k1]
    show jb_f false _ _ _ _ _ = jb_f false ad' _ _ _ _
    unfold jb_f
    split
    · rfl
    · rfl
    · rfl
    · unfold ja_rd
      rw [hz]
      rfl
  have k2 : (ja_kd ((M 0 0).toNat + 1)).2 = jm_N a.2.1 := by omega
  refine va_new (C := jm_cn a.2.1) (T := jm_T a.2.1) (N := jm_N a.2.1) (ci := a.2.1) (fs := jb_fs false (fun _ => 0) (ja_grow M 1 a.2.2.1) ((M 0 0).toNat + 1)) hx hb hts (jk_in _ c13) (jm_ty a.2.1) (jk_ty _ c13) hown (hts _ g1) (hts _ g2) (hts _ g3) hK I.1.1 I.1.2.1 I.1.2.2.1 hA (jk_cl _ c13) (hfs _) hcap.1 (by rw [← cN]; exact hcap.2) hd (fun q H1 p1 p2 p3 => ?_)
  have hfe : jb_fs false (jb_ad ad (fun _ => q) (M 0 0).toNat 1) (ja_grow M 1 a.2.2.1) ((M 0 0).toNat + 1) = jb_fs false (fun _ => 0) (ja_grow M 1 a.2.2.1) ((M 0 0).toNat + 1) := by
    unfold jb_fs
    apply List.map_congr_left
    intro j _
    have hz : ja_grow M 1 a.2.2.1 ((M 0 0).toNat + 1) j = 0 := jg_new (by omega)
    unfold jb_f
    split
    · rfl
    · rfl
    · rfl
    · unfold ja_rd
      rw [hz]
      rfl
  have hws : jb_ws G false (jb_ad ad (fun _ => q) (M 0 0).toNat 1) (ja_grow M 1 a.2.2.1) = jb_ws G false ad M ++ [(q, .inr (a.2.1, jb_fs false (fun _ => 0) (ja_grow M 1 a.2.2.1) ((M 0 0).toNat + 1)))] := by
    rw [jg_ws hMok]
    show _ ++ [(q, jb_e G false _ _ ((M 0 0).toNat + 1 + 0))] = _
    rw [Nat.add_zero, jb_eO k1 c13, hfe]
  rw [← hws] at p1 p2
  have I' := jg_I I hlt hok k5 p1 p2 p3
  have w := hW (jb_ad ad (fun _ => q) (M 0 0).toNat 1) H1 locs ls I' (List.forall_mem_cons.mpr ⟨trivial, hS⟩)
  have ev : jb_v (jb_ad ad (fun _ => q) (M 0 0).toNat 1) (jr ((M 0 0).toNat + 1)) = .ref q := by
    show Value.ref (jb_ad ad (fun _ => q) (M 0 0).toNat 1 ((M 0 0).toNat + 1 + 0)) = _
    rw [jb_ad_new (by omega)]
  rw [hn, List.map_cons, ev, jb_S_keep (jg_keep hMok hlt) S k6, hceq.1, hceq.2, cN] at w
  exact w

set_option maxHeartbeats 4000000 in
theorem jw_newa : jb_SH2 jh_newa jc_newa := by
  intro p l e R s m args below meth c Q G φ z d C0 S0 ad0 lim0 E a i L S M κ r F EO CP ck h hκ hR hlim ad H locs ls I hS
  obtain ⟨⟨hx, hb, hml, hown, hts⟩, ⟨hK, hA⟩, ⟨hfr, hlo⟩, hin, hao⟩ := F
  rcases S with _ | ⟨x0 | x0 | x0, S⟩ <;> first | (cases h; done) | skip
  obtain ⟨o0, hS1⟩ := List.forall_mem_cons.mp hS
  replace hS := hS1
  clear hS1
  obtain ⟨hc0, hk9⟩ := jb_cond h
  obtain ⟨h00, hc0⟩ := jb_and hc0
  have h00 := of_decide_eq_true h00
  obtain ⟨k0, k1, k2, k3, k4, k5, k6⟩ := jg_new1 hc0
  have hkind : a.2.1 = 100 ∨ a.2.1 = 101 ∨ a.2.1 = 102 := by
    rcases jb_or ck with q | q
    · exact Or.inl (Nat.eq_of_beq_eq_true (jb_and q).1)
    · rcases jb_or q with q | q
      · exact Or.inr (Or.inl (Nat.eq_of_beq_eq_true (jb_and q).1))
      · exact Or.inr (Or.inr (Nat.eq_of_beq_eq_true (jb_and q).1))
  have hlt := jg_lt I.2.2.1 k1 (Or.inr (by omega))
  have hx0 : ¬ Int32.ofInt x0 < 0 ∧ (Int32.ofInt x0).toNatClampNeg = x0.toNat := by
    obtain ⟨k, rfl⟩ : ∃ k : Nat, x0 = (k : Int) := ⟨x0.toNat, by omega⟩
    rw [Int.toNat_natCast] at k3 ⊢
    rw [jn_nat]
    exact ⟨nI_pos (by omega), nI_clamp (by omega)⟩
  have hMok := I.2.2.1
  obtain ⟨hgr, hW⟩ := hκ _ _ _ _ hk9
  obtain ⟨ec, es⟩ := jg_cl (M := M) (n := 1) (w := x0.toNat) hMok.2.2.2.1.1 hMok.2.2.2.1.2
  have hcap : (jb_cl M - C0) + (1) ≤ R.cells ∧ (jb_sl M - S0) + (x0.toNat) ≤ R.slots := by
    obtain ⟨b1, b2⟩ := CP
    obtain ⟨c1, c2⟩ := I.2.2.2.1
    have m3 := hgr.2.1
    have m4 := hgr.2.2.1
    have m5 : jb_cl (ja_grow M (1) (x0.toNat)) ≤ jb_cl r.2 := by unfold jb_cl; omega
    have m6 : jb_sl (ja_grow M (1) (x0.toNat)) ≤ jb_sl r.2 := by unfold jb_sl; omega
    omega
  have hceq : jb_cl (ja_grow M (1) (x0.toNat)) - C0 = (jb_cl M - C0) + (1) ∧ jb_sl (ja_grow M (1) (x0.toNat)) - S0 = (jb_sl M - S0) + (x0.toNat) := by
    obtain ⟨c1, c2⟩ := I.2.2.2.1
    omega
  rcases jb_or ck with ck | ck
  · obtain ⟨ckk, ck⟩ := jb_and ck
    have ckk := Nat.eq_of_beq_eq_true ckk
    obtain ⟨hd, hn⟩ := jc_d_of ck
    rw [ckk] at k1
    have hok : jb_Mok φ (ja_grow M 1 x0.toNat) := jg_ok hMok hlt (fun q => ⟨rfl, k4 q⟩) (fun c x y z => by
      have e : c = (M 0 0).toNat + 1 := by omega
      rw [e, k1] at z
      omega)
    refine va_newa (atype := .int) (ty := .int) (a0 := (x0.toNat, .inl (fun _ => 0))) hx hb (hts _ jo_arrI) rfl hK I.1.1 I.1.2.1 I.1.2.2.1 hA (fun cA => rfl) hx0.1 hx0.2 (by show x0.toNat * 4 ≤ 536870912; omega) hcap.1 hcap.2 hd (fun q cA H1 hK2 p1 p2 p3 => ?_)
    have hcA := jg_int G hK hK2 (t0 := 0) rfl (fun C hC => by cases hC)
    subst hcA
    have hws : jb_ws G φ (jb_ad ad (fun _ => q) (M 0 0).toNat 1) (ja_grow M 1 x0.toNat) = jb_ws G φ ad M ++ [(q, .inl (G.2.1.1, (x0.toNat, .inl (fun _ => 0))))] := by
      rw [jg_ws hMok]
      show _ ++ [(q, jb_e G φ _ _ ((M 0 0).toNat + 1 + 0))] = _
      rw [Nat.add_zero, jb_e0 k1, k2]
      have hz : (fun i => Int32.ofInt (ja_grow M 1 x0.toNat ((M 0 0).toNat + 1) i)) = fun _ => 0 := by
        funext i
        rw [jg_new (by omega)]
        rfl
      rw [hz]
    rw [← hws] at p1 p2
    have I' := jg_I I hlt hok k5 p1 p2 p3
    have w := hW (jb_ad ad (fun _ => q) (M 0 0).toNat 1) H1 locs ls I' (List.forall_mem_cons.mpr ⟨trivial, hS⟩)
    have ev : jb_v (jb_ad ad (fun _ => q) (M 0 0).toNat 1) (jr (ja_nx φ M)) = .ref q := by
      rw [k0]
      show Value.ref (jb_ad ad (fun _ => q) (M 0 0).toNat 1 ((M 0 0).toNat + 1 + 0)) = _
      rw [jb_ad_new (by omega)]
    rw [hn, List.map_cons, ev, jb_S_keep (jg_keep hMok hlt) S k6, hceq.1, hceq.2] at w
    exact w
  rcases jb_or ck with ck | ck
  · obtain ⟨ckk, ck⟩ := jb_and ck
    have ckk := Nat.eq_of_beq_eq_true ckk
    obtain ⟨hd, hn⟩ := jc_d_of ck
    rw [ckk] at k1
    have hok : jb_Mok φ (ja_grow M 1 x0.toNat) := jg_ok hMok hlt (fun q => ⟨rfl, k4 q⟩) (fun c x y z => by
      have e : c = (M 0 0).toNat + 1 := by omega
      rw [e, k1] at z
      omega)
    refine va_newa (atype := .boolean) (ty := .boolean) (a0 := (x0.toNat, .inl (fun _ => 0))) hx hb (hts _ jo_arrZ) rfl hK I.1.1 I.1.2.1 I.1.2.2.1 hA (fun cA => rfl) hx0.1 hx0.2 (by show x0.toNat * 1 ≤ 536870912; omega) hcap.1 hcap.2 hd (fun q cA H1 hK2 p1 p2 p3 => ?_)
    have hcA := jg_int G hK hK2 (t0 := 1) rfl (fun C hC => by cases hC)
    subst hcA
    have hws : jb_ws G φ (jb_ad ad (fun _ => q) (M 0 0).toNat 1) (ja_grow M 1 x0.toNat) = jb_ws G φ ad M ++ [(q, .inl (G.2.1.2.1, (x0.toNat, .inl (fun _ => 0))))] := by
      rw [jg_ws hMok]
      show _ ++ [(q, jb_e G φ _ _ ((M 0 0).toNat + 1 + 0))] = _
      rw [Nat.add_zero, jb_e1 k1, k2]
      have hz : (fun i => Int32.ofInt (ja_grow M 1 x0.toNat ((M 0 0).toNat + 1) i)) = fun _ => 0 := by
        funext i
        rw [jg_new (by omega)]
        rfl
      rw [hz]
    rw [← hws] at p1 p2
    have I' := jg_I I hlt hok k5 p1 p2 p3
    have w := hW (jb_ad ad (fun _ => q) (M 0 0).toNat 1) H1 locs ls I' (List.forall_mem_cons.mpr ⟨trivial, hS⟩)
    have ev : jb_v (jb_ad ad (fun _ => q) (M 0 0).toNat 1) (jr (ja_nx φ M)) = .ref q := by
      rw [k0]
      show Value.ref (jb_ad ad (fun _ => q) (M 0 0).toNat 1 ((M 0 0).toNat + 1 + 0)) = _
      rw [jb_ad_new (by omega)]
    rw [hn, List.map_cons, ev, jb_S_keep (jg_keep hMok hlt) S k6, hceq.1, hceq.2] at w
    exact w
  · obtain ⟨ckk, ck⟩ := jb_and ck
    have ckk := Nat.eq_of_beq_eq_true ckk
    obtain ⟨hd, hn⟩ := jc_d_of ck
    rw [ckk] at k1
    have hok : jb_Mok φ (ja_grow M 1 x0.toNat) := jg_ok hMok hlt (fun q => ⟨rfl, k4 q⟩) (fun c x y z => by
      have e : c = (M 0 0).toNat + 1 := by omega
      rw [e, k1] at z
      omega)
    refine va_newa (atype := .long) (ty := .long) (a0 := (x0.toNat, .inr (.inl (fun _ => 0)))) hx hb (hts _ jo_arrJ) rfl hK I.1.1 I.1.2.1 I.1.2.2.1 hA (fun cA => rfl) hx0.1 hx0.2 (by show x0.toNat * 8 ≤ 536870912; omega) hcap.1 hcap.2 hd (fun q cA H1 hK2 p1 p2 p3 => ?_)
    have hcA := jg_int G hK hK2 (t0 := 2) rfl (fun C hC => by cases hC)
    subst hcA
    have hws : jb_ws G φ (jb_ad ad (fun _ => q) (M 0 0).toNat 1) (ja_grow M 1 x0.toNat) = jb_ws G φ ad M ++ [(q, .inl (G.2.1.2.2.1, (x0.toNat, .inr (.inl (fun _ => 0)))))] := by
      rw [jg_ws hMok]
      show _ ++ [(q, jb_e G φ _ _ ((M 0 0).toNat + 1 + 0))] = _
      rw [Nat.add_zero, jb_e2 k1, k2]
      have hz : (fun i => Int64.ofInt (ja_grow M 1 x0.toNat ((M 0 0).toNat + 1) i)) = fun _ => 0 := by
        funext i
        rw [jg_new (by omega)]
        rfl
      rw [hz]
    rw [← hws] at p1 p2
    have I' := jg_I I hlt hok k5 p1 p2 p3
    have w := hW (jb_ad ad (fun _ => q) (M 0 0).toNat 1) H1 locs ls I' (List.forall_mem_cons.mpr ⟨trivial, hS⟩)
    have ev : jb_v (jb_ad ad (fun _ => q) (M 0 0).toNat 1) (jr (ja_nx φ M)) = .ref q := by
      rw [k0]
      show Value.ref (jb_ad ad (fun _ => q) (M 0 0).toNat 1 ((M 0 0).toNat + 1 + 0)) = _
      rw [jb_ad_new (by omega)]
    rw [hn, List.map_cons, ev, jb_S_keep (jg_keep hMok hlt) S k6, hceq.1, hceq.2] at w
    exact w

theorem jg_rows {c k : Nat} : ∀ n, ja_rowsok c k n = true → ∀ j, j < n → (ja_kd (c + 1 + j)).1 = 100 ∧ (ja_kd (c + 1 + j)).2 = k
  | 0, _, j, hj => by omega
  | n + 1, h, j, hj => by
    obtain ⟨h1, h⟩ := jb_and h
    obtain ⟨h2, h⟩ := jb_and h
    have h1 := Nat.eq_of_beq_eq_true h1
    have h2 := Nat.eq_of_beq_eq_true h2
    by_cases e : j = n
    · subst e
      rw [show c + 1 + j = c + j + 1 by omega]
      exact ⟨h1, h2⟩
    · exact jg_rows n h j (by omega)
set_option maxHeartbeats 4000000 in
theorem jw_newm : jb_SH2 jh_newm jc_newm := by
  intro p l e R s m args below meth c Q G φ z d C0 S0 ad0 lim0 E a i L S M κ r F EO CP ck h hκ hR hlim ad H locs ls I hS
  obtain ⟨⟨hx, hb, hml, hown, hts⟩, ⟨hK, hA⟩, ⟨hfr, hlo⟩, hin, hao⟩ := F
  rcases S with _ | ⟨x0 | x0 | x0, _ | ⟨x1 | x1 | x1, S⟩⟩ <;> first | (cases h; done) | skip
  obtain ⟨o0, hS1⟩ := List.forall_mem_cons.mp hS
  replace hS := (List.forall_mem_cons.mp hS1).2
  clear hS1
  obtain ⟨ck, cs⟩ := jb_and ck
  obtain ⟨hd, hn⟩ := jc_d_of ck
  obtain ⟨q, hq, hq2⟩ := List.any_eq_true.mp cs
  obtain ⟨q1, q2⟩ := jb_and hq2
  have hlk := jm_in (jc2_ok q hq) rfl
  rw [Nat.eq_of_beq_eq_true q1, Nat.eq_of_beq_eq_true q2] at hlk
  obtain ⟨hc0, hk9⟩ := jb_cond h
  obtain ⟨hφ, hc0⟩ := jb_and hc0
  have hφ : φ = false := by cases φ <;> first | rfl | cases hφ
  subst hφ
  obtain ⟨h1, hc0⟩ := jb_and hc0
  have h1 := of_decide_eq_true h1
  obtain ⟨h0, hc0⟩ := jb_and hc0
  have h0 := of_decide_eq_true h0
  obtain ⟨h5, hc0⟩ := jb_and hc0
  have h5 := of_decide_eq_true h5
  obtain ⟨hc0, hrow⟩ := jb_and hc0
  obtain ⟨-, k1, k2, k3, -, k5, k6⟩ := jg_new1 hc0
  have hrow := jg_rows _ hrow
  have hlt1 := jg_lt I.2.2.1 k1 (Or.inr ⟨by decide, by decide⟩)
  have hlt : (M 0 0).toNat + (1 + x1.toNat) < 173 := by
    have := jk_103 _ hlt1 k1
    rw [k2] at this
    omega
  have hcl : ∀ x : Int, 0 ≤ x → x ≤ 5000 → ¬ Int32.ofInt x < 0 ∧ (Int32.ofInt x).toNatClampNeg = x.toNat := by
    intro x h0 h1
    obtain ⟨k, rfl⟩ : ∃ k : Nat, x = (k : Int) := ⟨x.toNat, by omega⟩
    rw [jn_nat, Int.toNat_natCast]
    exact ⟨nI_pos (by omega), nI_clamp (by omega)⟩
  obtain ⟨n0, m0⟩ := hcl x0 h0 (by omega)
  obtain ⟨n1, m1⟩ := hcl x1 h1 (by omega)
  have hMok := I.2.2.1
  obtain ⟨hgr, hW⟩ := hκ _ _ _ _ hk9
  obtain ⟨ec, es⟩ := jg_cl (M := M) (n := 1 + x1.toNat) (w := x1.toNat + x1.toNat * x0.toNat) hMok.2.2.2.1.1 hMok.2.2.2.1.2
  have hcap : (jb_cl M - C0) + (1 + x1.toNat) ≤ R.cells ∧ (jb_sl M - S0) + (x1.toNat + x1.toNat * x0.toNat) ≤ R.slots := by
    obtain ⟨b1, b2⟩ := CP
    obtain ⟨c1, c2⟩ := I.2.2.2.1
    have m3 := hgr.2.1
    have m4 := hgr.2.2.1
    have m5 : jb_cl (ja_grow M (1 + x1.toNat) (x1.toNat + x1.toNat * x0.toNat)) ≤ jb_cl r.2 := by unfold jb_cl; omega
    have m6 : jb_sl (ja_grow M (1 + x1.toNat) (x1.toNat + x1.toNat * x0.toNat)) ≤ jb_sl r.2 := by unfold jb_sl; omega
    omega
  have hceq : jb_cl (ja_grow M (1 + x1.toNat) (x1.toNat + x1.toNat * x0.toNat)) - C0 = (jb_cl M - C0) + (1 + x1.toNat) ∧ jb_sl (ja_grow M (1 + x1.toNat) (x1.toNat + x1.toNat * x0.toNat)) - S0 = (jb_sl M - S0) + (x1.toNat + x1.toNat * x0.toNat) := by
    obtain ⟨c1, c2⟩ := I.2.2.2.1
    omega
  have hok : jb_Mok false (ja_grow M (1 + x1.toNat) (x1.toNat + x1.toNat * x0.toNat)) := jg_ok hMok hlt (fun q => by cases q) (fun c x y z => by
    by_cases e : c = (M 0 0).toNat + 1
    · rw [e, k2]
      omega
    · have := (hrow (c - ((M 0 0).toNat + 1) - 1) (by omega)).1
      rw [show (M 0 0).toNat + 1 + 1 + (c - ((M 0 0).toNat + 1) - 1) = c by omega] at this
      omega)
  have hcy : s.vm.findClass (FieldType.array .int).toString = some G.2.1.1 := (hK.2 0 (G.2.1.1, .int) rfl).2
  have hPX : va_P G.1 jm_cl (jb_ws G false ad M ++ va_pl [] (fun _ => .inr (0, []))) H := by
    rw [show va_pl [] (fun _ => (.inr (0, []) : va_E)) = [] from rfl, List.append_nil]
    exact I.1.1
  have hDX : va_D (jb_A G) (jb_ws G false ad M ++ va_pl [] (fun _ => .inr (0, []))) := by
    rw [show va_pl [] (fun _ => (.inr (0, []) : va_E)) = [] from rfl, List.append_nil]
    exact I.1.2.1
  have hslots : jb_sl M - S0 + (x1.toNat + x1.toNat * x0.toNat) ≤ R.slots := hcap.2
  have hx5 : x1.toNat ≤ 5000 := k3
  refine va_mna (z := (x0.toNat, .inl (fun _ => 0))) hx hb hown (hts _ hlk) hao.1 (hts _ jo_arrI) hcy hK hPX hDX I.1.2.2.1 hA n1 n0 m1 m0 (by omega) (by show x0.toNat * 4 ≤ 536870912; omega) (by omega) rfl rfl hcap.1 hslots (fun c => arrV_new c x0.toNat (.int 0)) hd (fun q rr cA H1 hinj hno hK2 p1 p2 p3 => ?_)
  have hcA := jg_int G hK hK2 (t0 := 3) rfl (fun C hC => by cases hC)
  subst hcA
  have hws : jb_ws G false (jb_ad ad (fun j => if j = 0 then q else rr (j - 1)) (M 0 0).toNat (1 + x1.toNat)) (ja_grow M (1 + x1.toNat) (x1.toNat + x1.toNat * x0.toNat)) = (jb_ws G false ad M ++ [(q, .inl (G.2.1.2.2.2, x1.toNat, .inr (.inr (.inr (.inr (fun i => if i < x1.toNat then some (rr i) else none))))))]) ++ va_pl ([] ++ (List.range x1.toNat).map rr) (vr_up (fun _ => .inr (0, [])) ((List.range x1.toNat).map rr) (.inl (G.2.1.1, x0.toNat, .inl (fun _ => 0)))) := by
    rw [jg_ws hMok, List.append_assoc]
    congr 1
    rw [Nat.add_comm 1 x1.toNat, List.range_succ_eq_map, List.map_cons, List.map_map]
    show (q, _) :: _ = (q, _) :: _
    congr 1
    · rw [Nat.add_zero, jb_e3 k1, k2]
      have : (fun i => if i < x1.toNat then some (jb_ad ad (fun j => if j = 0 then q else rr (j - 1)) (M 0 0).toNat (x1.toNat + 1) ((M 0 0).toNat + 1 + 1 + i)) else none) = fun i => if i < x1.toNat then some (rr i) else none := by
        funext i
        by_cases hi : i < x1.toNat
        · rw [if_pos hi, if_pos hi, show (M 0 0).toNat + 1 + 1 + i = (M 0 0).toNat + 1 + (i + 1) by omega, jb_ad_new (by omega), if_neg (by omega)]
          rfl
        · rw [if_neg hi, if_neg hi]
      rw [this]
    · unfold va_pl
      rw [List.nil_append, List.map_map]
      apply List.map_congr_left
      intro j hj
      have hj := List.mem_range.mp hj
      show ((if j + 1 = 0 then q else rr (j + 1 - 1)), jb_e G false _ _ ((M 0 0).toNat + 1 + (j + 1))) = (rr j, vr_up _ _ _ (rr j))
      rw [if_neg (by omega), vr_up_in (List.mem_map.mpr ⟨j, List.mem_range.mpr hj, rfl⟩), show (M 0 0).toNat + 1 + (j + 1) = (M 0 0).toNat + 1 + 1 + j by omega, jb_e0 (hrow j hj).1, (hrow j hj).2]
      have hz : (fun i => Int32.ofInt (ja_grow M (x1.toNat + 1) (x1.toNat + x1.toNat * x0.toNat) ((M 0 0).toNat + 1 + 1 + j) i)) = fun _ => 0 := by
        funext i
        rw [jg_new (by omega)]
        rfl
      rw [hz]
      rfl
  rw [← hws] at p1 p2
  have I' := jg_I I hlt hok k5 p1 p2 p3
  have w := hW _ H1 locs ls I' (List.forall_mem_cons.mpr ⟨trivial, hS⟩)
  have ev : jb_v (jb_ad ad (fun j => if j = 0 then q else rr (j - 1)) (M 0 0).toNat (1 + x1.toNat)) (jr ((M 0 0).toNat + 1)) = .ref q := by
    show Value.ref (jb_ad ad (fun j => if j = 0 then q else rr (j - 1)) (M 0 0).toNat (1 + x1.toNat) ((M 0 0).toNat + 1 + 0)) = _
    rw [jb_ad_new (by omega)]
    rfl
  rw [hn, List.map_cons, ev, jb_S_keep (jg_keep hMok hlt) S k6, hceq.1, hceq.2, ← Nat.add_assoc, ← Nat.add_assoc] at w
  exact w
end
section
/-! THE WHOLE METHOD: the small machine's answer is the real one's -/
def jp_T (M : ja_M) (g : ja_K → Option ja_R) : Prop := (∃ o, (∀ κ, g κ = o) ∧ ∀ r, o = some r → jb_gr M r.2) ∨ (∃ i L S M', (∀ κ, g κ = κ i L S M') ∧ jb_gr M M')
theorem jp_To {M : ja_M} (o : Option ja_R) (h : ∀ r, o = some r → jb_gr M r.2) : jp_T M (fun _ => o) := Or.inl ⟨o, fun _ => rfl, h⟩
theorem jp_Tn {M : ja_M} : jp_T M (fun _ => none) := Or.inl ⟨none, fun _ => rfl, fun _ h => by cases h⟩
theorem jp_Tk {M : ja_M} (i : Nat) (L : ja_L) (S : List ja_V) (M' : ja_M) (h : jb_gr M M') : jp_T M (fun κ => κ i L S M') := Or.inr ⟨i, L, S, M', fun _ => rfl, h⟩
theorem jp_Ti {M : ja_M} {p : Prop} [h : Decidable p] {f g : ja_K → Option ja_R} (hf : p → jp_T M f) (hg : ¬ p → jp_T M g) : jp_T M (fun κ => if p then f κ else g κ) := by
  cases h with
  | isTrue h => simpa only [h, if_true] using hf h
  | isFalse h => simpa only [h, if_false] using hg h
theorem jp_Tc {M : ja_M} (b : Bool) {f g : ja_K → Option ja_R} (hf : b = true → jp_T M f) (hg : b = false → jp_T M g) : jp_T M (fun κ => cond b (f κ) (g κ)) := by
  cases b
  · exact hg rfl
  · exact hf rfl
theorem jp_Tcmp {M : ja_M} (a : Nat) (x y : Int) {f g : ja_K → Option ja_R} (hf : jp_T M f) (hg : jp_T M g) : jp_T M (fun κ => ja_cmp a x y (f κ) (g κ)) := by
  rcases a with _ | _ | _ | _ | _ | a
  · exact jp_Ti (fun _ => hf) (fun _ => hg)
  · exact jp_Ti (fun _ => hg) (fun _ => hf)
  · exact jp_Ti (fun _ => hf) (fun _ => hg)
  · exact jp_Ti (fun _ => hg) (fun _ => hf)
  · exact jp_Ti (fun _ => hf) (fun _ => hg)
  · exact jp_Ti (fun _ => hg) (fun _ => hf)
theorem jp_Tsw {M : ja_M} (x : Int) (L : ja_L) (S : List ja_V) (n : Nat) : ∀ ts : List (Int × Nat), jp_T M (fun κ => ja_sw x (fun t => κ t L S M) n ts)
  | [] => jp_Tk n L S M (jb_gr.rf M)
  | (_, t) :: r => jp_Ti (fun _ => jp_Tk t L S M (jb_gr.rf M)) (fun _ => jp_Tsw x L S n r)
theorem jp_Tbk {M : ja_M} (b : Nat) (o : Option ja_R) (i : Nat) (L : ja_L) (S : List ja_V) (h : ∀ r, o = some r → jb_gr M r.2) : jp_T M (fun κ => ja_back b o i L S κ) := by
  rcases b with _ | _ | _ | b <;> rcases o with _ | ⟨_ | x | x | x, M'⟩ <;> first | exact jp_Tn | exact jp_Tk _ _ _ _ (h _ rfl)
theorem jp_Tfc {M : ja_M} (L : ja_L) (i : Nat) (S : List ja_V) : jp_T M (fun κ => ja_fc L (fun L => κ i L S M)) := Or.inr ⟨i, L, S, M, fun _ => ja_fc_eq _ _, jb_gr.rf M⟩
/-- a cell that is written is none of the counters and not the script -/
theorem jp_okc {φ : Bool} {M : ja_M} {c : Nat} (h : ja_okc φ M c = true) (hk : (ja_kd c).1 ≠ 111) : c ≠ 0 ∧ c ≠ ja_RO + 2 := by
  refine ⟨fun q => ?_, fun q => ?_⟩
  · subst q
    unfold ja_okc at h
    cases φ <;> simp at h
  · subst q
    exact hk rfl
theorem jp_up {M : ja_M} {c i : Nat} {v : Int} (h : c ≠ 0 ∧ c ≠ ja_RO + 2) : jb_gr M (ja_up M c i v) := by
  refine ⟨?_, ?_, ?_, ?_, fun j => ?_⟩
  · rw [jb_up_ne (Ne.symm h.1)]; exact Int.le_refl _
  · rw [jb_up_ne (Ne.symm h.1)]; exact Int.le_refl _
  · rw [jb_up_ne (Ne.symm h.1)]; exact Int.le_refl _
  · rw [jb_up_ne (Ne.symm h.1)]
  · rw [jb_up_ne (Ne.symm h.2)]
theorem jp_grow {M : ja_M} {n w : Nat} (h : (M 0 0).toNat + n < 175) : jb_gr M (ja_grow M n w) := by
  refine ⟨?_, ?_, ?_, jg_4 M n w, fun j => jg_old (by decide) (Or.inr (by simp only [ja_RO]; omega))⟩
  · rw [jg_0]; omega
  · rw [jg_1]; omega
  · rw [jg_2]; omega
theorem jp_lt {M : ja_M} (h : (ja_kd ((M 0 0).toNat + 1)).1 ≠ 0 ∨ (ja_kd ((M 0 0).toNat + 1)).2 ≠ 0) (h1 : (ja_kd ((M 0 0).toNat + 1)).1 ≠ 110) (h2 : (ja_kd ((M 0 0).toNat + 1)).1 ≠ 111) : (M 0 0).toNat + 1 < 173 := by
  rcases Nat.lt_or_ge ((M 0 0).toNat + 1) 176 with q | q
  · rcases Nat.lt_or_ge ((M 0 0).toNat + 1) 173 with q2 | q2
    · exact q2
    · have : (M 0 0).toNat + 1 = 173 ∨ (M 0 0).toNat + 1 = 174 ∨ (M 0 0).toNat + 1 = 175 := by omega
      rcases this with e | e | e <;> rw [e] at h1 h2 <;> first | exact absurd rfl h1 | exact absurd rfl h2
  · rw [jk_out _ q] at h
    rcases h with h | h <;> exact absurd rfl h
theorem jp_cpy {M : ja_M} {s sp d dp n : Nat} (h : d ≠ 0 ∧ d ≠ ja_RO + 2) : jb_gr M (ja_cpy M s sp d dp n) := by
  have hM : ∀ c i, c ≠ d → ja_cpy M s sp d dp n c i = M c i := fun c i hne => if_neg (fun q => hne q.1)
  refine ⟨?_, ?_, ?_, ?_, fun j => ?_⟩
  · rw [hM _ _ (Ne.symm h.1)]; exact Int.le_refl _
  · rw [hM _ _ (Ne.symm h.1)]; exact Int.le_refl _
  · rw [hM _ _ (Ne.symm h.1)]; exact Int.le_refl _
  · rw [hM _ _ (Ne.symm h.1)]
  · rw [hM _ _ (Ne.symm h.2)]
theorem jp_thr {M : ja_M} : jb_gr M (ja_up (ja_up M 0 1 (M 0 1 + 1)) 0 2 (M 0 2 + 6)) := by
  refine ⟨?_, ?_, ?_, ?_, fun j => ?_⟩
  · rw [jb_up_nej (by decide), jb_up_nej (by decide)]; exact Int.le_refl _
  · rw [jb_up_nej (by decide), jb_up_eq]; omega
  · rw [jb_up_eq]; omega
  · rw [jb_up_nej (by decide), jb_up_nej (by decide)]
  · rw [jb_up_ne (by decide), jb_up_ne (by decide)]
theorem jp_load (φ : Bool) (E : ja_E) (hE : ∀ y as M r, E y as M = some r → jb_gr M r.2) (a : ja_I) (i : Nat) (L : ja_L) (S : List ja_V) (M : ja_M) : jp_T M (jh_load φ E a i L S M) := by
  show jp_T M (fun κ => _)
  unfold jh_load
  generalize L[a.2.1]? = o
  rcases o with _ | _ | v
  all_goals first | exact jp_Tn | exact jp_Tc _ (fun _ => jp_Tk _ _ _ _ (jb_gr.rf M)) (fun _ => jp_Tn)
theorem jp_ipush (φ : Bool) (E : ja_E) (hE : ∀ y as M r, E y as M = some r → jb_gr M r.2) (a : ja_I) (i : Nat) (L : ja_L) (S : List ja_V) (M : ja_M) : jp_T M (jh_ipush φ E a i L S M) := by
  exact jp_Tk _ _ _ _ (jb_gr.rf M)
theorem jp_lpush (φ : Bool) (E : ja_E) (hE : ∀ y as M r, E y as M = some r → jb_gr M r.2) (a : ja_I) (i : Nat) (L : ja_L) (S : List ja_V) (M : ja_M) : jp_T M (jh_lpush φ E a i L S M) := by
  exact jp_Tk _ _ _ _ (jb_gr.rf M)
theorem jp_st1 (φ : Bool) (E : ja_E) (hE : ∀ y as M r, E y as M = some r → jb_gr M r.2) (a : ja_I) (i : Nat) (L : ja_L) (S : List ja_V) (M : ja_M) : jp_T M (jh_st1 φ E a i L S M) := by
  rcases S with _ | ⟨x | x | x, S⟩
  all_goals first | exact jp_Tn | exact jp_Tc _ (fun _ => jp_Tfc _ _ _) (fun _ => jp_Tn)
theorem jp_st2 (φ : Bool) (E : ja_E) (hE : ∀ y as M r, E y as M = some r → jb_gr M r.2) (a : ja_I) (i : Nat) (L : ja_L) (S : List ja_V) (M : ja_M) : jp_T M (jh_st2 φ E a i L S M) := by
  rcases S with _ | ⟨x | x | x, S⟩
  all_goals first | exact jp_Tn | exact jp_Tc _ (fun _ => jp_Tfc _ _ _) (fun _ => jp_Tn)
theorem jp_iinc (φ : Bool) (E : ja_E) (hE : ∀ y as M r, E y as M = some r → jb_gr M r.2) (a : ja_I) (i : Nat) (L : ja_L) (S : List ja_V) (M : ja_M) : jp_T M (jh_iinc φ E a i L S M) := by
  show jp_T M (fun κ => _)
  unfold jh_iinc
  generalize L[a.2.1]? = o
  rcases o with _ | _ | x | x | x
  all_goals first | exact jp_Tn | exact jp_Tfc _ _ _
theorem jp_ibin (φ : Bool) (E : ja_E) (hE : ∀ y as M r, E y as M = some r → jb_gr M r.2) (a : ja_I) (i : Nat) (L : ja_L) (S : List ja_V) (M : ja_M) : jp_T M (jh_ibin φ E a i L S M) := by
  rcases S with _ | ⟨x | x | x, _ | ⟨y | y | y, S⟩⟩
  all_goals first | exact jp_Tn | exact jp_Tk _ _ _ _ (jb_gr.rf M)
theorem jp_idiv (φ : Bool) (E : ja_E) (hE : ∀ y as M r, E y as M = some r → jb_gr M r.2) (a : ja_I) (i : Nat) (L : ja_L) (S : List ja_V) (M : ja_M) : jp_T M (jh_idiv φ E a i L S M) := by
  rcases S with _ | ⟨x | x | x, _ | ⟨y | y | y, S⟩⟩
  all_goals first | exact jp_Tn | exact jp_Tc _ (fun _ => jp_Tn) (fun _ => jp_Tk _ _ _ _ (jb_gr.rf M))
theorem jp_irem (φ : Bool) (E : ja_E) (hE : ∀ y as M r, E y as M = some r → jb_gr M r.2) (a : ja_I) (i : Nat) (L : ja_L) (S : List ja_V) (M : ja_M) : jp_T M (jh_irem φ E a i L S M) := by
  rcases S with _ | ⟨x | x | x, _ | ⟨y | y | y, S⟩⟩
  all_goals first | exact jp_Tn | exact jp_Tc _ (fun _ => jp_Tn) (fun _ => jp_Tk _ _ _ _ (jb_gr.rf M))
theorem jp_ineg (φ : Bool) (E : ja_E) (hE : ∀ y as M r, E y as M = some r → jb_gr M r.2) (a : ja_I) (i : Nat) (L : ja_L) (S : List ja_V) (M : ja_M) : jp_T M (jh_ineg φ E a i L S M) := by
  rcases S with _ | ⟨x | x | x, S⟩
  all_goals first | exact jp_Tn | exact jp_Tk _ _ _ _ (jb_gr.rf M)
theorem jp_lbin (φ : Bool) (E : ja_E) (hE : ∀ y as M r, E y as M = some r → jb_gr M r.2) (a : ja_I) (i : Nat) (L : ja_L) (S : List ja_V) (M : ja_M) : jp_T M (jh_lbin φ E a i L S M) := by
  rcases S with _ | ⟨x | x | x, _ | ⟨y | y | y, S⟩⟩
  all_goals first | exact jp_Tn | exact jp_Tk _ _ _ _ (jb_gr.rf M)
theorem jp_ldiv (φ : Bool) (E : ja_E) (hE : ∀ y as M r, E y as M = some r → jb_gr M r.2) (a : ja_I) (i : Nat) (L : ja_L) (S : List ja_V) (M : ja_M) : jp_T M (jh_ldiv φ E a i L S M) := by
  rcases S with _ | ⟨x | x | x, _ | ⟨y | y | y, S⟩⟩
  all_goals first | exact jp_Tn | exact jp_Tc _ (fun _ => jp_Tn) (fun _ => jp_Tk _ _ _ _ (jb_gr.rf M))
theorem jp_lrem (φ : Bool) (E : ja_E) (hE : ∀ y as M r, E y as M = some r → jb_gr M r.2) (a : ja_I) (i : Nat) (L : ja_L) (S : List ja_V) (M : ja_M) : jp_T M (jh_lrem φ E a i L S M) := by
  rcases S with _ | ⟨x | x | x, _ | ⟨y | y | y, S⟩⟩
  all_goals first | exact jp_Tn | exact jp_Tc _ (fun _ => jp_Tn) (fun _ => jp_Tk _ _ _ _ (jb_gr.rf M))
theorem jp_lshl (φ : Bool) (E : ja_E) (hE : ∀ y as M r, E y as M = some r → jb_gr M r.2) (a : ja_I) (i : Nat) (L : ja_L) (S : List ja_V) (M : ja_M) : jp_T M (jh_lshl φ E a i L S M) := by
  rcases S with _ | ⟨x | x | x, _ | ⟨y | y | y, S⟩⟩
  all_goals first | exact jp_Tn | exact jp_Tk _ _ _ _ (jb_gr.rf M)
theorem jp_lush (φ : Bool) (E : ja_E) (hE : ∀ y as M r, E y as M = some r → jb_gr M r.2) (a : ja_I) (i : Nat) (L : ja_L) (S : List ja_V) (M : ja_M) : jp_T M (jh_lush φ E a i L S M) := by
  rcases S with _ | ⟨x | x | x, _ | ⟨y | y | y, S⟩⟩
  all_goals first | exact jp_Tn | exact jp_Tk _ _ _ _ (jb_gr.rf M)
theorem jp_i2l (φ : Bool) (E : ja_E) (hE : ∀ y as M r, E y as M = some r → jb_gr M r.2) (a : ja_I) (i : Nat) (L : ja_L) (S : List ja_V) (M : ja_M) : jp_T M (jh_i2l φ E a i L S M) := by
  rcases S with _ | ⟨x | x | x, S⟩
  all_goals first | exact jp_Tn | exact jp_Tk _ _ _ _ (jb_gr.rf M)
theorem jp_l2i (φ : Bool) (E : ja_E) (hE : ∀ y as M r, E y as M = some r → jb_gr M r.2) (a : ja_I) (i : Nat) (L : ja_L) (S : List ja_V) (M : ja_M) : jp_T M (jh_l2i φ E a i L S M) := by
  rcases S with _ | ⟨x | x | x, S⟩
  all_goals first | exact jp_Tn | exact jp_Tk _ _ _ _ (jb_gr.rf M)
theorem jp_lcmp (φ : Bool) (E : ja_E) (hE : ∀ y as M r, E y as M = some r → jb_gr M r.2) (a : ja_I) (i : Nat) (L : ja_L) (S : List ja_V) (M : ja_M) : jp_T M (jh_lcmp φ E a i L S M) := by
  rcases S with _ | ⟨x | x | x, _ | ⟨y | y | y, S⟩⟩
  all_goals first | exact jp_Tn | exact jp_Tk _ _ _ _ (jb_gr.rf M)
theorem jp_icmp (φ : Bool) (E : ja_E) (hE : ∀ y as M r, E y as M = some r → jb_gr M r.2) (a : ja_I) (i : Nat) (L : ja_L) (S : List ja_V) (M : ja_M) : jp_T M (jh_icmp φ E a i L S M) := by
  rcases S with _ | ⟨x | x | x, _ | ⟨y | y | y, S⟩⟩
  all_goals first | exact jp_Tn | exact jp_Tcmp _ _ _ (jp_Tk _ _ _ _ (jb_gr.rf M)) (jp_Tk _ _ _ _ (jb_gr.rf M))
theorem jp_ifz (φ : Bool) (E : ja_E) (hE : ∀ y as M r, E y as M = some r → jb_gr M r.2) (a : ja_I) (i : Nat) (L : ja_L) (S : List ja_V) (M : ja_M) : jp_T M (jh_ifz φ E a i L S M) := by
  rcases S with _ | ⟨x | x | x, S⟩
  all_goals first | exact jp_Tn | exact jp_Tcmp _ _ _ (jp_Tk _ _ _ _ (jb_gr.rf M)) (jp_Tk _ _ _ _ (jb_gr.rf M))
theorem jp_ifnull (φ : Bool) (E : ja_E) (hE : ∀ y as M r, E y as M = some r → jb_gr M r.2) (a : ja_I) (i : Nat) (L : ja_L) (S : List ja_V) (M : ja_M) : jp_T M (jh_ifnull φ E a i L S M) := by
  rcases S with _ | ⟨x | x | x, S⟩
  all_goals first | exact jp_Tn | exact jp_Ti (fun _ => jp_Tk _ _ _ _ (jb_gr.rf M)) (fun _ => jp_Tk _ _ _ _ (jb_gr.rf M))
theorem jp_ifnon (φ : Bool) (E : ja_E) (hE : ∀ y as M r, E y as M = some r → jb_gr M r.2) (a : ja_I) (i : Nat) (L : ja_L) (S : List ja_V) (M : ja_M) : jp_T M (jh_ifnon φ E a i L S M) := by
  rcases S with _ | ⟨x | x | x, S⟩
  all_goals first | exact jp_Tn | exact jp_Ti (fun _ => jp_Tk _ _ _ _ (jb_gr.rf M)) (fun _ => jp_Tk _ _ _ _ (jb_gr.rf M))
theorem jp_goto (φ : Bool) (E : ja_E) (hE : ∀ y as M r, E y as M = some r → jb_gr M r.2) (a : ja_I) (i : Nat) (L : ja_L) (S : List ja_V) (M : ja_M) : jp_T M (jh_goto φ E a i L S M) := by
  exact jp_Tk _ _ _ _ (jb_gr.rf M)
theorem jp_switch (φ : Bool) (E : ja_E) (hE : ∀ y as M r, E y as M = some r → jb_gr M r.2) (a : ja_I) (i : Nat) (L : ja_L) (S : List ja_V) (M : ja_M) : jp_T M (jh_switch φ E a i L S M) := by
  rcases S with _ | ⟨x | x | x, S⟩
  all_goals first | exact jp_Tn | exact jp_Tsw _ _ _ _ _
theorem jp_getI (φ : Bool) (E : ja_E) (hE : ∀ y as M r, E y as M = some r → jb_gr M r.2) (a : ja_I) (i : Nat) (L : ja_L) (S : List ja_V) (M : ja_M) : jp_T M (jh_getI φ E a i L S M) := by
  rcases S with _ | ⟨x | x | x, S⟩
  all_goals first | exact jp_Tn | exact jp_Tc _ (fun _ => jp_Tk _ _ _ _ (jb_gr.rf M)) (fun _ => jp_Tn)
theorem jp_getL (φ : Bool) (E : ja_E) (hE : ∀ y as M r, E y as M = some r → jb_gr M r.2) (a : ja_I) (i : Nat) (L : ja_L) (S : List ja_V) (M : ja_M) : jp_T M (jh_getL φ E a i L S M) := by
  rcases S with _ | ⟨x | x | x, S⟩
  all_goals first | exact jp_Tn | exact jp_Tc _ (fun _ => jp_Tk _ _ _ _ (jb_gr.rf M)) (fun _ => jp_Tn)
theorem jp_getR (φ : Bool) (E : ja_E) (hE : ∀ y as M r, E y as M = some r → jb_gr M r.2) (a : ja_I) (i : Nat) (L : ja_L) (S : List ja_V) (M : ja_M) : jp_T M (jh_getR φ E a i L S M) := by
  rcases S with _ | ⟨x | x | x, S⟩
  all_goals first | exact jp_Tn | exact jp_Tc _ (fun _ => jp_Tk _ _ _ _ (jb_gr.rf M)) (fun _ => jp_Tn)
theorem jp_putI (φ : Bool) (E : ja_E) (hE : ∀ y as M r, E y as M = some r → jb_gr M r.2) (a : ja_I) (ha : a.2.1 ≠ 111) (i : Nat) (L : ja_L) (S : List ja_V) (M : ja_M) : jp_T M (jh_putI φ E a i L S M) := by
  rcases S with _ | ⟨x | x | x, _ | ⟨y | y | y, S⟩⟩
  all_goals first | exact jp_Tn | exact jp_Tc _ (fun hc => jp_Tk _ _ _ _ (jp_up (jp_okc (jb_and hc).1 (by rw [Nat.eq_of_beq_eq_true (jb_and hc).2]; exact ha)))) (fun _ => jp_Tn)
theorem jp_putZ (φ : Bool) (E : ja_E) (hE : ∀ y as M r, E y as M = some r → jb_gr M r.2) (a : ja_I) (ha : a.2.1 ≠ 111) (i : Nat) (L : ja_L) (S : List ja_V) (M : ja_M) : jp_T M (jh_putZ φ E a i L S M) := by
  rcases S with _ | ⟨x | x | x, _ | ⟨y | y | y, S⟩⟩
  all_goals first | exact jp_Tn | exact jp_Tc _ (fun hc => jp_Tc _ (fun _ => jp_Tk _ _ _ _ (jp_up (jp_okc (jb_and hc).1 (by rw [Nat.eq_of_beq_eq_true (jb_and hc).2]; exact ha)))) (fun _ => jp_Tn)) (fun _ => jp_Tn)
theorem jp_putL (φ : Bool) (E : ja_E) (hE : ∀ y as M r, E y as M = some r → jb_gr M r.2) (a : ja_I) (ha : a.2.1 ≠ 111) (i : Nat) (L : ja_L) (S : List ja_V) (M : ja_M) : jp_T M (jh_putL φ E a i L S M) := by
  rcases S with _ | ⟨x | x | x, _ | ⟨y | y | y, S⟩⟩
  all_goals first | exact jp_Tn | exact jp_Tc _ (fun hc => jp_Tk _ _ _ _ (jp_up (jp_okc (jb_and hc).1 (by rw [Nat.eq_of_beq_eq_true (jb_and hc).2]; exact ha)))) (fun _ => jp_Tn)
theorem jp_putR (φ : Bool) (E : ja_E) (hE : ∀ y as M r, E y as M = some r → jb_gr M r.2) (a : ja_I) (ha : a.2.1 ≠ 111) (i : Nat) (L : ja_L) (S : List ja_V) (M : ja_M) : jp_T M (jh_putR φ E a i L S M) := by
  rcases S with _ | ⟨x | x | x, _ | ⟨y | y | y, S⟩⟩
  all_goals first | exact jp_Tn | exact jp_Tc _ (fun hc => jp_Tk _ _ _ _ (jp_up (jp_okc (jb_and hc).1 (by rw [Nat.eq_of_beq_eq_true (jb_and (jb_and hc).2).1]; exact ha)))) (fun _ => jp_Tn)
theorem jp_static (φ : Bool) (E : ja_E) (hE : ∀ y as M r, E y as M = some r → jb_gr M r.2) (a : ja_I) (i : Nat) (L : ja_L) (S : List ja_V) (M : ja_M) : jp_T M (jh_static φ E a i L S M) := by
  exact jp_Tk _ _ _ _ (jb_gr.rf M)
theorem jp_iald (φ : Bool) (E : ja_E) (hE : ∀ y as M r, E y as M = some r → jb_gr M r.2) (a : ja_I) (i : Nat) (L : ja_L) (S : List ja_V) (M : ja_M) : jp_T M (jh_iald φ E a i L S M) := by
  rcases S with _ | ⟨x | x | x, _ | ⟨y | y | y, S⟩⟩
  all_goals first | exact jp_Tn | exact jp_Tc _ (fun _ => jp_Tc _ (fun _ => jp_Ti (fun _ => jp_Tk _ _ _ _ (jb_gr.rf M)) (fun _ => jp_Tn)) (fun _ => jp_Tn)) (fun _ => jp_Tc _ (fun _ => jp_Ti (fun _ => jp_Tk _ _ _ _ (jb_gr.rf M)) (fun _ => jp_Tn)) (fun _ => jp_Tc _ (fun _ => jp_Ti (fun _ => jp_Tk _ _ _ _ (jb_gr.rf M)) (fun _ => jp_Tn)) (fun _ => jp_Tn)))
theorem jp_bald (φ : Bool) (E : ja_E) (hE : ∀ y as M r, E y as M = some r → jb_gr M r.2) (a : ja_I) (i : Nat) (L : ja_L) (S : List ja_V) (M : ja_M) : jp_T M (jh_bald φ E a i L S M) := by
  rcases S with _ | ⟨x | x | x, _ | ⟨y | y | y, S⟩⟩
  all_goals first | exact jp_Tn | exact jp_Tc _ (fun _ => jp_Ti (fun _ => jp_Tk _ _ _ _ (jb_gr.rf M)) (fun _ => jp_Tn)) (fun _ => jp_Tn)
theorem jp_lald (φ : Bool) (E : ja_E) (hE : ∀ y as M r, E y as M = some r → jb_gr M r.2) (a : ja_I) (i : Nat) (L : ja_L) (S : List ja_V) (M : ja_M) : jp_T M (jh_lald φ E a i L S M) := by
  rcases S with _ | ⟨x | x | x, _ | ⟨y | y | y, S⟩⟩
  all_goals first | exact jp_Tn | exact jp_Tc _ (fun _ => jp_Ti (fun _ => jp_Tk _ _ _ _ (jb_gr.rf M)) (fun _ => jp_Tn)) (fun _ => jp_Tn)
theorem jp_aald (φ : Bool) (E : ja_E) (hE : ∀ y as M r, E y as M = some r → jb_gr M r.2) (a : ja_I) (i : Nat) (L : ja_L) (S : List ja_V) (M : ja_M) : jp_T M (jh_aald φ E a i L S M) := by
  rcases S with _ | ⟨x | x | x, _ | ⟨y | y | y, S⟩⟩
  all_goals first | exact jp_Tn | exact jp_Tc _ (fun _ => jp_Ti (fun _ => jp_Tk _ _ _ _ (jb_gr.rf M)) (fun _ => jp_Tn)) (fun _ => jp_Tn)
theorem jp_iast (φ : Bool) (E : ja_E) (hE : ∀ y as M r, E y as M = some r → jb_gr M r.2) (a : ja_I) (i : Nat) (L : ja_L) (S : List ja_V) (M : ja_M) : jp_T M (jh_iast φ E a i L S M) := by
  rcases S with _ | ⟨x | x | x, _ | ⟨y | y | y, _ | ⟨z | z | z, S⟩⟩⟩
  all_goals first | exact jp_Tn | exact jp_Tc _ (fun hc => jp_Ti (fun _ => jp_Tk _ _ _ _ (jp_up (jp_okc (jb_and hc).1 (by rw [Nat.eq_of_beq_eq_true (jb_and hc).2]; decide)))) (fun _ => jp_Tn)) (fun _ => jp_Tn)
theorem jp_bast (φ : Bool) (E : ja_E) (hE : ∀ y as M r, E y as M = some r → jb_gr M r.2) (a : ja_I) (i : Nat) (L : ja_L) (S : List ja_V) (M : ja_M) : jp_T M (jh_bast φ E a i L S M) := by
  rcases S with _ | ⟨x | x | x, _ | ⟨y | y | y, _ | ⟨z | z | z, S⟩⟩⟩
  all_goals first | exact jp_Tn | exact jp_Tc _ (fun hc => jp_Ti (fun _ => jp_Tc _ (fun _ => jp_Tk _ _ _ _ (jp_up (jp_okc (jb_and hc).1 (by rw [Nat.eq_of_beq_eq_true (jb_and hc).2]; decide)))) (fun _ => jp_Tn)) (fun _ => jp_Tn)) (fun _ => jp_Tn)
theorem jp_last (φ : Bool) (E : ja_E) (hE : ∀ y as M r, E y as M = some r → jb_gr M r.2) (a : ja_I) (i : Nat) (L : ja_L) (S : List ja_V) (M : ja_M) : jp_T M (jh_last φ E a i L S M) := by
  rcases S with _ | ⟨x | x | x, _ | ⟨y | y | y, _ | ⟨z | z | z, S⟩⟩⟩
  all_goals first | exact jp_Tn | exact jp_Tc _ (fun hc => jp_Ti (fun _ => jp_Tk _ _ _ _ (jp_up (jp_okc (jb_and hc).1 (by rw [Nat.eq_of_beq_eq_true (jb_and hc).2]; decide)))) (fun _ => jp_Tn)) (fun _ => jp_Tn)
theorem jp_alen (φ : Bool) (E : ja_E) (hE : ∀ y as M r, E y as M = some r → jb_gr M r.2) (a : ja_I) (i : Nat) (L : ja_L) (S : List ja_V) (M : ja_M) : jp_T M (jh_alen φ E a i L S M) := by
  rcases S with _ | ⟨x | x | x, S⟩
  all_goals first | exact jp_Tn | exact jp_Tc _ (fun _ => jp_Tk _ _ _ _ (jb_gr.rf M)) (fun _ => jp_Tc _ (fun _ => jp_Tk _ _ _ _ (jb_gr.rf M)) (fun _ => jp_Tn))
theorem jp_new (φ : Bool) (E : ja_E) (hE : ∀ y as M r, E y as M = some r → jb_gr M r.2) (a : ja_I) (ha : a.2.1 < 13) (ha2 : a.2.2.1 ≠ 0) (i : Nat) (L : ja_L) (S : List ja_V) (M : ja_M) : jp_T M (jh_new φ E a i L S M) := by
  exact jp_Tc _ (fun hc => jp_Tk _ _ _ _ (jp_grow (by obtain ⟨-, e1, e2, -⟩ := jg_new1 (jb_and hc).2; have := jp_lt (M := M) (Or.inr (by rw [e2]; exact ha2)) (by rw [e1]; omega) (by rw [e1]; omega); omega))) (fun _ => jp_Tn)
theorem jp_newa (φ : Bool) (E : ja_E) (hE : ∀ y as M r, E y as M = some r → jb_gr M r.2) (a : ja_I) (ha : 100 ≤ a.2.1 ∧ a.2.1 ≤ 102) (i : Nat) (L : ja_L) (S : List ja_V) (M : ja_M) : jp_T M (jh_newa φ E a i L S M) := by
  rcases S with _ | ⟨x | x | x, S⟩
  all_goals first | exact jp_Tn | exact jp_Tc _ (fun hc => jp_Tk _ _ _ _ (jp_grow (by obtain ⟨-, e1, e2, -⟩ := jg_new1 (jb_and hc).2; have := jp_lt (M := M) (Or.inl (by rw [e1]; omega)) (by rw [e1]; omega) (by rw [e1]; omega); omega))) (fun _ => jp_Tn)
theorem jp_newm (φ : Bool) (E : ja_E) (hE : ∀ y as M r, E y as M = some r → jb_gr M r.2) (a : ja_I) (i : Nat) (L : ja_L) (S : List ja_V) (M : ja_M) : jp_T M (jh_newm φ E a i L S M) := by
  rcases S with _ | ⟨x | x | x, _ | ⟨y | y | y, S⟩⟩
  all_goals first | exact jp_Tn | exact jp_Tc _ (fun hc => jp_Tk _ _ _ _ (jp_grow (by obtain ⟨-, e1, e2, -⟩ := jg_new1 (jb_and (jb_and (jb_and (jb_and (jb_and hc).2).2).2).2).1; have h9 := jp_lt (M := M) (Or.inl (by rw [e1]; decide)) (by rw [e1]; decide) (by rw [e1]; decide); have := jk_103 _ h9 e1; omega))) (fun _ => jp_Tn)
theorem jp_callV (φ : Bool) (E : ja_E) (hE : ∀ y as M r, E y as M = some r → jb_gr M r.2) (a : ja_I) (i : Nat) (L : ja_L) (S : List ja_V) (M : ja_M) : jp_T M (jh_callV φ E a i L S M) := by
  show jp_T M (fun κ => _)
  unfold jh_callV
  generalize S.drop a.2.2.1 = S'
  rcases S' with _ | ⟨x | x | x, S'⟩
  all_goals first | exact jp_Tn | exact jp_Tc _ (fun _ => jp_Tbk _ _ _ _ _ (fun r h => hE _ _ _ _ h)) (fun _ => jp_Tn)
theorem jp_callS (φ : Bool) (E : ja_E) (hE : ∀ y as M r, E y as M = some r → jb_gr M r.2) (a : ja_I) (i : Nat) (L : ja_L) (S : List ja_V) (M : ja_M) : jp_T M (jh_callS φ E a i L S M) := by
  exact jp_Tc _ (fun _ => jp_Tbk _ _ _ _ _ (fun r h => hE _ _ _ _ h)) (fun _ => jp_Tn)
theorem jp_callI (φ : Bool) (E : ja_E) (hE : ∀ y as M r, E y as M = some r → jb_gr M r.2) (a : ja_I) (i : Nat) (L : ja_L) (S : List ja_V) (M : ja_M) : jp_T M (jh_callI φ E a i L S M) := by
  show jp_T M (fun κ => _)
  unfold jh_callI
  generalize S.drop a.2.2.1 = S'
  rcases S' with _ | ⟨x | x | x, S'⟩
  all_goals first | exact jp_Tn | exact jp_Tc _ (fun _ => jp_Tbk _ _ _ _ _ (fun r h => hE _ _ _ _ h)) (fun _ => jp_Tn)
theorem jp_objI (φ : Bool) (E : ja_E) (hE : ∀ y as M r, E y as M = some r → jb_gr M r.2) (a : ja_I) (i : Nat) (L : ja_L) (S : List ja_V) (M : ja_M) : jp_T M (jh_objI φ E a i L S M) := by
  rcases S with _ | ⟨x | x | x, S⟩
  all_goals first | exact jp_Tn | exact jp_Tc _ (fun _ => jp_Tk _ _ _ _ (jb_gr.rf M)) (fun _ => jp_Tn)
theorem jp_iret (φ : Bool) (E : ja_E) (hE : ∀ y as M r, E y as M = some r → jb_gr M r.2) (a : ja_I) (i : Nat) (L : ja_L) (S : List ja_V) (M : ja_M) : jp_T M (jh_iret φ E a i L S M) := by
  rcases S with _ | ⟨x | x | x, _ | ⟨y, S⟩⟩
  all_goals first | exact jp_Tn | exact jp_To _ (fun r h => by cases h; exact jb_gr.rf M)
theorem jp_zret (φ : Bool) (E : ja_E) (hE : ∀ y as M r, E y as M = some r → jb_gr M r.2) (a : ja_I) (i : Nat) (L : ja_L) (S : List ja_V) (M : ja_M) : jp_T M (jh_zret φ E a i L S M) := by
  rcases S with _ | ⟨x | x | x, _ | ⟨y, S⟩⟩
  all_goals first | exact jp_Tn | exact jp_Tc _ (fun _ => jp_To _ (fun r h => by cases h; exact jb_gr.rf M)) (fun _ => jp_Tn)
theorem jp_lret (φ : Bool) (E : ja_E) (hE : ∀ y as M r, E y as M = some r → jb_gr M r.2) (a : ja_I) (i : Nat) (L : ja_L) (S : List ja_V) (M : ja_M) : jp_T M (jh_lret φ E a i L S M) := by
  rcases S with _ | ⟨x | x | x, _ | ⟨y, S⟩⟩
  all_goals first | exact jp_Tn | exact jp_To _ (fun r h => by cases h; exact jb_gr.rf M)
theorem jp_aret (φ : Bool) (E : ja_E) (hE : ∀ y as M r, E y as M = some r → jb_gr M r.2) (a : ja_I) (i : Nat) (L : ja_L) (S : List ja_V) (M : ja_M) : jp_T M (jh_aret φ E a i L S M) := by
  rcases S with _ | ⟨x | x | x, _ | ⟨y, S⟩⟩
  all_goals first | exact jp_Tn | exact jp_Tc _ (fun _ => jp_To _ (fun r h => by cases h; exact jb_gr.rf M)) (fun _ => jp_Tn)
theorem jp_vret (φ : Bool) (E : ja_E) (hE : ∀ y as M r, E y as M = some r → jb_gr M r.2) (a : ja_I) (i : Nat) (L : ja_L) (S : List ja_V) (M : ja_M) : jp_T M (jh_vret φ E a i L S M) := by
  rcases S with _ | ⟨y, S⟩
  all_goals first | exact jp_Tn | exact jp_To _ (fun r h => by cases h; exact jb_gr.rf M)
theorem jp_dup (φ : Bool) (E : ja_E) (hE : ∀ y as M r, E y as M = some r → jb_gr M r.2) (a : ja_I) (i : Nat) (L : ja_L) (S : List ja_V) (M : ja_M) : jp_T M (jh_dup φ E a i L S M) := by
  rcases S with _ | ⟨x | x | x, S⟩
  all_goals first | exact jp_Tn | exact jp_Tk _ _ _ _ (jb_gr.rf M)
theorem jp_dup2 (φ : Bool) (E : ja_E) (hE : ∀ y as M r, E y as M = some r → jb_gr M r.2) (a : ja_I) (i : Nat) (L : ja_L) (S : List ja_V) (M : ja_M) : jp_T M (jh_dup2 φ E a i L S M) := by
  rcases S with _ | ⟨x | x | x, _ | ⟨y | y | y, S⟩⟩
  all_goals first | exact jp_Tn | exact jp_Tk _ _ _ _ (jb_gr.rf M)
theorem jp_pop (φ : Bool) (E : ja_E) (hE : ∀ y as M r, E y as M = some r → jb_gr M r.2) (a : ja_I) (i : Nat) (L : ja_L) (S : List ja_V) (M : ja_M) : jp_T M (jh_pop φ E a i L S M) := by
  rcases S with _ | ⟨x | x | x, S⟩
  all_goals first | exact jp_Tn | exact jp_Tk _ _ _ _ (jb_gr.rf M)
theorem jp_copy (φ : Bool) (E : ja_E) (hE : ∀ y as M r, E y as M = some r → jb_gr M r.2) (a : ja_I) (i : Nat) (L : ja_L) (S : List ja_V) (M : ja_M) : jp_T M (jh_copy φ E a i L S M) := by
  rcases S with _ | ⟨x | x | x, _ | ⟨y | y | y, _ | ⟨z | z | z, _ | ⟨u | u | u, _ | ⟨v | v | v, S⟩⟩⟩⟩⟩
  all_goals first | exact jp_Tn | exact jp_Tc _ (fun hc => jp_Ti (fun _ => jp_Tk _ _ _ _ (jp_cpy (jp_okc (jb_and hc).1 (by rw [Nat.eq_of_beq_eq_true (jb_and (jb_and hc).2).1]; decide)))) (fun _ => jp_Tn)) (fun _ => jp_Tn)
theorem jp_place (φ : Bool) (E : ja_E) (hE : ∀ y as M r, E y as M = some r → jb_gr M r.2) (a : ja_I) (i : Nat) (L : ja_L) (S : List ja_V) (M : ja_M) : jp_T M (jh_place φ E a i L S M) := by
  rcases S with _ | ⟨x | x | x, _ | ⟨y | y | y, _ | ⟨z | z | z, _ | ⟨u | u | u, S⟩⟩⟩⟩
  all_goals first | exact jp_Tn | exact jp_Tc _ (fun _ => jp_Ti (fun _ => jp_Ti (fun _ => jp_Tk _ _ _ _ (jp_up ⟨by decide, by decide⟩)) (fun _ => jp_Tn)) (fun _ => jp_Tk _ _ _ _ jp_thr)) (fun _ => jp_Tn)
theorem jp_mmax (φ : Bool) (E : ja_E) (hE : ∀ y as M r, E y as M = some r → jb_gr M r.2) (a : ja_I) (i : Nat) (L : ja_L) (S : List ja_V) (M : ja_M) : jp_T M (jh_mmax φ E a i L S M) := by
  rcases S with _ | ⟨x | x | x, _ | ⟨y | y | y, S⟩⟩
  all_goals first | exact jp_Tn | exact jp_Tc _ (fun _ => jp_Tk _ _ _ _ (jb_gr.rf M)) (fun _ => jp_Tn)
theorem jp_mmin (φ : Bool) (E : ja_E) (hE : ∀ y as M r, E y as M = some r → jb_gr M r.2) (a : ja_I) (i : Nat) (L : ja_L) (S : List ja_V) (M : ja_M) : jp_T M (jh_mmin φ E a i L S M) := by
  rcases S with _ | ⟨x | x | x, _ | ⟨y | y | y, S⟩⟩
  all_goals first | exact jp_Tn | exact jp_Tc _ (fun _ => jp_Tk _ _ _ _ (jb_gr.rf M)) (fun _ => jp_Tn)
theorem jp_mabs (φ : Bool) (E : ja_E) (hE : ∀ y as M r, E y as M = some r → jb_gr M r.2) (a : ja_I) (i : Nat) (L : ja_L) (S : List ja_V) (M : ja_M) : jp_T M (jh_mabs φ E a i L S M) := by
  rcases S with _ | ⟨x | x | x, S⟩
  all_goals first | exact jp_Tn | exact jp_Tc _ (fun _ => jp_Tk _ _ _ _ (jb_gr.rf M)) (fun _ => jp_Tn)
theorem jp_lmax (φ : Bool) (E : ja_E) (hE : ∀ y as M r, E y as M = some r → jb_gr M r.2) (a : ja_I) (i : Nat) (L : ja_L) (S : List ja_V) (M : ja_M) : jp_T M (jh_lmax φ E a i L S M) := by
  rcases S with _ | ⟨x | x | x, _ | ⟨y | y | y, S⟩⟩
  all_goals first | exact jp_Tn | exact jp_Tc _ (fun _ => jp_Tk _ _ _ _ (jb_gr.rf M)) (fun _ => jp_Tn)
theorem jp_lmin (φ : Bool) (E : ja_E) (hE : ∀ y as M r, E y as M = some r → jb_gr M r.2) (a : ja_I) (i : Nat) (L : ja_L) (S : List ja_V) (M : ja_M) : jp_T M (jh_lmin φ E a i L S M) := by
  rcases S with _ | ⟨x | x | x, _ | ⟨y | y | y, S⟩⟩
  all_goals first | exact jp_Tn | exact jp_Tc _ (fun _ => jp_Tk _ _ _ _ (jb_gr.rf M)) (fun _ => jp_Tn)
end
section
/-! the walk of a whole method; every call by its answer in the small machine -/
def jp_ok (a : ja_I) : Bool := cond (Nat.ble 27 a.1 && Nat.ble a.1 30) (!(Nat.beq a.2.1 111)) (cond (Nat.beq a.1 40) (Nat.blt a.2.1 13 && !(Nat.beq a.2.2.1 0)) (cond (Nat.beq a.1 41) (Nat.ble 100 a.2.1 && Nat.ble a.2.1 102) true))
theorem jp_oks : ∀ y, y < 303 → (ja_code y).all jp_ok = true := by decide +kernel
theorem ja_codes_len : ja_codes.length = 303 := by decide +kernel
theorem ja_code_out {y : Nat} (h : 303 ≤ y) : ja_code y = [] := ja_nth_out ja_codes y [] (by rw [ja_codes_len]; exact h)
set_option maxRecDepth 20000 in
set_option maxHeartbeats 4000000 in
theorem jp_h (φ : Bool) (E : ja_E) (hE : ∀ y as M r, E y as M = some r → jb_gr M r.2) (a : ja_I) (ho : jp_ok a = true) (i : Nat) (L : ja_L) (S : List ja_V) (M : ja_M) : jp_T M (ja_h φ E a i L S M) := by
  obtain ⟨op, a, n, b, t, ms⟩ := a
  rcases op with _ | _ | _ | _ | _ | _ | _ | _ | _ | _ | _ | _ | _ | _ | _ | _ | _ | _ | _ | _ | _ | _ | _ | _ | _ | _ | _ | _ | _ | _ | _ | _ | _ | _ | _ | _ | _ | _ | _ | _ | _ | _ | _ | _ | _ | _ | _ | _ | _ | _ | _ | _ | _ | _ | _ | _ | _ | _ | _ | _ | _ | _ | k
  · exact jp_load φ E hE (0, a, n, b, t, ms) i L S M
  · exact jp_ipush φ E hE (1, a, n, b, t, ms) i L S M
  · exact jp_lpush φ E hE (2, a, n, b, t, ms) i L S M
  · exact jp_st1 φ E hE (3, a, n, b, t, ms) i L S M
  · exact jp_st2 φ E hE (4, a, n, b, t, ms) i L S M
  · exact jp_iinc φ E hE (5, a, n, b, t, ms) i L S M
  · exact jp_ibin φ E hE (6, a, n, b, t, ms) i L S M
  · exact jp_idiv φ E hE (7, a, n, b, t, ms) i L S M
  · exact jp_irem φ E hE (8, a, n, b, t, ms) i L S M
  · exact jp_ineg φ E hE (9, a, n, b, t, ms) i L S M
  · exact jp_lbin φ E hE (10, a, n, b, t, ms) i L S M
  · exact jp_ldiv φ E hE (11, a, n, b, t, ms) i L S M
  · exact jp_lrem φ E hE (12, a, n, b, t, ms) i L S M
  · exact jp_lshl φ E hE (13, a, n, b, t, ms) i L S M
  · exact jp_lush φ E hE (14, a, n, b, t, ms) i L S M
  · exact jp_i2l φ E hE (15, a, n, b, t, ms) i L S M
  · exact jp_l2i φ E hE (16, a, n, b, t, ms) i L S M
  · exact jp_lcmp φ E hE (17, a, n, b, t, ms) i L S M
  · exact jp_icmp φ E hE (18, a, n, b, t, ms) i L S M
  · exact jp_ifz φ E hE (19, a, n, b, t, ms) i L S M
  · exact jp_ifnull φ E hE (20, a, n, b, t, ms) i L S M
  · exact jp_ifnon φ E hE (21, a, n, b, t, ms) i L S M
  · exact jp_goto φ E hE (22, a, n, b, t, ms) i L S M
  · exact jp_switch φ E hE (23, a, n, b, t, ms) i L S M
  · exact jp_getI φ E hE (24, a, n, b, t, ms) i L S M
  · exact jp_getL φ E hE (25, a, n, b, t, ms) i L S M
  · exact jp_getR φ E hE (26, a, n, b, t, ms) i L S M
  · exact jp_putI φ E hE (27, a, n, b, t, ms) (by intro q; have q : a = 111 := q; subst q; cases ho) i L S M
  · exact jp_putZ φ E hE (28, a, n, b, t, ms) (by intro q; have q : a = 111 := q; subst q; cases ho) i L S M
  · exact jp_putL φ E hE (29, a, n, b, t, ms) (by intro q; have q : a = 111 := q; subst q; cases ho) i L S M
  · exact jp_putR φ E hE (30, a, n, b, t, ms) (by intro q; have q : a = 111 := q; subst q; cases ho) i L S M
  · exact jp_static φ E hE (31, a, n, b, t, ms) i L S M
  · exact jp_iald φ E hE (32, a, n, b, t, ms) i L S M
  · exact jp_bald φ E hE (33, a, n, b, t, ms) i L S M
  · exact jp_lald φ E hE (34, a, n, b, t, ms) i L S M
  · exact jp_aald φ E hE (35, a, n, b, t, ms) i L S M
  · exact jp_iast φ E hE (36, a, n, b, t, ms) i L S M
  · exact jp_bast φ E hE (37, a, n, b, t, ms) i L S M
  · exact jp_last φ E hE (38, a, n, b, t, ms) i L S M
  · exact jp_alen φ E hE (39, a, n, b, t, ms) i L S M
  · exact jp_new φ E hE (40, a, n, b, t, ms) (Nat.blt_eq.mp (jb_and ho).1) (by intro q; have q : n = 0 := q; subst q; have := (jb_and ho).2; cases this) i L S M
  · exact jp_newa φ E hE (41, a, n, b, t, ms) ⟨Nat.le_of_ble_eq_true (jb_and ho).1, Nat.le_of_ble_eq_true (jb_and ho).2⟩ i L S M
  · exact jp_newm φ E hE (42, a, n, b, t, ms) i L S M
  · exact jp_callV φ E hE (43, a, n, b, t, ms) i L S M
  · exact jp_callS φ E hE (44, a, n, b, t, ms) i L S M
  · exact jp_callI φ E hE (45, a, n, b, t, ms) i L S M
  · exact jp_objI φ E hE (46, a, n, b, t, ms) i L S M
  · exact jp_iret φ E hE (47, a, n, b, t, ms) i L S M
  · exact jp_zret φ E hE (48, a, n, b, t, ms) i L S M
  · exact jp_lret φ E hE (49, a, n, b, t, ms) i L S M
  · exact jp_aret φ E hE (50, a, n, b, t, ms) i L S M
  · exact jp_vret φ E hE (51, a, n, b, t, ms) i L S M
  · exact jp_dup φ E hE (52, a, n, b, t, ms) i L S M
  · exact jp_dup2 φ E hE (53, a, n, b, t, ms) i L S M
  · exact jp_pop φ E hE (54, a, n, b, t, ms) i L S M
  · exact jp_copy φ E hE (55, a, n, b, t, ms) i L S M
  · exact jp_place φ E hE (56, a, n, b, t, ms) i L S M
  · exact jp_mmax φ E hE (57, a, n, b, t, ms) i L S M
  · exact jp_mmin φ E hE (58, a, n, b, t, ms) i L S M
  · exact jp_mabs φ E hE (59, a, n, b, t, ms) i L S M
  · exact jp_lmax φ E hE (60, a, n, b, t, ms) i L S M
  · exact jp_lmin φ E hE (61, a, n, b, t, ms) i L S M
  · exact Or.inl ⟨none, fun κ => by
      show ja_nth ja_hs (k + 62) jh_none φ E _ i L S M κ = none
      rw [ja_nth_out ja_hs (k + 62) jh_none (by show 62 ≤ _; omega)]
      rfl, fun _ h => by cases h⟩
theorem jp_row0 : jp_ok ja_row0 = true := rfl
theorem ja_nthAll {c : List ja_I} (h : c.all jp_ok = true) (i : Nat) : jp_ok (ja_nth c i ja_row0) = true := ja_nthP (P := fun a => jp_ok a = true) jp_row0 c (fun x hx => List.all_eq_true.mp h x hx) i
theorem jp_it (φ : Bool) (E : ja_E) (hE : ∀ y as M r, E y as M = some r → jb_gr M r.2) (c : List ja_I) (hc : c.all jp_ok = true) : ∀ (n i : Nat) (L : ja_L) (S : List ja_V) (M : ja_M) (r : ja_R), ja_it φ E c n i L S M = some r → jb_gr M r.2
  | 0, _, _, _, _, _, h => by cases h
  | n + 1, i, L, S, M, r, h => by
    have h : ja_step φ E c (ja_it φ E c n) i L S M = some r := h
    rw [ja_step_eq] at h
    rcases jp_h φ E hE _ (ja_nthAll hc i) i (ja_mask (ja_nth c i ja_row0).2.2.2.2.2 L) S M with ⟨o, h1, h2⟩ | ⟨i', L', S', M', h1, h2⟩
    · exact h2 r ((h1 _).symm.trans h)
    · exact h2.tr (jp_it φ E hE c hc n i' L' S' M' r ((h1 _).symm.trans h))
theorem jp_x (φ : Bool) : ∀ (d y : Nat) (as : List ja_V) (M : ja_M) (r : ja_R), ja_x φ d y as M = some r → jb_gr M r.2
  | 0, _, _, _, _, h => by cases h
  | d + 1, y, as, M, r, h => by
    rw [ja_x_eq] at h
    obtain ⟨-, h⟩ := jb_cond h
    obtain ⟨n, hn⟩ := ja_D_ex h
    rcases Nat.lt_or_ge y 303 with q | q
    · exact jp_it φ (ja_x φ d) (jp_x φ d) (ja_code y) (jp_oks y q) n _ _ _ _ _ hn
    · rw [ja_code_out q] at hn
      exact jp_it φ (ja_x φ d) (jp_x φ d) [] rfl n _ _ _ _ _ hn
set_option maxRecDepth 20000 in
set_option maxHeartbeats 4000000 in
theorem jb_h (hpl : jb_SH2 jh_place jc_place) : jb_SH2 (fun φ E a i L S M κ => ja_h φ E a i L S M κ) jc_row := by
  intro p l e R s m args below meth c Q G φ z d C0 S0 ad0 lim0 E a i L S M κ r a1 a2 a3 ck h a6 a7 a8
  obtain ⟨op, a, n, b, t, ms⟩ := a
  rcases op with _ | _ | _ | _ | _ | _ | _ | _ | _ | _ | _ | _ | _ | _ | _ | _ | _ | _ | _ | _ | _ | _ | _ | _ | _ | _ | _ | _ | _ | _ | _ | _ | _ | _ | _ | _ | _ | _ | _ | _ | _ | _ | _ | _ | _ | _ | _ | _ | _ | _ | _ | _ | _ | _ | _ | _ | _ | _ | _ | _ | _ | _ | k
  · exact (jb_SH.to2 jw_load) p l e R s m args below meth c Q G φ z d C0 S0 ad0 lim0 E (0, a, n, b, t, ms) i L S M κ r a1 a2 a3 ck h a6 a7 a8
  · exact (jb_SH.to2 jw_ipush) p l e R s m args below meth c Q G φ z d C0 S0 ad0 lim0 E (1, a, n, b, t, ms) i L S M κ r a1 a2 a3 ck h a6 a7 a8
  · exact (jb_SH.to2 jw_lpush) p l e R s m args below meth c Q G φ z d C0 S0 ad0 lim0 E (2, a, n, b, t, ms) i L S M κ r a1 a2 a3 ck h a6 a7 a8
  · exact (jb_SH.to2 jw_st1) p l e R s m args below meth c Q G φ z d C0 S0 ad0 lim0 E (3, a, n, b, t, ms) i L S M κ r a1 a2 a3 ck h a6 a7 a8
  · exact (jb_SH.to2 jw_st2) p l e R s m args below meth c Q G φ z d C0 S0 ad0 lim0 E (4, a, n, b, t, ms) i L S M κ r a1 a2 a3 ck h a6 a7 a8
  · exact (jb_SH.to2 jw_iinc) p l e R s m args below meth c Q G φ z d C0 S0 ad0 lim0 E (5, a, n, b, t, ms) i L S M κ r a1 a2 a3 ck h a6 a7 a8
  · exact (jb_SH.to2 jw_ibin) p l e R s m args below meth c Q G φ z d C0 S0 ad0 lim0 E (6, a, n, b, t, ms) i L S M κ r a1 a2 a3 ck h a6 a7 a8
  · exact (jb_SH.to2 jw_idiv) p l e R s m args below meth c Q G φ z d C0 S0 ad0 lim0 E (7, a, n, b, t, ms) i L S M κ r a1 a2 a3 ck h a6 a7 a8
  · exact (jb_SH.to2 jw_irem) p l e R s m args below meth c Q G φ z d C0 S0 ad0 lim0 E (8, a, n, b, t, ms) i L S M κ r a1 a2 a3 ck h a6 a7 a8
  · exact (jb_SH.to2 jw_ineg) p l e R s m args below meth c Q G φ z d C0 S0 ad0 lim0 E (9, a, n, b, t, ms) i L S M κ r a1 a2 a3 ck h a6 a7 a8
  · exact (jb_SH.to2 jw_lbin) p l e R s m args below meth c Q G φ z d C0 S0 ad0 lim0 E (10, a, n, b, t, ms) i L S M κ r a1 a2 a3 ck h a6 a7 a8
  · exact (jb_SH.to2 jw_ldiv) p l e R s m args below meth c Q G φ z d C0 S0 ad0 lim0 E (11, a, n, b, t, ms) i L S M κ r a1 a2 a3 ck h a6 a7 a8
  · exact (jb_SH.to2 jw_lrem) p l e R s m args below meth c Q G φ z d C0 S0 ad0 lim0 E (12, a, n, b, t, ms) i L S M κ r a1 a2 a3 ck h a6 a7 a8
  · exact (jb_SH.to2 jw_lshl) p l e R s m args below meth c Q G φ z d C0 S0 ad0 lim0 E (13, a, n, b, t, ms) i L S M κ r a1 a2 a3 ck h a6 a7 a8
  · exact (jb_SH.to2 jw_lush) p l e R s m args below meth c Q G φ z d C0 S0 ad0 lim0 E (14, a, n, b, t, ms) i L S M κ r a1 a2 a3 ck h a6 a7 a8
  · exact (jb_SH.to2 jw_i2l) p l e R s m args below meth c Q G φ z d C0 S0 ad0 lim0 E (15, a, n, b, t, ms) i L S M κ r a1 a2 a3 ck h a6 a7 a8
  · exact (jb_SH.to2 jw_l2i) p l e R s m args below meth c Q G φ z d C0 S0 ad0 lim0 E (16, a, n, b, t, ms) i L S M κ r a1 a2 a3 ck h a6 a7 a8
  · exact (jb_SH.to2 jw_lcmp) p l e R s m args below meth c Q G φ z d C0 S0 ad0 lim0 E (17, a, n, b, t, ms) i L S M κ r a1 a2 a3 ck h a6 a7 a8
  · exact (jb_SH.to2 jw_icmp) p l e R s m args below meth c Q G φ z d C0 S0 ad0 lim0 E (18, a, n, b, t, ms) i L S M κ r a1 a2 a3 ck h a6 a7 a8
  · exact (jb_SH.to2 jw_ifz) p l e R s m args below meth c Q G φ z d C0 S0 ad0 lim0 E (19, a, n, b, t, ms) i L S M κ r a1 a2 a3 ck h a6 a7 a8
  · exact (jb_SH.to2 jw_ifnull) p l e R s m args below meth c Q G φ z d C0 S0 ad0 lim0 E (20, a, n, b, t, ms) i L S M κ r a1 a2 a3 ck h a6 a7 a8
  · exact (jb_SH.to2 jw_ifnon) p l e R s m args below meth c Q G φ z d C0 S0 ad0 lim0 E (21, a, n, b, t, ms) i L S M κ r a1 a2 a3 ck h a6 a7 a8
  · exact (jb_SH.to2 jw_goto) p l e R s m args below meth c Q G φ z d C0 S0 ad0 lim0 E (22, a, n, b, t, ms) i L S M κ r a1 a2 a3 ck h a6 a7 a8
  · exact (jb_SH.to2 jw_switch) p l e R s m args below meth c Q G φ z d C0 S0 ad0 lim0 E (23, a, n, b, t, ms) i L S M κ r a1 a2 a3 ck h a6 a7 a8
  · exact (jb_SH.to2 jw_getI) p l e R s m args below meth c Q G φ z d C0 S0 ad0 lim0 E (24, a, n, b, t, ms) i L S M κ r a1 a2 a3 ck h a6 a7 a8
  · exact (jb_SH.to2 jw_getL) p l e R s m args below meth c Q G φ z d C0 S0 ad0 lim0 E (25, a, n, b, t, ms) i L S M κ r a1 a2 a3 ck h a6 a7 a8
  · exact (jb_SH.to2 jw_getR) p l e R s m args below meth c Q G φ z d C0 S0 ad0 lim0 E (26, a, n, b, t, ms) i L S M κ r a1 a2 a3 ck h a6 a7 a8
  · exact (jb_SH.to2 jw_putI) p l e R s m args below meth c Q G φ z d C0 S0 ad0 lim0 E (27, a, n, b, t, ms) i L S M κ r a1 a2 a3 ck h a6 a7 a8
  · exact (jb_SH.to2 jw_putZ) p l e R s m args below meth c Q G φ z d C0 S0 ad0 lim0 E (28, a, n, b, t, ms) i L S M κ r a1 a2 a3 ck h a6 a7 a8
  · exact (jb_SH.to2 jw_putL) p l e R s m args below meth c Q G φ z d C0 S0 ad0 lim0 E (29, a, n, b, t, ms) i L S M κ r a1 a2 a3 ck h a6 a7 a8
  · exact (jb_SH.to2 jw_putR) p l e R s m args below meth c Q G φ z d C0 S0 ad0 lim0 E (30, a, n, b, t, ms) i L S M κ r a1 a2 a3 ck h a6 a7 a8
  · exact (jb_SH.to2 jw_static) p l e R s m args below meth c Q G φ z d C0 S0 ad0 lim0 E (31, a, n, b, t, ms) i L S M κ r a1 a2 a3 ck h a6 a7 a8
  · exact (jb_SH.to2 jw_iald) p l e R s m args below meth c Q G φ z d C0 S0 ad0 lim0 E (32, a, n, b, t, ms) i L S M κ r a1 a2 a3 ck h a6 a7 a8
  · exact (jb_SH.to2 jw_bald) p l e R s m args below meth c Q G φ z d C0 S0 ad0 lim0 E (33, a, n, b, t, ms) i L S M κ r a1 a2 a3 ck h a6 a7 a8
  · exact (jb_SH.to2 jw_lald) p l e R s m args below meth c Q G φ z d C0 S0 ad0 lim0 E (34, a, n, b, t, ms) i L S M κ r a1 a2 a3 ck h a6 a7 a8
  · exact (jb_SH.to2 jw_aald) p l e R s m args below meth c Q G φ z d C0 S0 ad0 lim0 E (35, a, n, b, t, ms) i L S M κ r a1 a2 a3 ck h a6 a7 a8
  · exact (jb_SH.to2 jw_iast) p l e R s m args below meth c Q G φ z d C0 S0 ad0 lim0 E (36, a, n, b, t, ms) i L S M κ r a1 a2 a3 ck h a6 a7 a8
  · exact (jb_SH.to2 jw_bast) p l e R s m args below meth c Q G φ z d C0 S0 ad0 lim0 E (37, a, n, b, t, ms) i L S M κ r a1 a2 a3 ck h a6 a7 a8
  · exact (jb_SH.to2 jw_last) p l e R s m args below meth c Q G φ z d C0 S0 ad0 lim0 E (38, a, n, b, t, ms) i L S M κ r a1 a2 a3 ck h a6 a7 a8
  · exact (jb_SH.to2 jw_alen) p l e R s m args below meth c Q G φ z d C0 S0 ad0 lim0 E (39, a, n, b, t, ms) i L S M κ r a1 a2 a3 ck h a6 a7 a8
  · exact (jw_new) p l e R s m args below meth c Q G φ z d C0 S0 ad0 lim0 E (40, a, n, b, t, ms) i L S M κ r a1 a2 a3 ck h a6 a7 a8
  · exact (jw_newa) p l e R s m args below meth c Q G φ z d C0 S0 ad0 lim0 E (41, a, n, b, t, ms) i L S M κ r a1 a2 a3 ck h a6 a7 a8
  · exact (jw_newm) p l e R s m args below meth c Q G φ z d C0 S0 ad0 lim0 E (42, a, n, b, t, ms) i L S M κ r a1 a2 a3 ck h a6 a7 a8
  · exact (jw_callV) p l e R s m args below meth c Q G φ z d C0 S0 ad0 lim0 E (43, a, n, b, t, ms) i L S M κ r a1 a2 a3 ck h a6 a7 a8
  · exact (jw_callS) p l e R s m args below meth c Q G φ z d C0 S0 ad0 lim0 E (44, a, n, b, t, ms) i L S M κ r a1 a2 a3 ck h a6 a7 a8
  · exact (jw_callI) p l e R s m args below meth c Q G φ z d C0 S0 ad0 lim0 E (45, a, n, b, t, ms) i L S M κ r a1 a2 a3 ck h a6 a7 a8
  · exact (jb_SH.to2 jw_objI) p l e R s m args below meth c Q G φ z d C0 S0 ad0 lim0 E (46, a, n, b, t, ms) i L S M κ r a1 a2 a3 ck h a6 a7 a8
  · exact (jb_SH.to2 jw_iret) p l e R s m args below meth c Q G φ z d C0 S0 ad0 lim0 E (47, a, n, b, t, ms) i L S M κ r a1 a2 a3 ck h a6 a7 a8
  · exact (jb_SH.to2 jw_zret) p l e R s m args below meth c Q G φ z d C0 S0 ad0 lim0 E (48, a, n, b, t, ms) i L S M κ r a1 a2 a3 ck h a6 a7 a8
  · exact (jb_SH.to2 jw_lret) p l e R s m args below meth c Q G φ z d C0 S0 ad0 lim0 E (49, a, n, b, t, ms) i L S M κ r a1 a2 a3 ck h a6 a7 a8
  · exact (jb_SH.to2 jw_aret) p l e R s m args below meth c Q G φ z d C0 S0 ad0 lim0 E (50, a, n, b, t, ms) i L S M κ r a1 a2 a3 ck h a6 a7 a8
  · exact (jb_SH.to2 jw_vret) p l e R s m args below meth c Q G φ z d C0 S0 ad0 lim0 E (51, a, n, b, t, ms) i L S M κ r a1 a2 a3 ck h a6 a7 a8
  · exact (jb_SH.to2 jw_dup) p l e R s m args below meth c Q G φ z d C0 S0 ad0 lim0 E (52, a, n, b, t, ms) i L S M κ r a1 a2 a3 ck h a6 a7 a8
  · exact (jb_SH.to2 jw_dup2) p l e R s m args below meth c Q G φ z d C0 S0 ad0 lim0 E (53, a, n, b, t, ms) i L S M κ r a1 a2 a3 ck h a6 a7 a8
  · exact (jb_SH.to2 jw_pop) p l e R s m args below meth c Q G φ z d C0 S0 ad0 lim0 E (54, a, n, b, t, ms) i L S M κ r a1 a2 a3 ck h a6 a7 a8
  · exact (jw_copy) p l e R s m args below meth c Q G φ z d C0 S0 ad0 lim0 E (55, a, n, b, t, ms) i L S M κ r a1 a2 a3 ck h a6 a7 a8
  · exact hpl p l e R s m args below meth c Q G φ z d C0 S0 ad0 lim0 E (56, a, n, b, t, ms) i L S M κ r a1 a2 a3 ck h a6 a7 a8
  · exact (jb_SH.to2 jw_mmax) p l e R s m args below meth c Q G φ z d C0 S0 ad0 lim0 E (57, a, n, b, t, ms) i L S M κ r a1 a2 a3 ck h a6 a7 a8
  · exact (jb_SH.to2 jw_mmin) p l e R s m args below meth c Q G φ z d C0 S0 ad0 lim0 E (58, a, n, b, t, ms) i L S M κ r a1 a2 a3 ck h a6 a7 a8
  · exact (jb_SH.to2 jw_mabs) p l e R s m args below meth c Q G φ z d C0 S0 ad0 lim0 E (59, a, n, b, t, ms) i L S M κ r a1 a2 a3 ck h a6 a7 a8
  · exact (jb_SH.to2 jw_lmax) p l e R s m args below meth c Q G φ z d C0 S0 ad0 lim0 E (60, a, n, b, t, ms) i L S M κ r a1 a2 a3 ck h a6 a7 a8
  · exact (jb_SH.to2 jw_lmin) p l e R s m args below meth c Q G φ z d C0 S0 ad0 lim0 E (61, a, n, b, t, ms) i L S M κ r a1 a2 a3 ck h a6 a7 a8
  · have e : ja_h φ E (k + 62, a, n, b, t, ms) i L S M κ = none := by
      show ja_nth ja_hs (k + 62) jh_none φ E _ i L S M κ = none
      rw [ja_nth_out ja_hs (k + 62) jh_none (by show 62 ≤ _; omega)]
      rfl
    have h : ja_h φ E (k + 62, a, n, b, t, ms) i L S M κ = some r := h
    rw [e] at h
    cases h
theorem jb_I_mask {G : jb_G} {φ : Bool} {s : State} {nL C0 S0 : Nat} {ad0 : Nat → Nat} {lim0 : Nat} {ad : Nat → Nat} {M : ja_M} {H : Heap} {locs : List Loc} {L : ja_L} {ls : Array Slot} (bs : List Bool) (I : jb_I G φ s nL C0 S0 ad0 lim0 ad M H locs L ls) : jb_I G φ s nL C0 S0 ad0 lim0 ad M H locs (ja_mask bs L) ls := by
  obtain ⟨I1, ⟨I2, I3, I4⟩, I5⟩ := I
  refine ⟨I1, ⟨lv_less I2 (fun q hq => ?_), by rw [ja_mask_len]; exact I3, fun v hv => ?_⟩, I5⟩
  · obtain ⟨k, v, h1, rfl⟩ := jb_lv_mem _ _ _ hq
    exact jb_lv_of L 0 k v (ja_mask_get bs L k v h1)
  · obtain ⟨k, hk⟩ := List.getElem?_of_mem hv
    exact I4 v (List.mem_of_getElem? (ja_mask_get bs L k v hk))
theorem jb_walk (hpl : jb_SH2 jh_place jc_place) {p : Program} {l : Launch} {e : Env} {R : Room} {s : State} {m : MethodId} {args : Array Value} {below : List Frame} {meth : Method} {c : Code} {Q : State → Prop} {G : jb_G} {φ : Bool} {z d C0 S0 : Nat} {ad0 : Nat → Nat} {lim0 : Nat} {r : ja_R} (hck : ∀ i, i < (ja_code z).length → jc_row z i (ja_nth (ja_code z) i ja_row0) = true) (hz : z < 303)
    (a1 : jb_Fix p R s m args meth c G z d) (a2 : jb_EOK l G φ d (ja_x φ d)) (a3 : jb_Cap R C0 S0 r.2) (a7 : jb_Ret p l e R s m args below meth c Q G φ z C0 S0 ad0 lim0 r) (a8 : φ = true → lim0 ≤ ja_N0) : ∀ (n i : Nat) (L : ja_L) (S : List ja_V) (M : ja_M), ja_it φ (ja_x φ d) (ja_code z) n i L S M = some r → jb_Wat p l e R s m args below meth c Q G φ z C0 S0 ad0 lim0 i L S M
  | 0, _, _, _, _, h => by cases h
  | n + 1, i, L, S, M, h => by
    have h : ja_step φ (ja_x φ d) (ja_code z) (ja_it φ (ja_x φ d) (ja_code z) n) i L S M = some r := h
    rw [ja_step_eq] at h
    rcases Nat.lt_or_ge i (ja_code z).length with q | q
    · have w := jb_h hpl p l e R s m args below meth c Q G φ z d C0 S0 ad0 lim0 (ja_x φ d) (ja_nth (ja_code z) i ja_row0) i (ja_mask (ja_nth (ja_code z) i ja_row0).2.2.2.2.2 L) S M (ja_it φ (ja_x φ d) (ja_code z) n) r a1 a2 a3 (hck i q) h
        (fun i L S M h => ⟨jp_it φ (ja_x φ d) (jp_x φ d) (ja_code z) (jp_oks z hz) n i L S M r h, jb_walk hpl hck hz a1 a2 a3 a7 a8 n i L S M h⟩) a7 a8
      exact fun ad H locs ls I hS => w ad H locs ls (jb_I_mask _ I) hS
    · rw [ja_nth_out _ i _ q] at h
      cases h
theorem ja_pad_nil (n : Nat) : ja_pad n [] = List.replicate n none := by cases n <;> rfl
theorem ja_pad_len : ∀ (n : Nat) (L : ja_L), L.length ≤ n → (ja_pad n L).length = n
  | n, [], _ => by rw [ja_pad_nil]; simp
  | 0, _ :: _, h => by simp at h
  | n + 1, x :: L, h => by
    show (ja_pad n L).length + 1 = n + 1
    rw [ja_pad_len n L (by simpa using h)]
theorem jb_lv_rep (ad : Nat → Nat) : ∀ (n j : Nat), jb_lv ad j (List.replicate n none) = []
  | 0, _ => rfl
  | n + 1, j => jb_lv_rep ad n (j + 1)
theorem jb_lv_pad (ad : Nat → Nat) : ∀ (n : Nat) (L : ja_L) (j : Nat), L.length ≤ n → jb_lv ad j (ja_pad n L) = jb_lv ad j L
  | n, [], j, _ => by
    rw [ja_pad_nil]
    exact jb_lv_rep ad n j
  | 0, _ :: _, _, h => by simp at h
  | n + 1, none :: L, j, h => jb_lv_pad ad n L (j + 1) (by simpa using h)
  | n + 1, some v :: L, j, h => by
    show (j, jb_v ad v) :: jb_lv ad (j + 1) (ja_pad n L) = (j, jb_v ad v) :: jb_lv ad (j + 1) L
    rw [jb_lv_pad ad n L (j + 1) (by simpa using h)]
theorem jb_lv_arg (ad : Nat → Nat) : ∀ (as : List ja_V) (j : Nat), jb_lv ad j (ja_argL as) = lv_args j (as.map (jb_v ad))
  | [], _ => rfl
  | .inl x :: r, j => by
    show (j, jb_v ad (.inl x)) :: jb_lv ad (j + 1) (ja_argL r) = (j, jb_v ad (.inl x)) :: lv_args (if (jb_v ad (.inl x)).category = 2 then j + 2 else j + 1) (r.map (jb_v ad))
    rw [jb_lv_arg ad r (j + 1)]
    rfl
  | .inr (.inl x) :: r, j => by
    show (j, jb_v ad (.inr (.inl x))) :: jb_lv ad (j + 1 + 1) (ja_argL r) = (j, jb_v ad (.inr (.inl x))) :: lv_args (if (jb_v ad (.inr (.inl x))).category = 2 then j + 2 else j + 1) (r.map (jb_v ad))
    rw [jb_lv_arg ad r (j + 1 + 1)]
    rfl
  | .inr (.inr x) :: r, j => by
    show (j, jb_v ad (.inr (.inr x))) :: jb_lv ad (j + 1) (ja_argL r) = (j, jb_v ad (.inr (.inr x))) :: lv_args (if (jb_v ad (.inr (.inr x))).category = 2 then j + 2 else j + 1) (r.map (jb_v ad))
    rw [jb_lv_arg ad r (j + 1), jb_cat]
    rfl
theorem jb_sl_arg (ad : Nat → Nat) : ∀ as : List ja_V, (lg_sl (as.map (jb_v ad))).length = (ja_argL as).length
  | [] => rfl
  | v :: r => by
    have ih := jb_sl_arg ad r
    unfold lg_sl at ih ⊢
    rw [List.map_cons, List.flatMap_cons, List.length_append, ih, jb_cat]
    rcases v with x | x | x
    · show 1 + _ = _ + 1
      omega
    · show 2 + _ = _ + 1 + 1
      omega
    · show 1 + _ = _ + 1
      omega
theorem ja_argL_mem : ∀ (as : List ja_V) (v : ja_V), some v ∈ ja_argL as → v ∈ as
  | [], _, h => by cases h
  | .inl x :: r, v, h => by
    rcases List.mem_cons.mp h with q | q
    · cases q
      exact List.mem_cons_self
    · exact List.mem_cons_of_mem _ (ja_argL_mem r v q)
  | .inr (.inl x) :: r, v, h => by
    rcases List.mem_cons.mp h with q | q
    · cases q
      exact List.mem_cons_self
    · rcases List.mem_cons.mp q with q | q
      · cases q
      · exact List.mem_cons_of_mem _ (ja_argL_mem r v q)
  | .inr (.inr x) :: r, v, h => by
    rcases List.mem_cons.mp h with q | q
    · cases q
      exact List.mem_cons_self
    · exact List.mem_cons_of_mem _ (ja_argL_mem r v q)
theorem ja_pad_mem : ∀ (n : Nat) (L : ja_L) (v : ja_V), some v ∈ ja_pad n L → some v ∈ L
  | n, [], v, h => by
    rw [ja_pad_nil] at h
    have := (List.mem_replicate.mp h).2
    cases this
  | 0, _ :: _, _, h => h
  | n + 1, x :: L, v, h => by
    rcases List.mem_cons.mp h with q | q
    · rw [q]
      exact List.mem_cons_self
    · exact List.mem_cons_of_mem _ (ja_pad_mem n L v q)
theorem jm_pc0 : ∀ y, y < 303 → jm_pc y 0 = 0 := by decide +kernel
theorem jm_chks : ∀ y, y < jm_NM → jc_rows y 0 (ja_code y) = true := by
  intro y hy
  have hy : y < 302 := hy
  rcases Nat.lt_or_ge y 151 with q0 | q151
  · rcases Nat.lt_or_ge y 75 with q0 | q75
    · rcases Nat.lt_or_ge y 37 with q0 | q37
      · rcases Nat.lt_or_ge y 18 with q0 | q18
        · rcases Nat.lt_or_ge y 9 with q0 | q9
          · rcases Nat.lt_or_ge y 4 with q0 | q4
            · rcases Nat.lt_or_ge y 2 with q0 | q2
              · rcases Nat.lt_or_ge y 1 with q0 | q1
                · have e : y = 0 := by omega
                  subst e
                  exact jc_m0
                · have e : y = 1 := by omega
                  subst e
                  exact jc_m1
              · rcases Nat.lt_or_ge y 3 with q2 | q3
                · have e : y = 2 := by omega
                  subst e
                  exact jc_m2
                · have e : y = 3 := by omega
                  subst e
                  exact jc_m3
            · rcases Nat.lt_or_ge y 6 with q4 | q6
              · rcases Nat.lt_or_ge y 5 with q4 | q5
                · have e : y = 4 := by omega
                  subst e
                  exact jc_m4
                · have e : y = 5 := by omega
                  subst e
                  exact jc_m5
              · rcases Nat.lt_or_ge y 7 with q6 | q7
                · have e : y = 6 := by omega
                  subst e
                  exact jc_m6
                · rcases Nat.lt_or_ge y 8 with q7 | q8
                  · have e : y = 7 := by omega
                    subst e
                    exact jc_m7
                  · have e : y = 8 := by omega
                    subst e
                    exact jc_m8
          · rcases Nat.lt_or_ge y 13 with q9 | q13
            · rcases Nat.lt_or_ge y 11 with q9 | q11
              · rcases Nat.lt_or_ge y 10 with q9 | q10
                · have e : y = 9 := by omega
                  subst e
                  exact jc_m9
                · have e : y = 10 := by omega
                  subst e
                  exact jc_m10
              · rcases Nat.lt_or_ge y 12 with q11 | q12
                · have e : y = 11 := by omega
                  subst e
                  exact jc_m11
                · have e : y = 12 := by omega
                  subst e
                  exact jc_m12
            · rcases Nat.lt_or_ge y 15 with q13 | q15
              · rcases Nat.lt_or_ge y 14 with q13 | q14
                · have e : y = 13 := by omega
                  subst e
                  exact jc_m13
                · have e : y = 14 := by omega
                  subst e
                  exact jc_m14
              · rcases Nat.lt_or_ge y 16 with q15 | q16
                · have e : y = 15 := by omega
                  subst e
                  exact jc_m15
                · rcases Nat.lt_or_ge y 17 with q16 | q17
                  · have e : y = 16 := by omega
                    subst e
                    exact jc_m16
                  · have e : y = 17 := by omega
                    subst e
                    exact jc_m17
        · rcases Nat.lt_or_ge y 27 with q18 | q27
          · rcases Nat.lt_or_ge y 22 with q18 | q22
            · rcases Nat.lt_or_ge y 20 with q18 | q20
              · rcases Nat.lt_or_ge y 19 with q18 | q19
                · have e : y = 18 := by omega
                  subst e
                  exact jc_m18
                · have e : y = 19 := by omega
                  subst e
                  exact jc_m19
              · rcases Nat.lt_or_ge y 21 with q20 | q21
                · have e : y = 20 := by omega
                  subst e
                  exact jc_m20
                · have e : y = 21 := by omega
                  subst e
                  exact jc_m21
            · rcases Nat.lt_or_ge y 24 with q22 | q24
              · rcases Nat.lt_or_ge y 23 with q22 | q23
                · have e : y = 22 := by omega
                  subst e
                  exact jc_m22
                · have e : y = 23 := by omega
                  subst e
                  exact jc_m23
              · rcases Nat.lt_or_ge y 25 with q24 | q25
                · have e : y = 24 := by omega
                  subst e
                  exact jc_m24
                · rcases Nat.lt_or_ge y 26 with q25 | q26
                  · have e : y = 25 := by omega
                    subst e
                    exact jc_m25
                  · have e : y = 26 := by omega
                    subst e
                    exact jc_m26
          · rcases Nat.lt_or_ge y 32 with q27 | q32
            · rcases Nat.lt_or_ge y 29 with q27 | q29
              · rcases Nat.lt_or_ge y 28 with q27 | q28
                · have e : y = 27 := by omega
                  subst e
                  exact jc_m27
                · have e : y = 28 := by omega
                  subst e
                  exact jc_m28
              · rcases Nat.lt_or_ge y 30 with q29 | q30
                · have e : y = 29 := by omega
                  subst e
                  exact jc_m29
                · rcases Nat.lt_or_ge y 31 with q30 | q31
                  · have e : y = 30 := by omega
                    subst e
                    exact jc_m30
                  · have e : y = 31 := by omega
                    subst e
                    exact jc_m31
            · rcases Nat.lt_or_ge y 34 with q32 | q34
              · rcases Nat.lt_or_ge y 33 with q32 | q33
                · have e : y = 32 := by omega
                  subst e
                  exact jc_m32
                · have e : y = 33 := by omega
                  subst e
                  exact jc_m33
              · rcases Nat.lt_or_ge y 35 with q34 | q35
                · have e : y = 34 := by omega
                  subst e
                  exact jc_m34
                · rcases Nat.lt_or_ge y 36 with q35 | q36
                  · have e : y = 35 := by omega
                    subst e
                    exact jc_m35
                  · have e : y = 36 := by omega
                    subst e
                    exact jc_m36
      · rcases Nat.lt_or_ge y 56 with q37 | q56
        · rcases Nat.lt_or_ge y 46 with q37 | q46
          · rcases Nat.lt_or_ge y 41 with q37 | q41
            · rcases Nat.lt_or_ge y 39 with q37 | q39
              · rcases Nat.lt_or_ge y 38 with q37 | q38
                · have e : y = 37 := by omega
                  subst e
                  exact jc_m37
                · have e : y = 38 := by omega
                  subst e
                  exact jc_m38
              · rcases Nat.lt_or_ge y 40 with q39 | q40
                · have e : y = 39 := by omega
                  subst e
                  exact jc_m39
                · have e : y = 40 := by omega
                  subst e
                  exact jc_m40
            · rcases Nat.lt_or_ge y 43 with q41 | q43
              · rcases Nat.lt_or_ge y 42 with q41 | q42
                · have e : y = 41 := by omega
                  subst e
                  exact jc_m41
                · have e : y = 42 := by omega
                  subst e
                  exact jc_m42
              · rcases Nat.lt_or_ge y 44 with q43 | q44
                · have e : y = 43 := by omega
                  subst e
                  exact jc_m43
                · rcases Nat.lt_or_ge y 45 with q44 | q45
                  · have e : y = 44 := by omega
                    subst e
                    exact jc_m44
                  · have e : y = 45 := by omega
                    subst e
                    exact jc_m45
          · rcases Nat.lt_or_ge y 51 with q46 | q51
            · rcases Nat.lt_or_ge y 48 with q46 | q48
              · rcases Nat.lt_or_ge y 47 with q46 | q47
                · have e : y = 46 := by omega
                  subst e
                  exact jc_m46
                · have e : y = 47 := by omega
                  subst e
                  exact jc_m47
              · rcases Nat.lt_or_ge y 49 with q48 | q49
                · have e : y = 48 := by omega
                  subst e
                  exact jc_m48
                · rcases Nat.lt_or_ge y 50 with q49 | q50
                  · have e : y = 49 := by omega
                    subst e
                    exact jc_m49
                  · have e : y = 50 := by omega
                    subst e
                    exact jc_m50
            · rcases Nat.lt_or_ge y 53 with q51 | q53
              · rcases Nat.lt_or_ge y 52 with q51 | q52
                · have e : y = 51 := by omega
                  subst e
                  exact jc_m51
                · have e : y = 52 := by omega
                  subst e
                  exact jc_m52
              · rcases Nat.lt_or_ge y 54 with q53 | q54
                · have e : y = 53 := by omega
                  subst e
                  exact jc_m53
                · rcases Nat.lt_or_ge y 55 with q54 | q55
                  · have e : y = 54 := by omega
                    subst e
                    exact jc_m54
                  · have e : y = 55 := by omega
                    subst e
                    exact jc_m55
        · rcases Nat.lt_or_ge y 65 with q56 | q65
          · rcases Nat.lt_or_ge y 60 with q56 | q60
            · rcases Nat.lt_or_ge y 58 with q56 | q58
              · rcases Nat.lt_or_ge y 57 with q56 | q57
                · have e : y = 56 := by omega
                  subst e
                  exact jc_m56
                · have e : y = 57 := by omega
                  subst e
                  exact jc_m57
              · rcases Nat.lt_or_ge y 59 with q58 | q59
                · have e : y = 58 := by omega
                  subst e
                  exact jc_m58
                · have e : y = 59 := by omega
                  subst e
                  exact jc_m59
            · rcases Nat.lt_or_ge y 62 with q60 | q62
              · rcases Nat.lt_or_ge y 61 with q60 | q61
                · have e : y = 60 := by omega
                  subst e
                  exact jc_m60
                · have e : y = 61 := by omega
                  subst e
                  exact jc_m61
              · rcases Nat.lt_or_ge y 63 with q62 | q63
                · have e : y = 62 := by omega
                  subst e
                  exact jc_m62
                · rcases Nat.lt_or_ge y 64 with q63 | q64
                  · have e : y = 63 := by omega
                    subst e
                    exact jc_m63
                  · have e : y = 64 := by omega
                    subst e
                    exact jc_m64
          · rcases Nat.lt_or_ge y 70 with q65 | q70
            · rcases Nat.lt_or_ge y 67 with q65 | q67
              · rcases Nat.lt_or_ge y 66 with q65 | q66
                · have e : y = 65 := by omega
                  subst e
                  exact jc_m65
                · have e : y = 66 := by omega
                  subst e
                  exact jc_m66
              · rcases Nat.lt_or_ge y 68 with q67 | q68
                · have e : y = 67 := by omega
                  subst e
                  exact jc_m67
                · rcases Nat.lt_or_ge y 69 with q68 | q69
                  · have e : y = 68 := by omega
                    subst e
                    exact jc_m68
                  · have e : y = 69 := by omega
                    subst e
                    exact jc_m69
            · rcases Nat.lt_or_ge y 72 with q70 | q72
              · rcases Nat.lt_or_ge y 71 with q70 | q71
                · have e : y = 70 := by omega
                  subst e
                  exact jc_m70
                · have e : y = 71 := by omega
                  subst e
                  exact jc_m71
              · rcases Nat.lt_or_ge y 73 with q72 | q73
                · have e : y = 72 := by omega
                  subst e
                  exact jc_m72
                · rcases Nat.lt_or_ge y 74 with q73 | q74
                  · have e : y = 73 := by omega
                    subst e
                    exact jc_m73
                  · have e : y = 74 := by omega
                    subst e
                    exact jc_m74
    · rcases Nat.lt_or_ge y 113 with q75 | q113
      · rcases Nat.lt_or_ge y 94 with q75 | q94
        · rcases Nat.lt_or_ge y 84 with q75 | q84
          · rcases Nat.lt_or_ge y 79 with q75 | q79
            · rcases Nat.lt_or_ge y 77 with q75 | q77
              · rcases Nat.lt_or_ge y 76 with q75 | q76
                · have e : y = 75 := by omega
                  subst e
                  exact jc_m75
                · have e : y = 76 := by omega
                  subst e
                  exact jc_m76
              · rcases Nat.lt_or_ge y 78 with q77 | q78
                · have e : y = 77 := by omega
                  subst e
                  exact jc_m77
                · have e : y = 78 := by omega
                  subst e
                  exact jc_m78
            · rcases Nat.lt_or_ge y 81 with q79 | q81
              · rcases Nat.lt_or_ge y 80 with q79 | q80
                · have e : y = 79 := by omega
                  subst e
                  exact jc_m79
                · have e : y = 80 := by omega
                  subst e
                  exact jc_m80
              · rcases Nat.lt_or_ge y 82 with q81 | q82
                · have e : y = 81 := by omega
                  subst e
                  exact jc_m81
                · rcases Nat.lt_or_ge y 83 with q82 | q83
                  · have e : y = 82 := by omega
                    subst e
                    exact jc_m82
                  · have e : y = 83 := by omega
                    subst e
                    exact jc_m83
          · rcases Nat.lt_or_ge y 89 with q84 | q89
            · rcases Nat.lt_or_ge y 86 with q84 | q86
              · rcases Nat.lt_or_ge y 85 with q84 | q85
                · have e : y = 84 := by omega
                  subst e
                  exact jc_m84
                · have e : y = 85 := by omega
                  subst e
                  exact jc_m85
              · rcases Nat.lt_or_ge y 87 with q86 | q87
                · have e : y = 86 := by omega
                  subst e
                  exact jc_m86
                · rcases Nat.lt_or_ge y 88 with q87 | q88
                  · have e : y = 87 := by omega
                    subst e
                    exact jc_m87
                  · have e : y = 88 := by omega
                    subst e
                    exact jc_m88
            · rcases Nat.lt_or_ge y 91 with q89 | q91
              · rcases Nat.lt_or_ge y 90 with q89 | q90
                · have e : y = 89 := by omega
                  subst e
                  exact jc_m89
                · have e : y = 90 := by omega
                  subst e
                  exact jc_m90
              · rcases Nat.lt_or_ge y 92 with q91 | q92
                · have e : y = 91 := by omega
                  subst e
                  exact jc_m91
                · rcases Nat.lt_or_ge y 93 with q92 | q93
                  · have e : y = 92 := by omega
                    subst e
                    exact jc_m92
                  · have e : y = 93 := by omega
                    subst e
                    exact jc_m93
        · rcases Nat.lt_or_ge y 103 with q94 | q103
          · rcases Nat.lt_or_ge y 98 with q94 | q98
            · rcases Nat.lt_or_ge y 96 with q94 | q96
              · rcases Nat.lt_or_ge y 95 with q94 | q95
                · have e : y = 94 := by omega
                  subst e
                  exact jc_m94
                · have e : y = 95 := by omega
                  subst e
                  exact jc_m95
              · rcases Nat.lt_or_ge y 97 with q96 | q97
                · have e : y = 96 := by omega
                  subst e
                  exact jc_m96
                · have e : y = 97 := by omega
                  subst e
                  exact jc_m97
            · rcases Nat.lt_or_ge y 100 with q98 | q100
              · rcases Nat.lt_or_ge y 99 with q98 | q99
                · have e : y = 98 := by omega
                  subst e
                  exact jc_m98
                · have e : y = 99 := by omega
                  subst e
                  exact jc_m99
              · rcases Nat.lt_or_ge y 101 with q100 | q101
                · have e : y = 100 := by omega
                  subst e
                  exact jc_m100
                · rcases Nat.lt_or_ge y 102 with q101 | q102
                  · have e : y = 101 := by omega
                    subst e
                    exact jc_m101
                  · have e : y = 102 := by omega
                    subst e
                    exact jc_m102
          · rcases Nat.lt_or_ge y 108 with q103 | q108
            · rcases Nat.lt_or_ge y 105 with q103 | q105
              · rcases Nat.lt_or_ge y 104 with q103 | q104
                · have e : y = 103 := by omega
                  subst e
                  exact jc_m103
                · have e : y = 104 := by omega
                  subst e
                  exact jc_m104
              · rcases Nat.lt_or_ge y 106 with q105 | q106
                · have e : y = 105 := by omega
                  subst e
                  exact jc_m105
                · rcases Nat.lt_or_ge y 107 with q106 | q107
                  · have e : y = 106 := by omega
                    subst e
                    exact jc_m106
                  · have e : y = 107 := by omega
                    subst e
                    exact jc_m107
            · rcases Nat.lt_or_ge y 110 with q108 | q110
              · rcases Nat.lt_or_ge y 109 with q108 | q109
                · have e : y = 108 := by omega
                  subst e
                  exact jc_m108
                · have e : y = 109 := by omega
                  subst e
                  exact jc_m109
              · rcases Nat.lt_or_ge y 111 with q110 | q111
                · have e : y = 110 := by omega
                  subst e
                  exact jc_m110
                · rcases Nat.lt_or_ge y 112 with q111 | q112
                  · have e : y = 111 := by omega
                    subst e
                    exact jc_m111
                  · have e : y = 112 := by omega
                    subst e
                    exact jc_m112
      · rcases Nat.lt_or_ge y 132 with q113 | q132
        · rcases Nat.lt_or_ge y 122 with q113 | q122
          · rcases Nat.lt_or_ge y 117 with q113 | q117
            · rcases Nat.lt_or_ge y 115 with q113 | q115
              · rcases Nat.lt_or_ge y 114 with q113 | q114
                · have e : y = 113 := by omega
                  subst e
                  exact jc_m113
                · have e : y = 114 := by omega
                  subst e
                  exact jc_m114
              · rcases Nat.lt_or_ge y 116 with q115 | q116
                · have e : y = 115 := by omega
                  subst e
                  exact jc_m115
                · have e : y = 116 := by omega
                  subst e
                  exact jc_m116
            · rcases Nat.lt_or_ge y 119 with q117 | q119
              · rcases Nat.lt_or_ge y 118 with q117 | q118
                · have e : y = 117 := by omega
                  subst e
                  exact jc_m117
                · have e : y = 118 := by omega
                  subst e
                  exact jc_m118
              · rcases Nat.lt_or_ge y 120 with q119 | q120
                · have e : y = 119 := by omega
                  subst e
                  exact jc_m119
                · rcases Nat.lt_or_ge y 121 with q120 | q121
                  · have e : y = 120 := by omega
                    subst e
                    exact jc_m120
                  · have e : y = 121 := by omega
                    subst e
                    exact jc_m121
          · rcases Nat.lt_or_ge y 127 with q122 | q127
            · rcases Nat.lt_or_ge y 124 with q122 | q124
              · rcases Nat.lt_or_ge y 123 with q122 | q123
                · have e : y = 122 := by omega
                  subst e
                  exact jc_m122
                · have e : y = 123 := by omega
                  subst e
                  exact jc_m123
              · rcases Nat.lt_or_ge y 125 with q124 | q125
                · have e : y = 124 := by omega
                  subst e
                  exact jc_m124
                · rcases Nat.lt_or_ge y 126 with q125 | q126
                  · have e : y = 125 := by omega
                    subst e
                    exact jc_m125
                  · have e : y = 126 := by omega
                    subst e
                    exact jc_m126
            · rcases Nat.lt_or_ge y 129 with q127 | q129
              · rcases Nat.lt_or_ge y 128 with q127 | q128
                · have e : y = 127 := by omega
                  subst e
                  exact jc_m127
                · have e : y = 128 := by omega
                  subst e
                  exact jc_m128
              · rcases Nat.lt_or_ge y 130 with q129 | q130
                · have e : y = 129 := by omega
                  subst e
                  exact jc_m129
                · rcases Nat.lt_or_ge y 131 with q130 | q131
                  · have e : y = 130 := by omega
                    subst e
                    exact jc_m130
                  · have e : y = 131 := by omega
                    subst e
                    exact jc_m131
        · rcases Nat.lt_or_ge y 141 with q132 | q141
          · rcases Nat.lt_or_ge y 136 with q132 | q136
            · rcases Nat.lt_or_ge y 134 with q132 | q134
              · rcases Nat.lt_or_ge y 133 with q132 | q133
                · have e : y = 132 := by omega
                  subst e
                  exact jc_m132
                · have e : y = 133 := by omega
                  subst e
                  exact jc_m133
              · rcases Nat.lt_or_ge y 135 with q134 | q135
                · have e : y = 134 := by omega
                  subst e
                  exact jc_m134
                · have e : y = 135 := by omega
                  subst e
                  exact jc_m135
            · rcases Nat.lt_or_ge y 138 with q136 | q138
              · rcases Nat.lt_or_ge y 137 with q136 | q137
                · have e : y = 136 := by omega
                  subst e
                  exact jc_m136
                · have e : y = 137 := by omega
                  subst e
                  exact jc_m137
              · rcases Nat.lt_or_ge y 139 with q138 | q139
                · have e : y = 138 := by omega
                  subst e
                  exact jc_m138
                · rcases Nat.lt_or_ge y 140 with q139 | q140
                  · have e : y = 139 := by omega
                    subst e
                    exact jc_m139
                  · have e : y = 140 := by omega
                    subst e
                    exact jc_m140
          · rcases Nat.lt_or_ge y 146 with q141 | q146
            · rcases Nat.lt_or_ge y 143 with q141 | q143
              · rcases Nat.lt_or_ge y 142 with q141 | q142
                · have e : y = 141 := by omega
                  subst e
                  exact jc_m141
                · have e : y = 142 := by omega
                  subst e
                  exact jc_m142
              · rcases Nat.lt_or_ge y 144 with q143 | q144
                · have e : y = 143 := by omega
                  subst e
                  exact jc_m143
                · rcases Nat.lt_or_ge y 145 with q144 | q145
                  · have e : y = 144 := by omega
                    subst e
                    exact jc_m144
                  · have e : y = 145 := by omega
                    subst e
                    exact jc_m145
            · rcases Nat.lt_or_ge y 148 with q146 | q148
              · rcases Nat.lt_or_ge y 147 with q146 | q147
                · have e : y = 146 := by omega
                  subst e
                  exact jc_m146
                · have e : y = 147 := by omega
                  subst e
                  exact jc_m147
              · rcases Nat.lt_or_ge y 149 with q148 | q149
                · have e : y = 148 := by omega
                  subst e
                  exact jc_m148
                · rcases Nat.lt_or_ge y 150 with q149 | q150
                  · have e : y = 149 := by omega
                    subst e
                    exact jc_m149
                  · have e : y = 150 := by omega
                    subst e
                    exact jc_m150
  · rcases Nat.lt_or_ge y 226 with q151 | q226
    · rcases Nat.lt_or_ge y 188 with q151 | q188
      · rcases Nat.lt_or_ge y 169 with q151 | q169
        · rcases Nat.lt_or_ge y 160 with q151 | q160
          · rcases Nat.lt_or_ge y 155 with q151 | q155
            · rcases Nat.lt_or_ge y 153 with q151 | q153
              · rcases Nat.lt_or_ge y 152 with q151 | q152
                · have e : y = 151 := by omega
                  subst e
                  exact jc_m151
                · have e : y = 152 := by omega
                  subst e
                  exact jc_m152
              · rcases Nat.lt_or_ge y 154 with q153 | q154
                · have e : y = 153 := by omega
                  subst e
                  exact jc_m153
                · have e : y = 154 := by omega
                  subst e
                  exact jc_m154
            · rcases Nat.lt_or_ge y 157 with q155 | q157
              · rcases Nat.lt_or_ge y 156 with q155 | q156
                · have e : y = 155 := by omega
                  subst e
                  exact jc_m155
                · have e : y = 156 := by omega
                  subst e
                  exact jc_m156
              · rcases Nat.lt_or_ge y 158 with q157 | q158
                · have e : y = 157 := by omega
                  subst e
                  exact jc_m157
                · rcases Nat.lt_or_ge y 159 with q158 | q159
                  · have e : y = 158 := by omega
                    subst e
                    exact jc_m158
                  · have e : y = 159 := by omega
                    subst e
                    exact jc_m159
          · rcases Nat.lt_or_ge y 164 with q160 | q164
            · rcases Nat.lt_or_ge y 162 with q160 | q162
              · rcases Nat.lt_or_ge y 161 with q160 | q161
                · have e : y = 160 := by omega
                  subst e
                  exact jc_m160
                · have e : y = 161 := by omega
                  subst e
                  exact jc_m161
              · rcases Nat.lt_or_ge y 163 with q162 | q163
                · have e : y = 162 := by omega
                  subst e
                  exact jc_m162
                · have e : y = 163 := by omega
                  subst e
                  exact jc_m163
            · rcases Nat.lt_or_ge y 166 with q164 | q166
              · rcases Nat.lt_or_ge y 165 with q164 | q165
                · have e : y = 164 := by omega
                  subst e
                  exact jc_m164
                · have e : y = 165 := by omega
                  subst e
                  exact jc_m165
              · rcases Nat.lt_or_ge y 167 with q166 | q167
                · have e : y = 166 := by omega
                  subst e
                  exact jc_m166
                · rcases Nat.lt_or_ge y 168 with q167 | q168
                  · have e : y = 167 := by omega
                    subst e
                    exact jc_m167
                  · have e : y = 168 := by omega
                    subst e
                    exact jc_m168
        · rcases Nat.lt_or_ge y 178 with q169 | q178
          · rcases Nat.lt_or_ge y 173 with q169 | q173
            · rcases Nat.lt_or_ge y 171 with q169 | q171
              · rcases Nat.lt_or_ge y 170 with q169 | q170
                · have e : y = 169 := by omega
                  subst e
                  exact jc_m169
                · have e : y = 170 := by omega
                  subst e
                  exact jc_m170
              · rcases Nat.lt_or_ge y 172 with q171 | q172
                · have e : y = 171 := by omega
                  subst e
                  exact jc_m171
                · have e : y = 172 := by omega
                  subst e
                  exact jc_m172
            · rcases Nat.lt_or_ge y 175 with q173 | q175
              · rcases Nat.lt_or_ge y 174 with q173 | q174
                · have e : y = 173 := by omega
                  subst e
                  exact jc_m173
                · have e : y = 174 := by omega
                  subst e
                  exact jc_m174
              · rcases Nat.lt_or_ge y 176 with q175 | q176
                · have e : y = 175 := by omega
                  subst e
                  exact jc_m175
                · rcases Nat.lt_or_ge y 177 with q176 | q177
                  · have e : y = 176 := by omega
                    subst e
                    exact jc_m176
                  · have e : y = 177 := by omega
                    subst e
                    exact jc_m177
          · rcases Nat.lt_or_ge y 183 with q178 | q183
            · rcases Nat.lt_or_ge y 180 with q178 | q180
              · rcases Nat.lt_or_ge y 179 with q178 | q179
                · have e : y = 178 := by omega
                  subst e
                  exact jc_m178
                · have e : y = 179 := by omega
                  subst e
                  exact jc_m179
              · rcases Nat.lt_or_ge y 181 with q180 | q181
                · have e : y = 180 := by omega
                  subst e
                  exact jc_m180
                · rcases Nat.lt_or_ge y 182 with q181 | q182
                  · have e : y = 181 := by omega
                    subst e
                    exact jc_m181
                  · have e : y = 182 := by omega
                    subst e
                    exact jc_m182
            · rcases Nat.lt_or_ge y 185 with q183 | q185
              · rcases Nat.lt_or_ge y 184 with q183 | q184
                · have e : y = 183 := by omega
                  subst e
                  exact jc_m183
                · have e : y = 184 := by omega
                  subst e
                  exact jc_m184
              · rcases Nat.lt_or_ge y 186 with q185 | q186
                · have e : y = 185 := by omega
                  subst e
                  exact jc_m185
                · rcases Nat.lt_or_ge y 187 with q186 | q187
                  · have e : y = 186 := by omega
                    subst e
                    exact jc_m186
                  · have e : y = 187 := by omega
                    subst e
                    exact jc_m187
      · rcases Nat.lt_or_ge y 207 with q188 | q207
        · rcases Nat.lt_or_ge y 197 with q188 | q197
          · rcases Nat.lt_or_ge y 192 with q188 | q192
            · rcases Nat.lt_or_ge y 190 with q188 | q190
              · rcases Nat.lt_or_ge y 189 with q188 | q189
                · have e : y = 188 := by omega
                  subst e
                  exact jc_m188
                · have e : y = 189 := by omega
                  subst e
                  exact jc_m189
              · rcases Nat.lt_or_ge y 191 with q190 | q191
                · have e : y = 190 := by omega
                  subst e
                  exact jc_m190
                · have e : y = 191 := by omega
                  subst e
                  exact jc_m191
            · rcases Nat.lt_or_ge y 194 with q192 | q194
              · rcases Nat.lt_or_ge y 193 with q192 | q193
                · have e : y = 192 := by omega
                  subst e
                  exact jc_m192
                · have e : y = 193 := by omega
                  subst e
                  exact jc_m193
              · rcases Nat.lt_or_ge y 195 with q194 | q195
                · have e : y = 194 := by omega
                  subst e
                  exact jc_m194
                · rcases Nat.lt_or_ge y 196 with q195 | q196
                  · have e : y = 195 := by omega
                    subst e
                    exact jc_m195
                  · have e : y = 196 := by omega
                    subst e
                    exact jc_m196
          · rcases Nat.lt_or_ge y 202 with q197 | q202
            · rcases Nat.lt_or_ge y 199 with q197 | q199
              · rcases Nat.lt_or_ge y 198 with q197 | q198
                · have e : y = 197 := by omega
                  subst e
                  exact jc_m197
                · have e : y = 198 := by omega
                  subst e
                  exact jc_m198
              · rcases Nat.lt_or_ge y 200 with q199 | q200
                · have e : y = 199 := by omega
                  subst e
                  exact jc_m199
                · rcases Nat.lt_or_ge y 201 with q200 | q201
                  · have e : y = 200 := by omega
                    subst e
                    exact jc_m200
                  · have e : y = 201 := by omega
                    subst e
                    exact jc_m201
            · rcases Nat.lt_or_ge y 204 with q202 | q204
              · rcases Nat.lt_or_ge y 203 with q202 | q203
                · have e : y = 202 := by omega
                  subst e
                  exact jc_m202
                · have e : y = 203 := by omega
                  subst e
                  exact jc_m203
              · rcases Nat.lt_or_ge y 205 with q204 | q205
                · have e : y = 204 := by omega
                  subst e
                  exact jc_m204
                · rcases Nat.lt_or_ge y 206 with q205 | q206
                  · have e : y = 205 := by omega
                    subst e
                    exact jc_m205
                  · have e : y = 206 := by omega
                    subst e
                    exact jc_m206
        · rcases Nat.lt_or_ge y 216 with q207 | q216
          · rcases Nat.lt_or_ge y 211 with q207 | q211
            · rcases Nat.lt_or_ge y 209 with q207 | q209
              · rcases Nat.lt_or_ge y 208 with q207 | q208
                · have e : y = 207 := by omega
                  subst e
                  exact jc_m207
                · have e : y = 208 := by omega
                  subst e
                  exact jc_m208
              · rcases Nat.lt_or_ge y 210 with q209 | q210
                · have e : y = 209 := by omega
                  subst e
                  exact jc_m209
                · have e : y = 210 := by omega
                  subst e
                  exact jc_m210
            · rcases Nat.lt_or_ge y 213 with q211 | q213
              · rcases Nat.lt_or_ge y 212 with q211 | q212
                · have e : y = 211 := by omega
                  subst e
                  exact jc_m211
                · have e : y = 212 := by omega
                  subst e
                  exact jc_m212
              · rcases Nat.lt_or_ge y 214 with q213 | q214
                · have e : y = 213 := by omega
                  subst e
                  exact jc_m213
                · rcases Nat.lt_or_ge y 215 with q214 | q215
                  · have e : y = 214 := by omega
                    subst e
                    exact jc_m214
                  · have e : y = 215 := by omega
                    subst e
                    exact jc_m215
          · rcases Nat.lt_or_ge y 221 with q216 | q221
            · rcases Nat.lt_or_ge y 218 with q216 | q218
              · rcases Nat.lt_or_ge y 217 with q216 | q217
                · have e : y = 216 := by omega
                  subst e
                  exact jc_m216
                · have e : y = 217 := by omega
                  subst e
                  exact jc_m217
              · rcases Nat.lt_or_ge y 219 with q218 | q219
                · have e : y = 218 := by omega
                  subst e
                  exact jc_m218
                · rcases Nat.lt_or_ge y 220 with q219 | q220
                  · have e : y = 219 := by omega
                    subst e
                    exact jc_m219
                  · have e : y = 220 := by omega
                    subst e
                    exact jc_m220
            · rcases Nat.lt_or_ge y 223 with q221 | q223
              · rcases Nat.lt_or_ge y 222 with q221 | q222
                · have e : y = 221 := by omega
                  subst e
                  exact jc_m221
                · have e : y = 222 := by omega
                  subst e
                  exact jc_m222
              · rcases Nat.lt_or_ge y 224 with q223 | q224
                · have e : y = 223 := by omega
                  subst e
                  exact jc_m223
                · rcases Nat.lt_or_ge y 225 with q224 | q225
                  · have e : y = 224 := by omega
                    subst e
                    exact jc_m224
                  · have e : y = 225 := by omega
                    subst e
                    exact jc_m225
    · rcases Nat.lt_or_ge y 264 with q226 | q264
      · rcases Nat.lt_or_ge y 245 with q226 | q245
        · rcases Nat.lt_or_ge y 235 with q226 | q235
          · rcases Nat.lt_or_ge y 230 with q226 | q230
            · rcases Nat.lt_or_ge y 228 with q226 | q228
              · rcases Nat.lt_or_ge y 227 with q226 | q227
                · have e : y = 226 := by omega
                  subst e
                  exact jc_m226
                · have e : y = 227 := by omega
                  subst e
                  exact jc_m227
              · rcases Nat.lt_or_ge y 229 with q228 | q229
                · have e : y = 228 := by omega
                  subst e
                  exact jc_m228
                · have e : y = 229 := by omega
                  subst e
                  exact jc_m229
            · rcases Nat.lt_or_ge y 232 with q230 | q232
              · rcases Nat.lt_or_ge y 231 with q230 | q231
                · have e : y = 230 := by omega
                  subst e
                  exact jc_m230
                · have e : y = 231 := by omega
                  subst e
                  exact jc_m231
              · rcases Nat.lt_or_ge y 233 with q232 | q233
                · have e : y = 232 := by omega
                  subst e
                  exact jc_m232
                · rcases Nat.lt_or_ge y 234 with q233 | q234
                  · have e : y = 233 := by omega
                    subst e
                    exact jc_m233
                  · have e : y = 234 := by omega
                    subst e
                    exact jc_m234
          · rcases Nat.lt_or_ge y 240 with q235 | q240
            · rcases Nat.lt_or_ge y 237 with q235 | q237
              · rcases Nat.lt_or_ge y 236 with q235 | q236
                · have e : y = 235 := by omega
                  subst e
                  exact jc_m235
                · have e : y = 236 := by omega
                  subst e
                  exact jc_m236
              · rcases Nat.lt_or_ge y 238 with q237 | q238
                · have e : y = 237 := by omega
                  subst e
                  exact jc_m237
                · rcases Nat.lt_or_ge y 239 with q238 | q239
                  · have e : y = 238 := by omega
                    subst e
                    exact jc_m238
                  · have e : y = 239 := by omega
                    subst e
                    exact jc_m239
            · rcases Nat.lt_or_ge y 242 with q240 | q242
              · rcases Nat.lt_or_ge y 241 with q240 | q241
                · have e : y = 240 := by omega
                  subst e
                  exact jc_m240
                · have e : y = 241 := by omega
                  subst e
                  exact jc_m241
              · rcases Nat.lt_or_ge y 243 with q242 | q243
                · have e : y = 242 := by omega
                  subst e
                  exact jc_m242
                · rcases Nat.lt_or_ge y 244 with q243 | q244
                  · have e : y = 243 := by omega
                    subst e
                    exact jc_m243
                  · have e : y = 244 := by omega
                    subst e
                    exact jc_m244
        · rcases Nat.lt_or_ge y 254 with q245 | q254
          · rcases Nat.lt_or_ge y 249 with q245 | q249
            · rcases Nat.lt_or_ge y 247 with q245 | q247
              · rcases Nat.lt_or_ge y 246 with q245 | q246
                · have e : y = 245 := by omega
                  subst e
                  exact jc_m245
                · have e : y = 246 := by omega
                  subst e
                  exact jc_m246
              · rcases Nat.lt_or_ge y 248 with q247 | q248
                · have e : y = 247 := by omega
                  subst e
                  exact jc_m247
                · have e : y = 248 := by omega
                  subst e
                  exact jc_m248
            · rcases Nat.lt_or_ge y 251 with q249 | q251
              · rcases Nat.lt_or_ge y 250 with q249 | q250
                · have e : y = 249 := by omega
                  subst e
                  exact jc_m249
                · have e : y = 250 := by omega
                  subst e
                  exact jc_m250
              · rcases Nat.lt_or_ge y 252 with q251 | q252
                · have e : y = 251 := by omega
                  subst e
                  exact jc_m251
                · rcases Nat.lt_or_ge y 253 with q252 | q253
                  · have e : y = 252 := by omega
                    subst e
                    exact jc_m252
                  · have e : y = 253 := by omega
                    subst e
                    exact jc_m253
          · rcases Nat.lt_or_ge y 259 with q254 | q259
            · rcases Nat.lt_or_ge y 256 with q254 | q256
              · rcases Nat.lt_or_ge y 255 with q254 | q255
                · have e : y = 254 := by omega
                  subst e
                  exact jc_m254
                · have e : y = 255 := by omega
                  subst e
                  exact jc_m255
              · rcases Nat.lt_or_ge y 257 with q256 | q257
                · have e : y = 256 := by omega
                  subst e
                  exact jc_m256
                · rcases Nat.lt_or_ge y 258 with q257 | q258
                  · have e : y = 257 := by omega
                    subst e
                    exact jc_m257
                  · have e : y = 258 := by omega
                    subst e
                    exact jc_m258
            · rcases Nat.lt_or_ge y 261 with q259 | q261
              · rcases Nat.lt_or_ge y 260 with q259 | q260
                · have e : y = 259 := by omega
                  subst e
                  exact jc_m259
                · have e : y = 260 := by omega
                  subst e
                  exact jc_m260
              · rcases Nat.lt_or_ge y 262 with q261 | q262
                · have e : y = 261 := by omega
                  subst e
                  exact jc_m261
                · rcases Nat.lt_or_ge y 263 with q262 | q263
                  · have e : y = 262 := by omega
                    subst e
                    exact jc_m262
                  · have e : y = 263 := by omega
                    subst e
                    exact jc_m263
      · rcases Nat.lt_or_ge y 283 with q264 | q283
        · rcases Nat.lt_or_ge y 273 with q264 | q273
          · rcases Nat.lt_or_ge y 268 with q264 | q268
            · rcases Nat.lt_or_ge y 266 with q264 | q266
              · rcases Nat.lt_or_ge y 265 with q264 | q265
                · have e : y = 264 := by omega
                  subst e
                  exact jc_m264
                · have e : y = 265 := by omega
                  subst e
                  exact jc_m265
              · rcases Nat.lt_or_ge y 267 with q266 | q267
                · have e : y = 266 := by omega
                  subst e
                  exact jc_m266
                · have e : y = 267 := by omega
                  subst e
                  exact jc_m267
            · rcases Nat.lt_or_ge y 270 with q268 | q270
              · rcases Nat.lt_or_ge y 269 with q268 | q269
                · have e : y = 268 := by omega
                  subst e
                  exact jc_m268
                · have e : y = 269 := by omega
                  subst e
                  exact jc_m269
              · rcases Nat.lt_or_ge y 271 with q270 | q271
                · have e : y = 270 := by omega
                  subst e
                  exact jc_m270
                · rcases Nat.lt_or_ge y 272 with q271 | q272
                  · have e : y = 271 := by omega
                    subst e
                    exact jc_m271
                  · have e : y = 272 := by omega
                    subst e
                    exact jc_m272
          · rcases Nat.lt_or_ge y 278 with q273 | q278
            · rcases Nat.lt_or_ge y 275 with q273 | q275
              · rcases Nat.lt_or_ge y 274 with q273 | q274
                · have e : y = 273 := by omega
                  subst e
                  exact jc_m273
                · have e : y = 274 := by omega
                  subst e
                  exact jc_m274
              · rcases Nat.lt_or_ge y 276 with q275 | q276
                · have e : y = 275 := by omega
                  subst e
                  exact jc_m275
                · rcases Nat.lt_or_ge y 277 with q276 | q277
                  · have e : y = 276 := by omega
                    subst e
                    exact jc_m276
                  · have e : y = 277 := by omega
                    subst e
                    exact jc_m277
            · rcases Nat.lt_or_ge y 280 with q278 | q280
              · rcases Nat.lt_or_ge y 279 with q278 | q279
                · have e : y = 278 := by omega
                  subst e
                  exact jc_m278
                · have e : y = 279 := by omega
                  subst e
                  exact jc_m279
              · rcases Nat.lt_or_ge y 281 with q280 | q281
                · have e : y = 280 := by omega
                  subst e
                  exact jc_m280
                · rcases Nat.lt_or_ge y 282 with q281 | q282
                  · have e : y = 281 := by omega
                    subst e
                    exact jc_m281
                  · have e : y = 282 := by omega
                    subst e
                    exact jc_m282
        · rcases Nat.lt_or_ge y 292 with q283 | q292
          · rcases Nat.lt_or_ge y 287 with q283 | q287
            · rcases Nat.lt_or_ge y 285 with q283 | q285
              · rcases Nat.lt_or_ge y 284 with q283 | q284
                · have e : y = 283 := by omega
                  subst e
                  exact jc_m283
                · have e : y = 284 := by omega
                  subst e
                  exact jc_m284
              · rcases Nat.lt_or_ge y 286 with q285 | q286
                · have e : y = 285 := by omega
                  subst e
                  exact jc_m285
                · have e : y = 286 := by omega
                  subst e
                  exact jc_m286
            · rcases Nat.lt_or_ge y 289 with q287 | q289
              · rcases Nat.lt_or_ge y 288 with q287 | q288
                · have e : y = 287 := by omega
                  subst e
                  exact jc_m287
                · have e : y = 288 := by omega
                  subst e
                  exact jc_m288
              · rcases Nat.lt_or_ge y 290 with q289 | q290
                · have e : y = 289 := by omega
                  subst e
                  exact jc_m289
                · rcases Nat.lt_or_ge y 291 with q290 | q291
                  · have e : y = 290 := by omega
                    subst e
                    exact jc_m290
                  · have e : y = 291 := by omega
                    subst e
                    exact jc_m291
          · rcases Nat.lt_or_ge y 297 with q292 | q297
            · rcases Nat.lt_or_ge y 294 with q292 | q294
              · rcases Nat.lt_or_ge y 293 with q292 | q293
                · have e : y = 292 := by omega
                  subst e
                  exact jc_m292
                · have e : y = 293 := by omega
                  subst e
                  exact jc_m293
              · rcases Nat.lt_or_ge y 295 with q294 | q295
                · have e : y = 294 := by omega
                  subst e
                  exact jc_m294
                · rcases Nat.lt_or_ge y 296 with q295 | q296
                  · have e : y = 295 := by omega
                    subst e
                    exact jc_m295
                  · have e : y = 296 := by omega
                    subst e
                    exact jc_m296
            · rcases Nat.lt_or_ge y 299 with q297 | q299
              · rcases Nat.lt_or_ge y 298 with q297 | q298
                · have e : y = 297 := by omega
                  subst e
                  exact jc_m297
                · have e : y = 298 := by omega
                  subst e
                  exact jc_m298
              · rcases Nat.lt_or_ge y 300 with q299 | q300
                · have e : y = 299 := by omega
                  subst e
                  exact jc_m299
                · rcases Nat.lt_or_ge y 301 with q300 | q301
                  · have e : y = 300 := by omega
                    subst e
                    exact jc_m300
                  · have e : y = 301 := by omega
                    subst e
                    exact jc_m301
/-- the end of a method, as the kit has it -/
theorem jb_ret {p : Program} {l : Launch} {e : Env} {R : Room} {s : State} {m : MethodId} {args : Array Value} {below : List Frame} {meth : Method} {c : Code} {G : jb_G} {φ : Bool} {z C0 S0 : Nat} {ad0 : Nat → Nat} {lim0 : Nat} {r : ja_R} (hx : p.tables.exec = Jvm.exec) (hb : c.code = jm_b z) (hr : meth.sig.returnType = jm_rt z) (hlocks : meth.locks = false) :
    jb_Ret p l e R s m args below meth c (MQ below (jb_Qc G φ ad0 lim0 r) args s (jb_cl r.2 - C0) (jb_sl r.2 - S0) (jb_A G)) G φ z C0 S0 ad0 lim0 r := by
  intro i ad H locs ls L I hv hE
  have hq : ∀ t : State, t.heap = H → s.WarmedH t.vm → jb_Qc G φ ad0 lim0 r args s (.returned (r.1.map (jb_v ad))) t := fun t ht _ => ⟨ad, I.2.2.2.2.1, rfl, ⟨by rw [ht]; exact I.1.1, I.1.2.1⟩, I.1.2.2.1.F ht, hv, I.2.2.1⟩
  obtain ⟨r1, M⟩ := r
  rcases hE with ⟨hd, v, e1, hty⟩ | ⟨hd, hty, v, e1⟩ | ⟨hd, hty, v, e1⟩ | ⟨hd, hty, e1⟩
  · have e1 : r1 = some (ji v) := e1
    subst e1
    rcases hty with hty | ⟨hty, hB⟩
    · exact W.iret hx hb (hr.trans hty) hq I.1.2.2.1.2.2 hd hlocks
    · exact W.zret hx hb (hr.trans hty) (by rcases hB with rfl | rfl <;> rfl) hq I.1.2.2.1.2.2 hd hlocks
  · have e1 : r1 = some (jl v) := e1
    subst e1
    exact W.lret hx hb (hr.trans hty) hq I.1.2.2.1.2.2 hd hlocks
  · have e1 : r1 = some (jr v) := e1
    subst e1
    obtain ⟨rt, hrt, hR⟩ : ∃ rt, jm_rt z = some rt ∧ ((∃ n, rt = .object n) ∨ ∃ t, rt = .array t) := by
      revert hty
      generalize jm_rt z = o
      intro hty
      rcases o with _ | t
      · cases hty
      · cases t <;> first | exact ⟨_, rfl, Or.inl ⟨_, rfl⟩⟩ | exact ⟨_, rfl, Or.inr ⟨_, rfl⟩⟩ | cases hty
    exact W.aret hx hb (hr.trans hrt) hR (by cases v with
      | zero => exact Or.inl rfl
      | succ v => exact Or.inr ⟨_, rfl⟩) hq I.1.2.2.1.2.2 hd hlocks
  · have e1 : r1 = none := e1
    subst e1
    exact W.vret hx hb (hr.trans hty) hq I.1.2.2.1.2.2 hd hlocks
/-- at the entry of a method -/
theorem jb_enter {G : jb_G} {φ : Bool} {s : State} {ad : Nat → Nat} {as : List ja_V} {M : ja_M} {nL : Nat} (hP : va_P G.1 jm_cl (jb_ws G φ ad M) s.heap) (hD : va_D (jb_A G) (jb_ws G φ ad M)) (hro : jb_ro G ad M s) (hlen : (ja_argL as).length ≤ nL) (hok : ∀ v ∈ as, jb_ok v) (hM : jb_Mok φ M) :
    jb_I G φ s nL (jb_cl M) (jb_sl M) ad (ja_lim φ M) ad M s.heap [] (ja_pad nL (ja_argL as)) ((lg_sl (as.map (jb_v ad)) ++ List.replicate (nL - (lg_sl (as.map (jb_v ad))).length) Slot.unset).toArray) := by
  refine ⟨⟨hP, hD, va_S.rf, hro⟩, ⟨?_, ja_pad_len nL _ hlen, fun v hv => hok v (ja_argL_mem as v (ja_pad_mem nL _ v hv))⟩, hM, ⟨Nat.le_refl _, Nat.le_refl _⟩, fun _ _ => rfl, jb_limle hM⟩
  rw [jb_lv_pad ad nL _ 0 hlen, jb_lv_arg]
  exact lv_entry (as.map (jb_v ad)) (by rw [jb_sl_arg]; exact hlen)
/-- EVERY CALL: what the small machine answers within d calls in one another, the real one does -/
theorem jb_calls (hpl : jb_SH2 jh_place jc_place) (l : Launch) (G : jb_G) (φ : Bool) : ∀ d, jb_EOK l G φ d (ja_x φ d)
  | 0 => fun _ _ _ _ _ h => by cases h
  | d + 1 => by
    intro y as M r hy h
    have hy2 : y < 302 := hy
    refine ⟨jp_x φ (d + 1) y as M r h, fun ad has hM => ?_⟩
    have hgr := jp_x φ (d + 1) y as M r h
    rw [ja_x_eq] at h
    obtain ⟨hlen, h⟩ := jb_cond h
    have hlen := Nat.le_of_ble_eq_true hlen
    obtain ⟨n, hn⟩ := ja_D_ex h
    have hcls := jw_cls y hy
    obtain ⟨hp1, -, -⟩ := jw_plain _ (jw_own y hy)
    rw [← hcls] at hp1
    refine Met.ofW (cc := jm_b y) (maxL := ja_maxL y) (ret := jm_rt y) (ws' := jm_W) hp1 rfl ?_
    intro p e s m args below meth c s₁ B hml hv
    obtain ⟨rfl, hP, hD, hK, hro, hao⟩ := hv
    have hts := atoms_spec (ws := jb_ws1 y) B.pre
    have hown : s.vm.findClass (jm_nm y).cls = some m.cls := findClass_of_methodNamed B.named
    rw [hcls] at hown
    have hfix : jb_Fix p (headSpec (jb_ws1 y) (jb_rm (d + 1) (jb_cl r.2 - jb_cl M) (jb_sl r.2 - jb_sl M))).room s m (as.map (jb_v ad)).toArray meth c G y d := by
      refine ⟨⟨B.exec, B.bytes, hml, hown, fun w hw => hts w (List.mem_cons_of_mem _ hw)⟩, ⟨hK, fun q hq => Nat.le_trans hro.2.2.2.2.2.2 hq⟩, ⟨Nat.le_refl _, ?_⟩, fun hi => (name_of_methodNamed B.named B.method).1.trans hi, hao⟩
      show 40 * d + 60 ≤ 40 * (d + 1) + 20
      omega
    have hcap : jb_Cap (headSpec (jb_ws1 y) (jb_rm (d + 1) (jb_cl r.2 - jb_cl M) (jb_sl r.2 - jb_sl M))).room (jb_cl M) (jb_sl M) r.2 := by
      show jb_cl r.2 ≤ (jb_cl r.2 - jb_cl M) + jb_cl M ∧ jb_sl r.2 ≤ (jb_sl r.2 - jb_sl M) + jb_sl M
      omega
    have hck : ∀ i, i < (ja_code y).length → jc_row y i (ja_nth (ja_code y) i ja_row0) = true := fun i hi => by
      have := jc_rows_of (ja_code y) 0 i (jm_chks y hy) hi
      rw [Nat.zero_add] at this
      exact this
    have w := jb_walk hpl (below := below) (e := e) (Q := MQ below (jb_Qc G φ ad (ja_lim φ M) r) (as.map (jb_v ad)).toArray s (jb_cl r.2 - jb_cl M) (jb_sl r.2 - jb_sl M) (jb_A G)) (C0 := jb_cl M) (S0 := jb_sl M) (ad0 := ad) (lim0 := ja_lim φ M) hck (by omega) hfix (jb_calls hpl l G φ d) hcap (jb_ret B.exec B.bytes B.returns B.notSynchronized) (fun q => by subst q; exact Nat.le_refl _) n 0 _ _ _ hn
    have w := w ad s.heap [] _ (jb_enter hP hD hro hlen has hM) (fun _ h => by cases h)
    rw [jm_pc0 y (by omega), Nat.sub_self, Nat.sub_self] at w
    rw [lg_entry_eq]
    exact w
end
