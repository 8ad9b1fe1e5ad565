section
-- ===== PART A: goes FIRST, ahead of the names: the tables' words, and 'selects' of the private methods out of them =====
/-- a private method of a class that the tables say can be made, by its rows of tables_1 -/
def lw_okq (q : MethodName × Nat) : Prop := (q.1.cls ≠ "java/lang/invoke/MethodHandle" ∧ q.1.cls ≠ "java/lang/invoke/VarHandle") ∧ Cond.instantiable q.1.cls q.2 ∈ tables_1 ∧ Cond.privateMethod q.1 ∈ tables_1 ∧ Cond.instanceMethod q.1 ∈ tables_1
theorem lw_p0 : lw_okq (⟨"java/lang/Throwable", "fillInStackTrace", "(I)Ljava/lang/Throwable;"⟩, 6) := ⟨⟨by decide +kernel, by decide +kernel⟩, List.mem_of_getElem? (i := 355) (by decide +kernel), List.mem_of_getElem? (i := 353) (by decide +kernel), List.mem_of_getElem? (i := 354) (by decide +kernel)⟩
theorem lw_p1 : lw_okq (⟨"TestSlots", "hashWithPupil", "(JI)J"⟩, 5) := ⟨⟨by decide +kernel, by decide +kernel⟩, List.mem_of_getElem? (i := 21) (by decide +kernel), List.mem_of_getElem? (i := 425) (by decide +kernel), List.mem_of_getElem? (i := 426) (by decide +kernel)⟩
theorem lw_p2 : lw_okq (⟨"TestSlots", "hashWithExaminer", "(JI)J"⟩, 5) := ⟨⟨by decide +kernel, by decide +kernel⟩, List.mem_of_getElem? (i := 21) (by decide +kernel), List.mem_of_getElem? (i := 493) (by decide +kernel), List.mem_of_getElem? (i := 494) (by decide +kernel)⟩
theorem lw_p3 : lw_okq (⟨"TestSlots", "save", "()V"⟩, 5) := ⟨⟨by decide +kernel, by decide +kernel⟩, List.mem_of_getElem? (i := 21) (by decide +kernel), List.mem_of_getElem? (i := 623) (by decide +kernel), List.mem_of_getElem? (i := 624) (by decide +kernel)⟩
theorem lw_p4 : lw_okq (⟨"TestSlots", "dropOldestSave", "()V"⟩, 5) := ⟨⟨by decide +kernel, by decide +kernel⟩, List.mem_of_getElem? (i := 21) (by decide +kernel), List.mem_of_getElem? (i := 627) (by decide +kernel), List.mem_of_getElem? (i := 628) (by decide +kernel)⟩
theorem lw_p5 : lw_okq (⟨"TestSlots", "carryOut", "(I)Z"⟩, 5) := ⟨⟨by decide +kernel, by decide +kernel⟩, List.mem_of_getElem? (i := 21) (by decide +kernel), List.mem_of_getElem? (i := 765) (by decide +kernel), List.mem_of_getElem? (i := 766) (by decide +kernel)⟩
theorem lw_p6 : lw_okq (⟨"TestSlots", "carryOutTest", "(IZ)Z"⟩, 5) := ⟨⟨by decide +kernel, by decide +kernel⟩, List.mem_of_getElem? (i := 21) (by decide +kernel), List.mem_of_getElem? (i := 769) (by decide +kernel), List.mem_of_getElem? (i := 770) (by decide +kernel)⟩
theorem lw_p7 : lw_okq (⟨"TestSlotsModel", "holds", "(I)Z"⟩, 16) := ⟨⟨by decide +kernel, by decide +kernel⟩, List.mem_of_getElem? (i := 820) (by decide +kernel), List.mem_of_getElem? (i := 884) (by decide +kernel), List.mem_of_getElem? (i := 885) (by decide +kernel)⟩
theorem lw_p8 : lw_okq (⟨"TestSlotsModel", "save", "()V"⟩, 16) := ⟨⟨by decide +kernel, by decide +kernel⟩, List.mem_of_getElem? (i := 820) (by decide +kernel), List.mem_of_getElem? (i := 888) (by decide +kernel), List.mem_of_getElem? (i := 889) (by decide +kernel)⟩
theorem lw_p9 : lw_okq (⟨"TestSlotsModel", "giveOut", "()V"⟩, 16) := ⟨⟨by decide +kernel, by decide +kernel⟩, List.mem_of_getElem? (i := 820) (by decide +kernel), List.mem_of_getElem? (i := 895) (by decide +kernel), List.mem_of_getElem? (i := 896) (by decide +kernel)⟩
theorem lw_p10 : lw_okq (⟨"TestSlotsModel", "placeInOrder", "(I)I"⟩, 16) := ⟨⟨by decide +kernel, by decide +kernel⟩, List.mem_of_getElem? (i := 820) (by decide +kernel), List.mem_of_getElem? (i := 902) (by decide +kernel), List.mem_of_getElem? (i := 903) (by decide +kernel)⟩
theorem lw_p11 : lw_okq (⟨"TestSlotsModel", "isAhead", "(II)Z"⟩, 16) := ⟨⟨by decide +kernel, by decide +kernel⟩, List.mem_of_getElem? (i := 820) (by decide +kernel), List.mem_of_getElem? (i := 906) (by decide +kernel), List.mem_of_getElem? (i := 907) (by decide +kernel)⟩
theorem lw_p12 : lw_okq (⟨"TestSlotsModel", "earliestOf", "(I)I"⟩, 16) := ⟨⟨by decide +kernel, by decide +kernel⟩, List.mem_of_getElem? (i := 820) (by decide +kernel), List.mem_of_getElem? (i := 910) (by decide +kernel), List.mem_of_getElem? (i := 911) (by decide +kernel)⟩
theorem lw_p13 : lw_okq (⟨"TestSlotsModel", "canHave", "(II)Z"⟩, 16) := ⟨⟨by decide +kernel, by decide +kernel⟩, List.mem_of_getElem? (i := 820) (by decide +kernel), List.mem_of_getElem? (i := 914) (by decide +kernel), List.mem_of_getElem? (i := 915) (by decide +kernel)⟩
theorem lw_p14 : lw_okq (⟨"TestSlotsModel", "askFault", "(I)I"⟩, 16) := ⟨⟨by decide +kernel, by decide +kernel⟩, List.mem_of_getElem? (i := 820) (by decide +kernel), List.mem_of_getElem? (i := 941) (by decide +kernel), List.mem_of_getElem? (i := 942) (by decide +kernel)⟩
theorem lw_p15 : lw_okq (⟨"TestSlotsModel", "isPupil", "(I)Z"⟩, 16) := ⟨⟨by decide +kernel, by decide +kernel⟩, List.mem_of_getElem? (i := 820) (by decide +kernel), List.mem_of_getElem? (i := 945) (by decide +kernel), List.mem_of_getElem? (i := 946) (by decide +kernel)⟩
def lw_privs_1 : List (MethodName × Nat) := [(⟨"java/lang/Throwable", "fillInStackTrace", "(I)Ljava/lang/Throwable;"⟩, 6), (⟨"TestSlots", "hashWithPupil", "(JI)J"⟩, 5), (⟨"TestSlots", "hashWithExaminer", "(JI)J"⟩, 5), (⟨"TestSlots", "save", "()V"⟩, 5), (⟨"TestSlots", "dropOldestSave", "()V"⟩, 5), (⟨"TestSlots", "carryOut", "(I)Z"⟩, 5), (⟨"TestSlots", "carryOutTest", "(IZ)Z"⟩, 5), (⟨"TestSlotsModel", "holds", "(I)Z"⟩, 16), (⟨"TestSlotsModel", "save", "()V"⟩, 16), (⟨"TestSlotsModel", "giveOut", "()V"⟩, 16), (⟨"TestSlotsModel", "placeInOrder", "(I)I"⟩, 16), (⟨"TestSlotsModel", "isAhead", "(II)Z"⟩, 16), (⟨"TestSlotsModel", "earliestOf", "(I)I"⟩, 16), (⟨"TestSlotsModel", "canHave", "(II)Z"⟩, 16), (⟨"TestSlotsModel", "askFault", "(I)I"⟩, 16), (⟨"TestSlotsModel", "isPupil", "(I)Z"⟩, 16)]
theorem lw_r1 : ∀ q ∈ lw_privs_1, lw_okq q := List.forall_mem_cons.mpr ⟨lw_p0, List.forall_mem_cons.mpr ⟨lw_p1, List.forall_mem_cons.mpr ⟨lw_p2, List.forall_mem_cons.mpr ⟨lw_p3, List.forall_mem_cons.mpr ⟨lw_p4, List.forall_mem_cons.mpr ⟨lw_p5, List.forall_mem_cons.mpr ⟨lw_p6, List.forall_mem_cons.mpr ⟨lw_p7, List.forall_mem_cons.mpr ⟨lw_p8, List.forall_mem_cons.mpr ⟨lw_p9, List.forall_mem_cons.mpr ⟨lw_p10, List.forall_mem_cons.mpr ⟨lw_p11, List.forall_mem_cons.mpr ⟨lw_p12, List.forall_mem_cons.mpr ⟨lw_p13, List.forall_mem_cons.mpr ⟨lw_p14, List.forall_mem_cons.mpr ⟨lw_p15, fun _ h => absurd h List.not_mem_nil⟩⟩⟩⟩⟩⟩⟩⟩⟩⟩⟩⟩⟩⟩⟩⟩
theorem lw_p16 : lw_okq (⟨"TestSlotsModel", "asks", "(I)I"⟩, 16) := ⟨⟨by decide +kernel, by decide +kernel⟩, List.mem_of_getElem? (i := 820) (by decide +kernel), List.mem_of_getElem? (i := 952) (by decide +kernel), List.mem_of_getElem? (i := 953) (by decide +kernel)⟩
theorem lw_p17 : lw_okq (⟨"TestSlotsModel", "wait", "(I)V"⟩, 16) := ⟨⟨by decide +kernel, by decide +kernel⟩, List.mem_of_getElem? (i := 820) (by decide +kernel), List.mem_of_getElem? (i := 956) (by decide +kernel), List.mem_of_getElem? (i := 957) (by decide +kernel)⟩
theorem lw_p18 : lw_okq (⟨"TestSlotsModel", "slotBy", "(I)I"⟩, 16) := ⟨⟨by decide +kernel, by decide +kernel⟩, List.mem_of_getElem? (i := 820) (by decide +kernel), List.mem_of_getElem? (i := 960) (by decide +kernel), List.mem_of_getElem? (i := 961) (by decide +kernel)⟩
theorem lw_p19 : lw_okq (⟨"TestSlotsModel", "quitFault", "(I)I"⟩, 16) := ⟨⟨by decide +kernel, by decide +kernel⟩, List.mem_of_getElem? (i := 820) (by decide +kernel), List.mem_of_getElem? (i := 968) (by decide +kernel), List.mem_of_getElem? (i := 969) (by decide +kernel)⟩
theorem lw_p20 : lw_okq (⟨"TestSlotsModel", "quits", "(I)I"⟩, 16) := ⟨⟨by decide +kernel, by decide +kernel⟩, List.mem_of_getElem? (i := 820) (by decide +kernel), List.mem_of_getElem? (i := 972) (by decide +kernel), List.mem_of_getElem? (i := 973) (by decide +kernel)⟩
theorem lw_p21 : lw_okq (⟨"TestSlotsModel", "cancelFault", "(II)I"⟩, 16) := ⟨⟨by decide +kernel, by decide +kernel⟩, List.mem_of_getElem? (i := 820) (by decide +kernel), List.mem_of_getElem? (i := 980) (by decide +kernel), List.mem_of_getElem? (i := 981) (by decide +kernel)⟩
theorem lw_p22 : lw_okq (⟨"TestSlotsModel", "isExaminer", "(I)Z"⟩, 16) := ⟨⟨by decide +kernel, by decide +kernel⟩, List.mem_of_getElem? (i := 820) (by decide +kernel), List.mem_of_getElem? (i := 984) (by decide +kernel), List.mem_of_getElem? (i := 985) (by decide +kernel)⟩
theorem lw_p23 : lw_okq (⟨"TestSlotsModel", "cancels", "(II)I"⟩, 16) := ⟨⟨by decide +kernel, by decide +kernel⟩, List.mem_of_getElem? (i := 820) (by decide +kernel), List.mem_of_getElem? (i := 988) (by decide +kernel), List.mem_of_getElem? (i := 989) (by decide +kernel)⟩
theorem lw_p24 : lw_okq (⟨"TestSlotsModel", "testFault", "(I)I"⟩, 16) := ⟨⟨by decide +kernel, by decide +kernel⟩, List.mem_of_getElem? (i := 820) (by decide +kernel), List.mem_of_getElem? (i := 996) (by decide +kernel), List.mem_of_getElem? (i := 997) (by decide +kernel)⟩
theorem lw_p25 : lw_okq (⟨"TestSlotsModel", "tests", "(IZ)I"⟩, 16) := ⟨⟨by decide +kernel, by decide +kernel⟩, List.mem_of_getElem? (i := 820) (by decide +kernel), List.mem_of_getElem? (i := 1000) (by decide +kernel), List.mem_of_getElem? (i := 1001) (by decide +kernel)⟩
theorem lw_p26 : lw_okq (⟨"TestSlotsModel", "routeFor", "(II)I"⟩, 16) := ⟨⟨by decide +kernel, by decide +kernel⟩, List.mem_of_getElem? (i := 820) (by decide +kernel), List.mem_of_getElem? (i := 1004) (by decide +kernel), List.mem_of_getElem? (i := 1005) (by decide +kernel)⟩
theorem lw_p27 : lw_okq (⟨"TestSlotsModel", "nextFault", "()I"⟩, 16) := ⟨⟨by decide +kernel, by decide +kernel⟩, List.mem_of_getElem? (i := 820) (by decide +kernel), List.mem_of_getElem? (i := 1012) (by decide +kernel), List.mem_of_getElem? (i := 1013) (by decide +kernel)⟩
theorem lw_p28 : lw_okq (⟨"TestSlotsModel", "goesOn", "()I"⟩, 16) := ⟨⟨by decide +kernel, by decide +kernel⟩, List.mem_of_getElem? (i := 820) (by decide +kernel), List.mem_of_getElem? (i := 1016) (by decide +kernel), List.mem_of_getElem? (i := 1017) (by decide +kernel)⟩
theorem lw_p29 : lw_okq (⟨"TestSlotsModel", "go", "(Z)I"⟩, 16) := ⟨⟨by decide +kernel, by decide +kernel⟩, List.mem_of_getElem? (i := 820) (by decide +kernel), List.mem_of_getElem? (i := 1036) (by decide +kernel), List.mem_of_getElem? (i := 1037) (by decide +kernel)⟩
theorem lw_p30 : lw_okq (⟨"TestSlotsModel", "order", "()V"⟩, 16) := ⟨⟨by decide +kernel, by decide +kernel⟩, List.mem_of_getElem? (i := 820) (by decide +kernel), List.mem_of_getElem? (i := 1040) (by decide +kernel), List.mem_of_getElem? (i := 1041) (by decide +kernel)⟩
theorem lw_p31 : lw_okq (⟨"TestSlotsModel", "word", "(I)V"⟩, 16) := ⟨⟨by decide +kernel, by decide +kernel⟩, List.mem_of_getElem? (i := 820) (by decide +kernel), List.mem_of_getElem? (i := 1048) (by decide +kernel), List.mem_of_getElem? (i := 1049) (by decide +kernel)⟩
def lw_privs_2 : List (MethodName × Nat) := [(⟨"TestSlotsModel", "asks", "(I)I"⟩, 16), (⟨"TestSlotsModel", "wait", "(I)V"⟩, 16), (⟨"TestSlotsModel", "slotBy", "(I)I"⟩, 16), (⟨"TestSlotsModel", "quitFault", "(I)I"⟩, 16), (⟨"TestSlotsModel", "quits", "(I)I"⟩, 16), (⟨"TestSlotsModel", "cancelFault", "(II)I"⟩, 16), (⟨"TestSlotsModel", "isExaminer", "(I)Z"⟩, 16), (⟨"TestSlotsModel", "cancels", "(II)I"⟩, 16), (⟨"TestSlotsModel", "testFault", "(I)I"⟩, 16), (⟨"TestSlotsModel", "tests", "(IZ)I"⟩, 16), (⟨"TestSlotsModel", "routeFor", "(II)I"⟩, 16), (⟨"TestSlotsModel", "nextFault", "()I"⟩, 16), (⟨"TestSlotsModel", "goesOn", "()I"⟩, 16), (⟨"TestSlotsModel", "go", "(Z)I"⟩, 16), (⟨"TestSlotsModel", "order", "()V"⟩, 16), (⟨"TestSlotsModel", "word", "(I)V"⟩, 16)]
theorem lw_r2 : ∀ q ∈ lw_privs_2, lw_okq q := List.forall_mem_cons.mpr ⟨lw_p16, List.forall_mem_cons.mpr ⟨lw_p17, List.forall_mem_cons.mpr ⟨lw_p18, List.forall_mem_cons.mpr ⟨lw_p19, List.forall_mem_cons.mpr ⟨lw_p20, List.forall_mem_cons.mpr ⟨lw_p21, List.forall_mem_cons.mpr ⟨lw_p22, List.forall_mem_cons.mpr ⟨lw_p23, List.forall_mem_cons.mpr ⟨lw_p24, List.forall_mem_cons.mpr ⟨lw_p25, List.forall_mem_cons.mpr ⟨lw_p26, List.forall_mem_cons.mpr ⟨lw_p27, List.forall_mem_cons.mpr ⟨lw_p28, List.forall_mem_cons.mpr ⟨lw_p29, List.forall_mem_cons.mpr ⟨lw_p30, List.forall_mem_cons.mpr ⟨lw_p31, fun _ h => absurd h List.not_mem_nil⟩⟩⟩⟩⟩⟩⟩⟩⟩⟩⟩⟩⟩⟩⟩⟩
theorem lw_p32 : lw_okq (⟨"TestSlotsModel", "sign", "(II)I"⟩, 16) := ⟨⟨by decide +kernel, by decide +kernel⟩, List.mem_of_getElem? (i := 820) (by decide +kernel), List.mem_of_getElem? (i := 1053) (by decide +kernel), List.mem_of_getElem? (i := 1054) (by decide +kernel)⟩
theorem lw_p33 : lw_okq (⟨"TestSlotsModel", "does", "()Z"⟩, 16) := ⟨⟨by decide +kernel, by decide +kernel⟩, List.mem_of_getElem? (i := 820) (by decide +kernel), List.mem_of_getElem? (i := 1057) (by decide +kernel), List.mem_of_getElem? (i := 1058) (by decide +kernel)⟩
theorem lw_p34 : lw_okq (⟨"TestSlotsModel", "pupilOf", "(II)I"⟩, 16) := ⟨⟨by decide +kernel, by decide +kernel⟩, List.mem_of_getElem? (i := 820) (by decide +kernel), List.mem_of_getElem? (i := 1073) (by decide +kernel), List.mem_of_getElem? (i := 1074) (by decide +kernel)⟩
theorem lw_p35 : lw_okq (⟨"TestSlotsModel", "examinerOf", "(II)I"⟩, 16) := ⟨⟨by decide +kernel, by decide +kernel⟩, List.mem_of_getElem? (i := 820) (by decide +kernel), List.mem_of_getElem? (i := 1084) (by decide +kernel), List.mem_of_getElem? (i := 1085) (by decide +kernel)⟩
theorem lw_p36 : lw_okq (⟨"TestSlotsModel", "slotsOf", "(II)I"⟩, 16) := ⟨⟨by decide +kernel, by decide +kernel⟩, List.mem_of_getElem? (i := 820) (by decide +kernel), List.mem_of_getElem? (i := 1088) (by decide +kernel), List.mem_of_getElem? (i := 1089) (by decide +kernel)⟩
theorem lw_p37 : lw_okq (⟨"TestSlotsModel", "counted", "(I)I"⟩, 16) := ⟨⟨by decide +kernel, by decide +kernel⟩, List.mem_of_getElem? (i := 820) (by decide +kernel), List.mem_of_getElem? (i := 1100) (by decide +kernel), List.mem_of_getElem? (i := 1101) (by decide +kernel)⟩
theorem lw_p38 : lw_okq (⟨"TestSlotsModel", "stages", "(I)I"⟩, 16) := ⟨⟨by decide +kernel, by decide +kernel⟩, List.mem_of_getElem? (i := 820) (by decide +kernel), List.mem_of_getElem? (i := 1104) (by decide +kernel), List.mem_of_getElem? (i := 1105) (by decide +kernel)⟩
theorem lw_p39 : lw_okq (⟨"TestSlotsModel", "sumOfExaminers", "(I)I"⟩, 16) := ⟨⟨by decide +kernel, by decide +kernel⟩, List.mem_of_getElem? (i := 820) (by decide +kernel), List.mem_of_getElem? (i := 1108) (by decide +kernel), List.mem_of_getElem? (i := 1109) (by decide +kernel)⟩
theorem lw_p40 : lw_okq (⟨"TestSlotsModel", "sumOfPupils", "(I)I"⟩, 16) := ⟨⟨by decide +kernel, by decide +kernel⟩, List.mem_of_getElem? (i := 820) (by decide +kernel), List.mem_of_getElem? (i := 1112) (by decide +kernel), List.mem_of_getElem? (i := 1113) (by decide +kernel)⟩
theorem lw_p41 : lw_okq (⟨"TestSlotsModel", "sumOfDays", "()I"⟩, 16) := ⟨⟨by decide +kernel, by decide +kernel⟩, List.mem_of_getElem? (i := 820) (by decide +kernel), List.mem_of_getElem? (i := 1116) (by decide +kernel), List.mem_of_getElem? (i := 1117) (by decide +kernel)⟩
theorem lw_p42 : lw_okq (⟨"TestSlotsModel", "cancelled", "(III)I"⟩, 16) := ⟨⟨by decide +kernel, by decide +kernel⟩, List.mem_of_getElem? (i := 820) (by decide +kernel), List.mem_of_getElem? (i := 1132) (by decide +kernel), List.mem_of_getElem? (i := 1133) (by decide +kernel)⟩
theorem lw_p43 : lw_okq (⟨"TestSlotsModel", "could", "(I)I"⟩, 16) := ⟨⟨by decide +kernel, by decide +kernel⟩, List.mem_of_getElem? (i := 820) (by decide +kernel), List.mem_of_getElem? (i := 1144) (by decide +kernel), List.mem_of_getElem? (i := 1145) (by decide +kernel)⟩
theorem lw_p44 : lw_okq (⟨"TestSlotsModel", "goAlong", "(I)I"⟩, 16) := ⟨⟨by decide +kernel, by decide +kernel⟩, List.mem_of_getElem? (i := 820) (by decide +kernel), List.mem_of_getElem? (i := 1148) (by decide +kernel), List.mem_of_getElem? (i := 1149) (by decide +kernel)⟩
theorem lw_p45 : lw_okq (⟨"TestSlotsModel", "share", "()D"⟩, 16) := ⟨⟨by decide +kernel, by decide +kernel⟩, List.mem_of_getElem? (i := 820) (by decide +kernel), List.mem_of_getElem? (i := 1156) (by decide +kernel), List.mem_of_getElem? (i := 1157) (by decide +kernel)⟩
theorem lw_p46 : lw_okq (⟨"TestSlotsModel", "digestOne", "(J)V"⟩, 16) := ⟨⟨by decide +kernel, by decide +kernel⟩, List.mem_of_getElem? (i := 820) (by decide +kernel), List.mem_of_getElem? (i := 1165) (by decide +kernel), List.mem_of_getElem? (i := 1166) (by decide +kernel)⟩
def lw_privs_3 : List (MethodName × Nat) := [(⟨"TestSlotsModel", "sign", "(II)I"⟩, 16), (⟨"TestSlotsModel", "does", "()Z"⟩, 16), (⟨"TestSlotsModel", "pupilOf", "(II)I"⟩, 16), (⟨"TestSlotsModel", "examinerOf", "(II)I"⟩, 16), (⟨"TestSlotsModel", "slotsOf", "(II)I"⟩, 16), (⟨"TestSlotsModel", "counted", "(I)I"⟩, 16), (⟨"TestSlotsModel", "stages", "(I)I"⟩, 16), (⟨"TestSlotsModel", "sumOfExaminers", "(I)I"⟩, 16), (⟨"TestSlotsModel", "sumOfPupils", "(I)I"⟩, 16), (⟨"TestSlotsModel", "sumOfDays", "()I"⟩, 16), (⟨"TestSlotsModel", "cancelled", "(III)I"⟩, 16), (⟨"TestSlotsModel", "could", "(I)I"⟩, 16), (⟨"TestSlotsModel", "goAlong", "(I)I"⟩, 16), (⟨"TestSlotsModel", "share", "()D"⟩, 16), (⟨"TestSlotsModel", "digestOne", "(J)V"⟩, 16)]
theorem lw_r3 : ∀ q ∈ lw_privs_3, lw_okq q := List.forall_mem_cons.mpr ⟨lw_p32, List.forall_mem_cons.mpr ⟨lw_p33, List.forall_mem_cons.mpr ⟨lw_p34, List.forall_mem_cons.mpr ⟨lw_p35, List.forall_mem_cons.mpr ⟨lw_p36, List.forall_mem_cons.mpr ⟨lw_p37, List.forall_mem_cons.mpr ⟨lw_p38, List.forall_mem_cons.mpr ⟨lw_p39, List.forall_mem_cons.mpr ⟨lw_p40, List.forall_mem_cons.mpr ⟨lw_p41, List.forall_mem_cons.mpr ⟨lw_p42, List.forall_mem_cons.mpr ⟨lw_p43, List.forall_mem_cons.mpr ⟨lw_p44, List.forall_mem_cons.mpr ⟨lw_p45, List.forall_mem_cons.mpr ⟨lw_p46, fun _ h => absurd h List.not_mem_nil⟩⟩⟩⟩⟩⟩⟩⟩⟩⟩⟩⟩⟩⟩⟩
def lw_privs : List (MethodName × Nat) := lw_privs_1 ++ (lw_privs_2 ++ (lw_privs_3))
def lw_tbl : List Cond := k2_sels lw_privs ++ tables_1
theorem lw_privs_ok : ∀ q ∈ lw_privs, lw_okq q := by
  show ∀ q ∈ lw_privs_1 ++ (lw_privs_2 ++ (lw_privs_3)), lw_okq q
  exact List.forall_mem_append.mpr ⟨lw_r1, List.forall_mem_append.mpr ⟨lw_r2, lw_r3⟩⟩
/-- the streams that the claim lets the run draw from -/
abbrev lw_cs : List Choice := [Jvm.Choice.named "NaN.bits"]
theorem lw_bits : nanBits ∈ lw_cs := by first | decide | exact List.mem_cons_self | simp [lw_cs, nanBits]
-- ===== end of PART A; then your names; then what follows =====
end
section
/-! ===== BEGIN words of one list among another's, by their places ===== -/
theorem goodIn_r {big : List Cond} (ws : List Cond) (ps : List Nat) (hp : ws = ps.filterMap (fun i => big[i]?)) (h : ws.all goodWord = true) : GoodIn big ws := by
  intro w hw
  have h1 := List.all_eq_true.mp h w hw
  rw [hp] at hw
  obtain ⟨i, -, hi⟩ := List.mem_filterMap.mp hw
  have hm : w ∈ big := by first | exact List.mem_of_getElem? hi | exact List.getElem?_mem hi
  exact ⟨hm, good_of_word h1⟩
theorem goodIn_app {big a b : List Cond} (ha : GoodIn big a) (hb : GoodIn big b) : GoodIn big (a ++ b) := fun w h => (List.mem_append.mp h).elim (ha w) (hb w)
theorem goodIn_ca {big a b : List Cond} {c : Cond} (ha : GoodIn big (c :: a)) (hb : GoodIn big b) : GoodIn big (c :: (a ++ b)) := fun w h => (List.mem_cons.mp h).elim (fun e => ha w (List.mem_cons.mpr (Or.inl e))) (fun h => (List.mem_append.mp h).elim (fun h => ha w (List.mem_cons.mpr (Or.inr h))) (hb w))
theorem goodIn_sub {big ws : List Cond} (hm : ∀ w ∈ ws, w ∈ big) (h : ws.all goodWord = true) : GoodIn big ws := fun w hw => ⟨hm w hw, good_of_word (List.all_eq_true.mp h w hw)⟩
/-! ===== END ===== -/

/-! ===== BEGIN exceptions that leave a method, and their catching by the caller (launches without stack traces) ===== -/
section VXA
/-! The laws vx_back, vx_callV, vx_callS, vx_callSW, vx_throw0, vx_throwS follow proofs of the library, with one case more: JvmDerived/Free/Laws.lean (Back.of_free), Shelf42/LK1.lean (callV, callS), Shelf/KitTraced.lean (throwNew0V, throwNewS). -/
/-- where a method has thrown q: the class by its name, the cell, what was written, the world -/
def vx_T (XC : String → State → State → Prop) (st : State) (q : Addr) (t : State) (mc ms : Nat) (free : Addr → Prop) : Prop :=
  ∃ (E : String) (ce : Cell) (L : List Loc), XC E st t ∧ t.heap[q]? = some ce ∧ ce.vm = .none ∧ st.vm.findClass E = some ce.cls ∧ st.WarmedH t.vm ∧ st.sameButNew ({ t with vm := st.vm } : State) L mc ms ∧ ∀ z ∈ L, free z.base
def vx_Q (Qc : Array Value → State → Outcome → State → Prop) (XC : String → State → State → Prop) (mc ms : Nat) (free : Addr → Prop) : Array Value → State → Outcome → State → Prop := fun a st o t =>
  (Qc a st o t ∧ ∃ L, FrameEnd st o t L mc ms ∧ ∀ q ∈ L, free q.base) ∨ ∃ q, o = .threw q ∧ vx_T XC st q t mc ms free
/-- a callee that returns or throws -/
def vx_Met (l : Launch) (y : MethodName) (ws : List Cond) (rm : Room) (Pc : Array Value → State → Prop) (Qc : Array Value → State → Outcome → State → Prop) (XC : String → State → State → Prop) (mc ms : Nat) (free : Addr → Prop) : Prop :=
  MetFree l y (headSpec ws rm) Pc (fun _ _ _ _ _ => True) (vx_Q Qc XC mc ms free)
def vx_Post (XC : String → State → State → Prop) (mc ms : Nat) (free : Addr → Prop) : Pt → Array Value → Addr → Pt → Prop := fun A a q B =>
  ∃ (g : JFrame) (mk : MethodId) (t : State) (L : List Loc) (E : String) (ce : Cell), B.U.heap = t.heap ∧ B.U.vm = t.vm ∧ XC E (A.U.calling g mk a) t ∧ t.heap[q]? = some ce ∧ ce.vm = .none ∧ A.U.vm.findClass E = some ce.cls ∧ B.locs = A.locs ++ L ∧ (∀ z ∈ L, free z.base) ∧ B.cells = A.cells + mc ∧ B.slots = A.slots + ms
def vx_Back (l : Launch) (R : Room) (p : Program) (e : Env) (below : List Frame) (s : State) (sargs : Array Value) (y : MethodName) (len W9 : Nat)
    (Pre : Pt → Array Value → Prop) (Post : Pt → Array Value → Option Value → Pt → Prop) (PostX : Pt → Array Value → Addr → Pt → Prop) : Prop :=
  ∀ (m : MethodId) (meth : Method) (c : Code) (A : Pt) (g : JFrame) (ig : Instr) (mk : MethodId) (a : Array Value),
    Stand p l e R s m sargs below meth c A.U A.locs A.cells A.slots → g.method = m → g.locals.size = c.maxLocals → decode c.code g.pc = .ok (ig, len) →
    2 * g.monitorRoom + (g.stack.map fun v => v.category).sum ≤ W9 → A.U.methodNamed? y = some mk → Pre A a →
    (∃ (v : Option Value) (B : Pt), Stand p l e R s m sargs below meth c B.U B.locs B.cells B.slots ∧ Post A a v B ∧
      Steps p.tables e below (doInvoke e (A.U.setTop g) [] mk a).1 (B.U.setTop { g with pc := g.pc + len, stack := v.toList ++ g.stack })) ∨
    (∃ (q : Addr) (B : Pt), Stand p l e R s m sargs below meth c B.U B.locs B.cells B.slots ∧ PostX A a q B ∧
      Steps p.tables e below (doInvoke e (A.U.setTop g) [] mk a).1 ((B.U.setTop g).pushFrame (.throwing q)))
section Payer
variable {l : Launch} {R : Room} {p : Program} {e : Env} {below : List Frame} {s : State} {sargs : Array Value} {y : MethodName} {len W9 : Nat}
theorem vx_back {ws : List Cond} {rm : Room} {Pc : Array Value → State → Prop} {Qc : Array Value → State → Outcome → State → Prop} {XC : String → State → State → Prop} {mc ms : Nat} {free : Addr → Prop} {bytes : ByteArray} {maxL : Nat} {ret : Option FieldType}
    (hM : vx_Met l y ws rm Pc Qc XC mc ms free) (hblind : FrameBlind Pc) (hrc : rm.cells = mc) (hrs : rm.slots = ms)
    (hframes : rm.frames + 1 ≤ R.frames) (hlocals : W9 + (maxL + 11) + rm.locals ≤ R.locals)
    (hws : ∀ w ∈ ws, ∀ a' U, s.WarmedH U.vm → w.before a' U = true) (hcode : Cond.code y bytes maxL ret ∈ ws) (hinit : ∀ a' U, s.WarmedH U.vm → (Cond.initialized y.cls).before a' U = true) :
    vx_Back l R p e below s sargs y len W9 (PreOf R mc ms Pc) (PostOf Qc mc ms free) (vx_Post XC mc ms free) := by
  intro m meth c A g ig mk a X hg hsize hdg hW hn hp
  have h1 : (headSpec ws rm).pre.before a A.U = true := atoms_intro fun w hw => hws w hw _ _ X.warmed
  have h2 : (Cond.code y bytes maxL ret).before a A.U = true := hws _ hcode _ _ X.warmed
  have h3 : (Cond.initialized y.cls).before a A.U = true := hinit _ _ X.warmed
  have h4 : A.cells + (headSpec ws rm).room.cells ≤ R.cells := by rw [show (headSpec ws rm).room.cells = mc from hrc]; exact hp.1
  have h5 : A.slots + (headSpec ws rm).room.slots ≤ R.slots := by rw [show (headSpec ws rm).room.slots = ms from hrs]; exact hp.2.1
  have hPc : Pc a (A.U.calling g mk a) := hblind _ _ _ _ hp.2.2
  obtain ⟨U, Ls, c0, s0⟩ := A
  dsimp only [Pt.U, Pt.locs, Pt.cells, Pt.slots] at h1 h2 h3 h4 h5 X hn hPc ⊢
  obtain ⟨methY, cY, hmY, hcY, -, hlY, -, -, -, -⟩ := Cond.code_spec hn h2
  obtain ⟨kY, hkY, -⟩ := className_of_methodNamed hn
  have hinitY : kY.init = .initialized := Cond.initialized_spec (findClass_of_methodNamed hn) hkY h3
  have h : At U g.method c below := by rw [hg]; exact X.here
  have hlocals9 : W9 + (maxL + 11) + (headSpec ws rm).room.locals ≤ R.locals := hlocals
  have happ : (headSpec ws rm).appliesLoose y e.platform (U.calling g mk a) = true :=
    Spec.appliesLoose_calling (g := g) h hdg hn hkY hinitY
      (X.room_calling (g := g) (R' := (headSpec ws rm).room) hsize hmY hcY hframes (by rw [hlY]; omega) h4 h5) h1
  obtain ⟨mid, hmid⟩ := h.above
  have hfr : (U.setTop g).frames = (.java g :: mid) ++ below := by rw [State.frames_setTop' g h.top, hmid]; rfl
  obtain ⟨o, s₂, hsteps, -, hend, hq⟩ := Steps.callFree hM p X.admits X.cas X.clock (acts := []) hfr happ hPc trivial
  have hq' : vx_Q Qc XC mc ms free a (U.calling g mk a) o s₂ := hq
  rw [State.frames_setTop' g h.top] at hend
  obtain ⟨g₀, hg0⟩ := Option.isSome_iff_exists.mp h.top
  obtain ⟨r, hr⟩ := State.topJava?_eq_some.mp hg0
  have hr' : (({ U with heap := s₂.heap, slotsUsed := s₂.slotsUsed } : State).setVm s₂.vm).frames = .java g₀ :: r := hr
  rcases hq' with ⟨hqc, L, hfe, hL⟩ | ⟨q, rfl, E, ce, L, hx, hce, hcv, hcl, hW₂, hsm, hL⟩
  · obtain ⟨⟨v, rfl⟩, hW₂, e2, q2, q3, q4, q5, q6⟩ := id hfe
    have e3 : s₂ = ({ (U.calling g mk a).setFrames s₂.frames with heap := s₂.heap, slotsUsed := s₂.slotsUsed } : State).setVm s₂.vm := by
      have : s₂ = ({ s₂ with vm := (U.calling g mk a).vm } : State).setVm s₂.vm := rfl
      rw [e2] at this
      exact this
    obtain ⟨c₂, i₂, len₂, hc₂, hd₂, hf₂⟩ := hend
    have hW' : U.WarmedH s₂.vm := hW₂
    have hcc : c₂ = c := by
      have h1 : s₂.code? g.method = U.code? g.method := by
        rw [State.code?_eq, State.code?_eq, hW'.alike.method?]
      exact Option.some.inj (hc₂.symm.trans (h1.trans h.code))
    subst hcc
    have hlen : len₂ = len := by rw [hdg] at hd₂; cases hd₂; rfl
    subst hlen
    have hs₂ : s₂ = (({ U with heap := s₂.heap, slotsUsed := s₂.slotsUsed } : State).setVm s₂.vm).setTop { g with pc := g.pc + len₂, stack := v.toList ++ g.stack } := by
      refine e3.trans ?_
      rw [hf₂, State.calling_eq h.top, State.setFrames_setFrames, State.setTop_of_frames _ hr', hr]
      rfl
    have hsame : U.sameButNew ({ U with heap := s₂.heap, slotsUsed := s₂.slotsUsed } : State) L mc ms := by
      refine ⟨?_, q2, q3, q4, q5, q6⟩
      obtain ⟨t, ht, -⟩ := State.frames_cons hr
      show ({ U with heap := s₂.heap, slotsUsed := s₂.slotsUsed } : State) = { U.setFrames U.frames with heap := s₂.heap, slotsUsed := s₂.slotsUsed }
      rw [State.setFrames_self ht]
    subst hg
    refine Or.inl ⟨v, ⟨(({ U with heap := s₂.heap, slotsUsed := s₂.slotsUsed } : State).setVm s₂.vm), Ls ++ L, c0 + mc, s0 + ms⟩,
      ⟨X.admits, X.cas, X.clock, X.frames, X.room, X.hears, X.method, X.code, (X.here.setHeapUsed s₂.heap s₂.slotsUsed).setVm hW'.alike, X.tail, State.WarmedH.trans X.warmed hW', X.limits, X.bytes, X.same.trans (hsame.setVm s.vm)⟩,
      ⟨g, mk, s₂, L, rfl, rfl, hqc, rfl, hL, rfl, rfl⟩, ?_⟩
    show Steps p.tables e below _ ((({ U with heap := s₂.heap, slotsUsed := s₂.slotsUsed } : State).setVm s₂.vm).setTop { g with pc := g.pc + len₂, stack := v.toList ++ g.stack })
    rw [← hs₂]
    exact hsteps
  · obtain ⟨e2, q2, q3, q4, q5, q6⟩ := id hsm
    have e3 : s₂ = ({ (U.calling g mk a).setFrames s₂.frames with heap := s₂.heap, slotsUsed := s₂.slotsUsed } : State).setVm s₂.vm := by
      have : s₂ = ({ s₂ with vm := (U.calling g mk a).vm } : State).setVm s₂.vm := rfl
      rw [e2] at this
      exact this
    have hf₂ : s₂.frames = .throwing q :: .java g :: U.frames.tail := hend
    have hW' : U.WarmedH s₂.vm := hW₂
    have hs₂ : s₂ = ((({ U with heap := s₂.heap, slotsUsed := s₂.slotsUsed } : State).setVm s₂.vm).setTop g).pushFrame (.throwing q) := by
      refine e3.trans ?_
      rw [hf₂, State.calling_eq h.top, State.setFrames_setFrames, State.pushFrame, State.frames_setTop _ hr', State.setTop_of_frames _ hr', State.setFrames_setFrames, hr]
      rfl
    have hsame : U.sameButNew ({ U with heap := s₂.heap, slotsUsed := s₂.slotsUsed } : State) L mc ms := by
      refine ⟨?_, q2, q3, q4, q5, q6⟩
      obtain ⟨t, ht, -⟩ := State.frames_cons hr
      show ({ U with heap := s₂.heap, slotsUsed := s₂.slotsUsed } : State) = { U.setFrames U.frames with heap := s₂.heap, slotsUsed := s₂.slotsUsed }
      rw [State.setFrames_self ht]
    subst hg
    refine Or.inr ⟨q, ⟨(({ U with heap := s₂.heap, slotsUsed := s₂.slotsUsed } : State).setVm s₂.vm), Ls ++ L, c0 + mc, s0 + ms⟩,
      ⟨X.admits, X.cas, X.clock, X.frames, X.room, X.hears, X.method, X.code, (X.here.setHeapUsed s₂.heap s₂.slotsUsed).setVm hW'.alike, X.tail, State.WarmedH.trans X.warmed hW', X.limits, X.bytes, X.same.trans (hsame.setVm s.vm)⟩,
      ⟨g, mk, s₂, L, E, ce, rfl, rfl, hx, hce, hcv, hcl, rfl, hL, rfl, rfl⟩, ?_⟩
    show Steps p.tables e below _ (((({ U with heap := s₂.heap, slotsUsed := s₂.slotsUsed } : State).setVm s₂.vm).setTop g).pushFrame (.throwing q))
    rw [← hs₂]
    exact hsteps
end Payer
section Calls
variable {p : Program} {l : Launch} {e : Env} {R : Room} {s : State} {m : MethodId} {args : Array Value} {below : List Frame} {meth : Method} {c : Code} {T : State} {locs : List Loc} {cells slots : Nat}
theorem vx_callV (X : Stand p l e R s m args below meth c T locs cells slots) (hexec : p.tables.exec = Jvm.exec) {own C : String} {index : Nat} {y : MethodName} {bytes : ByteArray} {maxL : Nat} {ret : Option FieldType}
    (hown : s.vm.findClass own = some m.cls) (hlink : (Cond.methodLink own index y).before args s = true) (hinst : (Cond.instanceMethod y).before args s = true) (hsel : (Cond.selects C y y).before args s = true)
    (hcode : (Cond.code y bytes maxL ret).before args s = true) (hy : y.cls ≠ "java/lang/invoke/MethodHandle" ∧ y.cls ≠ "java/lang/invoke/VarHandle")
    {W9 : Nat} {Pre : Pt → Array Value → Prop} {Post : Pt → Array Value → Option Value → Pt → Prop} {PostX : Pt → Array Value → Addr → Pt → Prop} (hK : vx_Back l R p e below s args y 3 W9 Pre Post PostX)
    {b : Addr} {cellB : Cell} (hcell : T.heap[b]? = some cellB) (hobj : cellB.vm.isStatics = false) (hcls : s.vm.findClass C = some cellB.cls)
    {g : JFrame} (hg : g.method = m) (hsize : g.locals.size = c.maxLocals) {argsL rest : List Value} (hlen : ∀ sig, parseMethodDescriptor y.desc = some sig → argsL.length = sig.parameters.length)
    (hstack : g.stack = argsL.reverse ++ .ref b :: rest) (hW : 2 * g.monitorRoom + (rest.map fun v => v.category).sum ≤ W9) (hdg : decode c.code g.pc = .ok (.invokevirtual index, 3))
    (hpre : ∀ vm₁, s.WarmedH vm₁ → Pre ⟨T.setVm vm₁, locs, cells, slots⟩ (Value.ref b :: argsL).toArray) :
    (∃ (v : Option Value) (vm₁ : Vm) (B : Pt), s.WarmedH vm₁ ∧ Stand p l e R s m args below meth c B.U B.locs B.cells B.slots ∧ Post ⟨T.setVm vm₁, locs, cells, slots⟩ (Value.ref b :: argsL).toArray v B ∧
      ∀ target, Steps p.tables e below (B.U.setTop { g with pc := g.pc + 3, stack := v.toList ++ rest }) target → Steps p.tables e below (T.setTop g) target) ∨
    (∃ (q : Addr) (vm₁ : Vm) (B : Pt), s.WarmedH vm₁ ∧ Stand p l e R s m args below meth c B.U B.locs B.cells B.slots ∧ PostX ⟨T.setVm vm₁, locs, cells, slots⟩ (Value.ref b :: argsL).toArray q B ∧
      Steps p.tables e below (T.setTop g) ((B.U.setTop { g with stack := rest }).pushFrame (.throwing q))) := by
  obtain ⟨mk, methM, hnamed, hmethM, hstM, habM⟩ := Cond.instanceMethod_spec hinst
  obtain ⟨methM', cM, hmethM', -, -, -, -, -, -, hsigM⟩ := Cond.code_spec hnamed hcode
  cases hmethM.symm.trans hmethM'
  obtain ⟨c2, r2, m2, q1, q2, q3, q4, kP, hkP, hkPi⟩ := Cond.selects_spec hsel
  cases hcls.symm.trans q1
  cases (State.methodFound?_of_named hnamed hy).symm.trans q2
  cases hnamed.symm.trans q3
  have hselP : selectMethod e.platform s.vm cellB.cls mk = .method mk := by rw [Launch.admits_selectMethod X.admits]; exact q4
  obtain ⟨vm₁, X₁, hstep₁⟩ := X.invokevirtual hexec hown hlink hnamed hmethM hstM hkP hkPi hy (a := b) (cell := cellB) hcell
    (fun z h => by rw [h] at hobj; cases hobj) hselP hmethM habM hkP hkPi (g := g) hg (argsL := argsL) (rest := rest) (hlen _ hsigM) hstack hdg
  rcases hK m meth c ⟨T.setVm vm₁, locs, cells, slots⟩ { g with stack := rest } (.invokevirtual index) mk (Value.ref b :: argsL).toArray X₁ hg hsize hdg hW (X₁.named hnamed) (hpre vm₁ X₁.warmed) with ⟨v, B, X', hpost, hsteps⟩ | ⟨q, B, X', hpost, hsteps⟩
  · exact Or.inl ⟨v, vm₁, B, X₁.warmed, X', hpost, fun target h => hstep₁ _ fun acts => by rw [doInvoke_state]; exact hsteps.trans h⟩
  · exact Or.inr ⟨q, vm₁, B, X₁.warmed, X', hpost, hstep₁ _ fun acts => by rw [doInvoke_state]; exact hsteps⟩
theorem vx_callS (X : Stand p l e R s m args below meth c T locs cells slots) (hexec : p.tables.exec = Jvm.exec) {own : String} {index : Nat} {y : MethodName} {bytes : ByteArray} {maxL : Nat} {ret : Option FieldType}
    (hown : s.vm.findClass own = some m.cls) (hlink : (Cond.methodLink own index y).before args s = true) (hstat : (Cond.static y).before args s = true) (hinit : (Cond.initialized y.cls).before args s = true)
    (hcode : (Cond.code y bytes maxL ret).before args s = true) (hy : y.cls ≠ "java/lang/invoke/MethodHandle" ∧ y.cls ≠ "java/lang/invoke/VarHandle")
    {W9 : Nat} {Pre : Pt → Array Value → Prop} {Post : Pt → Array Value → Option Value → Pt → Prop} {PostX : Pt → Array Value → Addr → Pt → Prop} (hK : vx_Back l R p e below s args y 3 W9 Pre Post PostX)
    {g : JFrame} (hg : g.method = m) (hsize : g.locals.size = c.maxLocals) {argsL rest : List Value} (hlen : ∀ sig, parseMethodDescriptor y.desc = some sig → argsL.length = sig.parameters.length)
    (hstack : g.stack = argsL.reverse ++ rest) (hW : 2 * g.monitorRoom + (rest.map fun v => v.category).sum ≤ W9) (hdg : decode c.code g.pc = .ok (.invokestatic index, 3))
    (hpre : ∀ vm₁, s.WarmedH vm₁ → Pre ⟨T.setVm vm₁, locs, cells, slots⟩ argsL.toArray) :
    (∃ (v : Option Value) (vm₁ : Vm) (B : Pt), s.WarmedH vm₁ ∧ Stand p l e R s m args below meth c B.U B.locs B.cells B.slots ∧ Post ⟨T.setVm vm₁, locs, cells, slots⟩ argsL.toArray v B ∧
      ∀ target, Steps p.tables e below (B.U.setTop { g with pc := g.pc + 3, stack := v.toList ++ rest }) target → Steps p.tables e below (T.setTop g) target) ∨
    (∃ (q : Addr) (vm₁ : Vm) (B : Pt), s.WarmedH vm₁ ∧ Stand p l e R s m args below meth c B.U B.locs B.cells B.slots ∧ PostX ⟨T.setVm vm₁, locs, cells, slots⟩ argsL.toArray q B ∧
      Steps p.tables e below (T.setTop g) ((B.U.setTop { g with stack := rest }).pushFrame (.throwing q))) := by
  obtain ⟨mk, hnamed⟩ := Cond.code_named hcode
  obtain ⟨methM, cM, hmethM, -, -, -, -, -, -, hsigM⟩ := Cond.code_spec hnamed hcode
  have hstatic : methM.isStatic = true := Cond.static_spec hnamed hmethM hstat
  obtain ⟨kP, hkP, -⟩ := className_of_methodNamed hnamed
  have hinitP : kP.init = .initialized := Cond.initialized_spec (findClass_of_methodNamed hnamed) hkP hinit
  obtain ⟨vm₁, X₁, hstep₁⟩ := X.invokestatic hexec hown hlink hnamed hmethM hstatic hkP hinitP hy (g := g) hg (argsL := argsL) (rest := rest) (hlen _ hsigM) hstack hdg
  rcases hK m meth c ⟨T.setVm vm₁, locs, cells, slots⟩ { g with stack := rest } (.invokestatic index) mk argsL.toArray X₁ hg hsize hdg hW (X₁.named hnamed) (hpre vm₁ X₁.warmed) with ⟨v, B, X', hpost, hsteps⟩ | ⟨q, B, X', hpost, hsteps⟩
  · exact Or.inl ⟨v, vm₁, B, X₁.warmed, X', hpost, fun target h => hstep₁ _ fun acts => by rw [doInvoke_state]; exact hsteps.trans h⟩
  · exact Or.inr ⟨q, vm₁, B, X₁.warmed, X', hpost, hstep₁ _ fun acts => by rw [doInvoke_state]; exact hsteps⟩
end Calls
theorem vx_cls {s : State} {T : State} {vm₁ : Vm} {E : String} {k : ClassId} (hW : s.WarmedH vm₁) (h : (T.setVm vm₁).vm.findClass E = some k) : s.vm.findClass E = some k := by
  have h1 : vm₁.findClass E = some k := h
  rw [hW.alike.findClass] at h1
  exact h1
/-- the method's frame g, with q thrown over it -/
def vx_W (p : Program) (l : Launch) (e : Env) (R : Room) (s : State) (m : MethodId) (args : Array Value) (below : List Frame) (meth : Method) (c : Code) (H : Heap) (locs : List Loc) (cells slots : Nat) (Q : State → Prop) (g : JFrame) (q : Addr) : Prop :=
  ∀ T : State, T.heap = H → Stand p l e R s m args below meth c T locs cells slots → ∃ t, Steps p.tables e below ((T.setTop g).pushFrame (.throwing q)) t ∧ Q t
def vx_Run (p : Program) (l : Launch) (e : Env) (R : Room) (s : State) (m : MethodId) (args : Array Value) (below : List Frame) (meth : Method) (c : Code) (H : Heap) (locs : List Loc) (cells slots mc ms : Nat) (g : JFrame) (rest : List Value) (Qa : State → Outcome → State → Prop) (XC : String → State → State → Prop) (free : Addr → Prop) : Prop :=
  ∀ T : State, T.heap = H → Stand p l e R s m args below meth c T locs cells slots →
    (∃ (v : Option Value) (st₀ t T' : State) (L : List Loc), st₀.heap = H ∧ Stand p l e R s m args below meth c T' (locs ++ L) (cells + mc) (slots + ms) ∧ (∀ q ∈ L, free q.base) ∧ T'.heap = t.heap ∧ T'.vm = t.vm ∧ Qa st₀ (.returned v) t ∧
      Goes p e below T g T' { g with pc := g.pc + 3, stack := v.toList ++ rest }) ∨
    (∃ (q : Addr) (st₀ t T' : State) (L : List Loc) (E : String) (ce : Cell), st₀.heap = H ∧ Stand p l e R s m args below meth c T' (locs ++ L) (cells + mc) (slots + ms) ∧ (∀ z ∈ L, free z.base) ∧ T'.heap = t.heap ∧ T'.vm = t.vm ∧ XC E st₀ t ∧ t.heap[q]? = some ce ∧ ce.vm = .none ∧ s.vm.findClass E = some ce.cls ∧
      Steps p.tables e below (T.setTop g) ((T'.setTop { g with stack := rest }).pushFrame (.throwing q)))
def vx_X {S : Type} (px : S → Prop) (B : String → S → State → Prop) (A : Nat → Prop) : String → State → State → Prop := fun E st t => ∃ u : S, px u ∧ B E u t ∧ va_F A st t
section Runs
variable {p : Program} {l : Launch} {e : Env} {R : Room} {s : State} {m : MethodId} {args : Array Value} {below : List Frame} {meth : Method} {c : Code} {H : Heap} {locs : List Loc} {cells slots : Nat}
variable {y : MethodName} {bytes cc : ByteArray} {maxL nL mc ms n index : Nat} {ret : Option FieldType} {ws : List Cond} {rm : Room} {Pc : Array Value → State → Prop} {Qc : Array Value → State → Outcome → State → Prop} {XC : String → State → State → Prop} {free : Addr → Prop} {Ts : List Cond} {own C : String} {b : Addr} {As rest : List Value} {g : JFrame}
theorem vx_callBack (cb : CallB R s args own index y bytes maxL ret ws rm mc ms n) (hM : vx_Met l y ws rm Pc Qc XC mc ms free) (hbl : FrameBlind Pc) : vx_Back l R p e below s args y 3 8 (PreOf R mc ms Pc) (PostOf Qc mc ms free) (vx_Post XC mc ms free) := by
  obtain ⟨hrc, hrs, hfr, hlo, hws, hcw, -, hini, -⟩ := cb
  exact vx_back (bytes := bytes) (maxL := maxL) (ret := ret) hM hbl hrc hrs hfr hlo hws hcw (fun a' U hW => word_at hW (Or.inl (by first | rfl | simp [Cond.onTables, Cond.keeps, Cond.steady])) hini)
theorem vx_runV (S : CallFix p m c cc nL s args Ts own) (hM : vx_Met l y ws rm Pc Qc XC mc ms free) (cw : CallW R s args own C index y bytes maxL ret ws rm mc ms n) (hp : PreV s H C b Pc As)
    (hg : g.method = m) (hn : As.length = n) (hsize : g.locals.size = nL) (hstack : g.stack = As.reverse ++ .ref b :: rest) (hW : 2 * g.monitorRoom + (rest.map fun v => v.category).sum ≤ 8) (hdg : decode cc g.pc = .ok (.invokevirtual index, 3)) (hf : cells + mc ≤ R.cells ∧ slots + ms ≤ R.slots) :
    vx_Run p l e R s m args below meth c H locs cells slots mc ms g rest (Qc (Value.ref b :: As).toArray) XC free := by
  have hK : vx_Back l R p e below s args y 3 8 (PreOf R mc ms Pc) (PostOf Qc mc ms free) (vx_Post XC mc ms free) := vx_callBack cw.1 hM hp.1
  obtain ⟨⟨-, -, -, -, -, -, hcode, -, hy, hlen, hl⟩, hin, hse⟩ := cw
  obtain ⟨hx, hb, hml, ho, -⟩ := S
  obtain ⟨-, ⟨cellB, hcB, hoB, hclB⟩, hPc⟩ := hp
  intro T hT X
  rcases vx_callV X hx (C := C) (bytes := bytes) (maxL := maxL) (ret := ret) ho hl hin hse hcode hy hK (by rw [hT]; exact hcB) hoB hclB hg (hsize.trans hml.symm) (argsL := As) (rest := rest) (fun sig h => hn.trans (hlen sig h)) hstack hW (by rw [hb]; exact hdg)
    (fun vm₁ hW₁ => ⟨hf.1, hf.2, hPc (T.setVm vm₁) hT hW₁⟩) with ⟨v, vm₁, ⟨U', l2, c2, s2⟩, hW₁, X', ⟨g', mk, t, L, e1, e2, hq, h1, hL, h2, h3⟩, st⟩ | ⟨q, vm₁, ⟨U', l2, c2, s2⟩, hW₁, X', ⟨g', mk, t, L, E, ce, e1, e2, hq, hce, hcv, hcl, h1, hL, h2, h3⟩, st⟩
  · dsimp only [Pt.U, Pt.locs, Pt.cells, Pt.slots] at X' e1 e2 h1 h2 h3 st
    subst h1; subst h2; subst h3
    exact Or.inl ⟨v, (T.setVm vm₁).calling g' mk (Value.ref b :: As).toArray, t, U', L, hT, X', hL, e1, e2, hq, st⟩
  · dsimp only [Pt.U, Pt.locs, Pt.cells, Pt.slots] at X' e1 e2 h1 h2 h3 st hcl
    subst h1; subst h2; subst h3
    exact Or.inr ⟨q, (T.setVm vm₁).calling g' mk (Value.ref b :: As).toArray, t, U', L, E, ce, hT, X', hL, e1, e2, hq, hce, hcv, vx_cls hW₁ hcl, st⟩
theorem vx_runS (S : CallFix p m c cc nL s args Ts own) (hM : vx_Met l y ws rm Pc Qc XC mc ms free) (cw : CallB R s args own index y bytes maxL ret ws rm mc ms n ∧ (Cond.static y).before args s = true) (hp : PreS s H Pc As)
    (hg : g.method = m) (hn : As.length = n) (hsize : g.locals.size = nL) (hstack : g.stack = As.reverse ++ rest) (hW : 2 * g.monitorRoom + (rest.map fun v => v.category).sum ≤ 8) (hdg : decode cc g.pc = .ok (.invokestatic index, 3)) (hf : cells + mc ≤ R.cells ∧ slots + ms ≤ R.slots) :
    vx_Run p l e R s m args below meth c H locs cells slots mc ms g rest (Qc As.toArray) XC free := by
  have hK : vx_Back l R p e below s args y 3 8 (PreOf R mc ms Pc) (PostOf Qc mc ms free) (vx_Post XC mc ms free) := vx_callBack cw.1 hM hp.1
  obtain ⟨⟨-, -, -, -, -, -, hcode, hini, hy, hlen, hl⟩, hstt⟩ := cw
  obtain ⟨hx, hb, hml, ho, -⟩ := S
  intro T hT X
  rcases vx_callS X hx (bytes := bytes) (maxL := maxL) (ret := ret) ho hl hstt hini hcode hy hK hg (hsize.trans hml.symm) (argsL := As) (rest := rest) (fun sig h => hn.trans (hlen sig h)) hstack hW (by rw [hb]; exact hdg)
    (fun vm₁ hW₁ => ⟨hf.1, hf.2, hp.2 (T.setVm vm₁) hT hW₁⟩) with ⟨v, vm₁, ⟨U', l2, c2, s2⟩, hW₁, X', ⟨g', mk, t, L, e1, e2, hq, h1, hL, h2, h3⟩, st⟩ | ⟨q, vm₁, ⟨U', l2, c2, s2⟩, hW₁, X', ⟨g', mk, t, L, E, ce, e1, e2, hq, hce, hcv, hcl, h1, hL, h2, h3⟩, st⟩
  · dsimp only [Pt.U, Pt.locs, Pt.cells, Pt.slots] at X' e1 e2 h1 h2 h3 st
    subst h1; subst h2; subst h3
    exact Or.inl ⟨v, (T.setVm vm₁).calling g' mk As.toArray, t, U', L, hT, X', hL, e1, e2, hq, st⟩
  · dsimp only [Pt.U, Pt.locs, Pt.cells, Pt.slots] at X' e1 e2 h1 h2 h3 st hcl
    subst h1; subst h2; subst h3
    exact Or.inr ⟨q, (T.setVm vm₁).calling g' mk As.toArray, t, U', L, E, ce, hT, X', hL, e1, e2, hq, hce, hcv, vx_cls hW₁ hcl, st⟩
end Runs
section Rows
variable {p : Program} {l : Launch} {e : Env} {R : Room} {s : State} {m : MethodId} {args : Array Value} {below : List Frame} {meth : Method} {c : Code} {H : Heap} {locs : List Loc} {cells slots : Nat} {Q : State → Prop}
variable {mc ms : Nat} {free : Addr → Prop} {A0 A1 : Nat → Prop} {H0 : Heap} {a : Array Value} {pc : Nat} {ls : Array Slot} {st0 rest : List Value}
theorem vx_keep {st₀ t T' : State} {L : List Loc} (h0 : st₀.heap = H) (e1 : T'.heap = t.heap) (hS : va_S A0 H0 H locs) (hA : ∀ q, q < H.size → A1 q → A0 q) (hf : ∀ q, free q → A0 q) (hL : ∀ q ∈ L, free q.base) (hF : va_F A1 st₀ t) :
    H.size ≤ T'.heap.size ∧ (∀ q : Nat, q < H.size → ¬ A1 q → T'.heap[q]? = H[q]?) ∧ va_S A0 H0 T'.heap (locs ++ L) := by
  obtain ⟨hz, hk⟩ := hF
  rw [h0] at hz hk
  exact ⟨by rw [e1]; exact hz, fun q h1 h2 => by rw [e1]; exact hk q h1 h2,
    ⟨Nat.le_trans hS.1 (by rw [e1]; exact hz), fun q h1 h2 => by rw [e1, hk q (Nat.lt_of_lt_of_le h1 hS.1) (fun z => h2 (hA q (Nat.lt_of_lt_of_le h1 hS.1) z))]; exact hS.2.1 q h1 h2, fun q hq => by
      rcases List.mem_append.mp hq with h | h
      · exact hS.2.2 q h
      · exact hf _ (hL q h)⟩⟩
theorem vx_calli {S SX : Type} {post : Int32 → S → Prop} {px : SX → Prop} {B : S → State → Prop} {BX : String → SX → State → Prop} {AX : Nat → Prop} (hr : vx_Run p l e R s m args below meth c H locs cells slots mc ms (F0 m pc ls st0) rest (va_Qi post B A1 a) (vx_X px BX AX) free) (hS : va_S A0 H0 H locs) (hA : ∀ q, q < H.size → A1 q → A0 q) (hf : ∀ q, free q → A0 q) (hAX : ∀ q, q < H.size → AX q → A0 q)
    (kx : ∀ (E : String) (ce : Cell) (q9 : Addr) (u : SX) (t : State) (H1 : Heap) (locs1 : List Loc), t.heap = H1 → s.vm.Alike t.vm → px u → BX E u t → H.size ≤ H1.size → (∀ q : Nat, q < H.size → ¬ AX q → H1[q]? = H[q]?) → va_S A0 H0 H1 locs1 → H1[q9]? = some ce → ce.vm = .none → s.vm.findClass E = some ce.cls → vx_W p l e R s m args below meth c H1 locs1 (cells + mc) (slots + ms) Q (F0 m pc ls rest) q9)
    (kk : ∀ (r : Int32) (u : S) (t : State) (H1 : Heap) (locs1 : List Loc), t.heap = H1 → s.vm.Alike t.vm → post r u → B u t → H.size ≤ H1.size → (∀ q : Nat, q < H.size → ¬ A1 q → H1[q]? = H[q]?) → va_S A0 H0 H1 locs1 → W p l e R s m args below meth c H1 locs1 (cells + mc) (slots + ms) Q (F0 m (pc + 3) ls (.int r :: rest))) : W p l e R s m args below meth c H locs cells slots Q (F0 m pc ls st0) := by
  intro T hT X
  rcases hr T hT X with ⟨v, st₀, t, T', L, h0, X', hL, e1, e2, ⟨⟨r, u, hv, hp, hb⟩, hF⟩, st⟩ | ⟨q, st₀, t, T', L, E, ce, h0, X', hL, e1, e2, ⟨u, hp, hb, hF⟩, hce, hcv, hcl, st⟩
  · cases hv
    obtain ⟨k1, k2, k3⟩ := vx_keep h0 e1 hS hA hf hL hF
    obtain ⟨t2, a1, b1⟩ := kk r u t T'.heap (locs ++ L) e1.symm (by rw [← e2]; exact X'.warmed.alike) hp hb k1 k2 k3 T' rfl X'
    exact ⟨t2, st t2 a1, b1⟩
  · obtain ⟨k1, k2, k3⟩ := vx_keep h0 e1 hS hAX hf hL hF
    obtain ⟨t2, a1, b1⟩ := kx E ce q u t T'.heap (locs ++ L) e1.symm (by rw [← e2]; exact X'.warmed.alike) hp hb k1 k2 k3 (by rw [e1]; exact hce) hcv hcl T' rfl X'
    exact ⟨t2, st.trans a1, b1⟩
theorem vx_calll {S SX : Type} {post : Int64 → S → Prop} {px : SX → Prop} {B : S → State → Prop} {BX : String → SX → State → Prop} {AX : Nat → Prop} (hr : vx_Run p l e R s m args below meth c H locs cells slots mc ms (F0 m pc ls st0) rest (va_Ql post B A1 a) (vx_X px BX AX) free) (hS : va_S A0 H0 H locs) (hA : ∀ q, q < H.size → A1 q → A0 q) (hf : ∀ q, free q → A0 q) (hAX : ∀ q, q < H.size → AX q → A0 q)
    (kx : ∀ (E : String) (ce : Cell) (q9 : Addr) (u : SX) (t : State) (H1 : Heap) (locs1 : List Loc), t.heap = H1 → s.vm.Alike t.vm → px u → BX E u t → H.size ≤ H1.size → (∀ q : Nat, q < H.size → ¬ AX q → H1[q]? = H[q]?) → va_S A0 H0 H1 locs1 → H1[q9]? = some ce → ce.vm = .none → s.vm.findClass E = some ce.cls → vx_W p l e R s m args below meth c H1 locs1 (cells + mc) (slots + ms) Q (F0 m pc ls rest) q9)
    (kk : ∀ (r : Int64) (u : S) (t : State) (H1 : Heap) (locs1 : List Loc), t.heap = H1 → s.vm.Alike t.vm → post r u → B u t → H.size ≤ H1.size → (∀ q : Nat, q < H.size → ¬ A1 q → H1[q]? = H[q]?) → va_S A0 H0 H1 locs1 → W p l e R s m args below meth c H1 locs1 (cells + mc) (slots + ms) Q (F0 m (pc + 3) ls (.long r :: rest))) : W p l e R s m args below meth c H locs cells slots Q (F0 m pc ls st0) := by
  intro T hT X
  rcases hr T hT X with ⟨v, st₀, t, T', L, h0, X', hL, e1, e2, ⟨⟨r, u, hv, hp, hb⟩, hF⟩, st⟩ | ⟨q, st₀, t, T', L, E, ce, h0, X', hL, e1, e2, ⟨u, hp, hb, hF⟩, hce, hcv, hcl, st⟩
  · cases hv
    obtain ⟨k1, k2, k3⟩ := vx_keep h0 e1 hS hA hf hL hF
    obtain ⟨t2, a1, b1⟩ := kk r u t T'.heap (locs ++ L) e1.symm (by rw [← e2]; exact X'.warmed.alike) hp hb k1 k2 k3 T' rfl X'
    exact ⟨t2, st t2 a1, b1⟩
  · obtain ⟨k1, k2, k3⟩ := vx_keep h0 e1 hS hAX hf hL hF
    obtain ⟨t2, a1, b1⟩ := kx E ce q u t T'.heap (locs ++ L) e1.symm (by rw [← e2]; exact X'.warmed.alike) hp hb k1 k2 k3 (by rw [e1]; exact hce) hcv hcl T' rfl X'
    exact ⟨t2, st.trans a1, b1⟩
theorem vx_callf {S SX : Type} {post : UInt32 → S → Prop} {px : SX → Prop} {B : S → State → Prop} {BX : String → SX → State → Prop} {AX : Nat → Prop} (hr : vx_Run p l e R s m args below meth c H locs cells slots mc ms (F0 m pc ls st0) rest (va_Qf post B A1 a) (vx_X px BX AX) free) (hS : va_S A0 H0 H locs) (hA : ∀ q, q < H.size → A1 q → A0 q) (hf : ∀ q, free q → A0 q) (hAX : ∀ q, q < H.size → AX q → A0 q)
    (kx : ∀ (E : String) (ce : Cell) (q9 : Addr) (u : SX) (t : State) (H1 : Heap) (locs1 : List Loc), t.heap = H1 → s.vm.Alike t.vm → px u → BX E u t → H.size ≤ H1.size → (∀ q : Nat, q < H.size → ¬ AX q → H1[q]? = H[q]?) → va_S A0 H0 H1 locs1 → H1[q9]? = some ce → ce.vm = .none → s.vm.findClass E = some ce.cls → vx_W p l e R s m args below meth c H1 locs1 (cells + mc) (slots + ms) Q (F0 m pc ls rest) q9)
    (kk : ∀ (r : UInt32) (u : S) (t : State) (H1 : Heap) (locs1 : List Loc), t.heap = H1 → s.vm.Alike t.vm → post r u → B u t → H.size ≤ H1.size → (∀ q : Nat, q < H.size → ¬ A1 q → H1[q]? = H[q]?) → va_S A0 H0 H1 locs1 → W p l e R s m args below meth c H1 locs1 (cells + mc) (slots + ms) Q (F0 m (pc + 3) ls (.float r :: rest))) : W p l e R s m args below meth c H locs cells slots Q (F0 m pc ls st0) := by
  intro T hT X
  rcases hr T hT X with ⟨v, st₀, t, T', L, h0, X', hL, e1, e2, ⟨⟨r, u, hv, hp, hb⟩, hF⟩, st⟩ | ⟨q, st₀, t, T', L, E, ce, h0, X', hL, e1, e2, ⟨u, hp, hb, hF⟩, hce, hcv, hcl, st⟩
  · cases hv
    obtain ⟨k1, k2, k3⟩ := vx_keep h0 e1 hS hA hf hL hF
    obtain ⟨t2, a1, b1⟩ := kk r u t T'.heap (locs ++ L) e1.symm (by rw [← e2]; exact X'.warmed.alike) hp hb k1 k2 k3 T' rfl X'
    exact ⟨t2, st t2 a1, b1⟩
  · obtain ⟨k1, k2, k3⟩ := vx_keep h0 e1 hS hAX hf hL hF
    obtain ⟨t2, a1, b1⟩ := kx E ce q u t T'.heap (locs ++ L) e1.symm (by rw [← e2]; exact X'.warmed.alike) hp hb k1 k2 k3 (by rw [e1]; exact hce) hcv hcl T' rfl X'
    exact ⟨t2, st.trans a1, b1⟩
theorem vx_calld {S SX : Type} {post : UInt64 → S → Prop} {px : SX → Prop} {B : S → State → Prop} {BX : String → SX → State → Prop} {AX : Nat → Prop} (hr : vx_Run p l e R s m args below meth c H locs cells slots mc ms (F0 m pc ls st0) rest (va_Qd post B A1 a) (vx_X px BX AX) free) (hS : va_S A0 H0 H locs) (hA : ∀ q, q < H.size → A1 q → A0 q) (hf : ∀ q, free q → A0 q) (hAX : ∀ q, q < H.size → AX q → A0 q)
    (kx : ∀ (E : String) (ce : Cell) (q9 : Addr) (u : SX) (t : State) (H1 : Heap) (locs1 : List Loc), t.heap = H1 → s.vm.Alike t.vm → px u → BX E u t → H.size ≤ H1.size → (∀ q : Nat, q < H.size → ¬ AX q → H1[q]? = H[q]?) → va_S A0 H0 H1 locs1 → H1[q9]? = some ce → ce.vm = .none → s.vm.findClass E = some ce.cls → vx_W p l e R s m args below meth c H1 locs1 (cells + mc) (slots + ms) Q (F0 m pc ls rest) q9)
    (kk : ∀ (r : UInt64) (u : S) (t : State) (H1 : Heap) (locs1 : List Loc), t.heap = H1 → s.vm.Alike t.vm → post r u → B u t → H.size ≤ H1.size → (∀ q : Nat, q < H.size → ¬ A1 q → H1[q]? = H[q]?) → va_S A0 H0 H1 locs1 → W p l e R s m args below meth c H1 locs1 (cells + mc) (slots + ms) Q (F0 m (pc + 3) ls (.double r :: rest))) : W p l e R s m args below meth c H locs cells slots Q (F0 m pc ls st0) := by
  intro T hT X
  rcases hr T hT X with ⟨v, st₀, t, T', L, h0, X', hL, e1, e2, ⟨⟨r, u, hv, hp, hb⟩, hF⟩, st⟩ | ⟨q, st₀, t, T', L, E, ce, h0, X', hL, e1, e2, ⟨u, hp, hb, hF⟩, hce, hcv, hcl, st⟩
  · cases hv
    obtain ⟨k1, k2, k3⟩ := vx_keep h0 e1 hS hA hf hL hF
    obtain ⟨t2, a1, b1⟩ := kk r u t T'.heap (locs ++ L) e1.symm (by rw [← e2]; exact X'.warmed.alike) hp hb k1 k2 k3 T' rfl X'
    exact ⟨t2, st t2 a1, b1⟩
  · obtain ⟨k1, k2, k3⟩ := vx_keep h0 e1 hS hAX hf hL hF
    obtain ⟨t2, a1, b1⟩ := kx E ce q u t T'.heap (locs ++ L) e1.symm (by rw [← e2]; exact X'.warmed.alike) hp hb k1 k2 k3 (by rw [e1]; exact hce) hcv hcl T' rfl X'
    exact ⟨t2, st.trans a1, b1⟩
theorem vx_callv {S SX : Type} {post : S → Prop} {px : SX → Prop} {B : S → State → Prop} {BX : String → SX → State → Prop} {AX : Nat → Prop} (hr : vx_Run p l e R s m args below meth c H locs cells slots mc ms (F0 m pc ls st0) rest (va_Qv post B A1 a) (vx_X px BX AX) free) (hS : va_S A0 H0 H locs) (hA : ∀ q, q < H.size → A1 q → A0 q) (hf : ∀ q, free q → A0 q) (hAX : ∀ q, q < H.size → AX q → A0 q)
    (kx : ∀ (E : String) (ce : Cell) (q9 : Addr) (u : SX) (t : State) (H1 : Heap) (locs1 : List Loc), t.heap = H1 → s.vm.Alike t.vm → px u → BX E u t → H.size ≤ H1.size → (∀ q : Nat, q < H.size → ¬ AX q → H1[q]? = H[q]?) → va_S A0 H0 H1 locs1 → H1[q9]? = some ce → ce.vm = .none → s.vm.findClass E = some ce.cls → vx_W p l e R s m args below meth c H1 locs1 (cells + mc) (slots + ms) Q (F0 m pc ls rest) q9)
    (kk : ∀ (u : S) (t : State) (H1 : Heap) (locs1 : List Loc), t.heap = H1 → s.vm.Alike t.vm → post u → B u t → H.size ≤ H1.size → (∀ q : Nat, q < H.size → ¬ A1 q → H1[q]? = H[q]?) → va_S A0 H0 H1 locs1 → W p l e R s m args below meth c H1 locs1 (cells + mc) (slots + ms) Q (F0 m (pc + 3) ls (rest))) : W p l e R s m args below meth c H locs cells slots Q (F0 m pc ls st0) := by
  intro T hT X
  rcases hr T hT X with ⟨v, st₀, t, T', L, h0, X', hL, e1, e2, ⟨⟨u, hv, hp, hb⟩, hF⟩, st⟩ | ⟨q, st₀, t, T', L, E, ce, h0, X', hL, e1, e2, ⟨u, hp, hb, hF⟩, hce, hcv, hcl, st⟩
  · cases hv
    obtain ⟨k1, k2, k3⟩ := vx_keep h0 e1 hS hA hf hL hF
    obtain ⟨t2, a1, b1⟩ := kk u t T'.heap (locs ++ L) e1.symm (by rw [← e2]; exact X'.warmed.alike) hp hb k1 k2 k3 T' rfl X'
    exact ⟨t2, st t2 a1, b1⟩
  · obtain ⟨k1, k2, k3⟩ := vx_keep h0 e1 hS hAX hf hL hF
    obtain ⟨t2, a1, b1⟩ := kx E ce q u t T'.heap (locs ++ L) e1.symm (by rw [← e2]; exact X'.warmed.alike) hp hb k1 k2 k3 (by rw [e1]; exact hce) hcv hcl T' rfl X'
    exact ⟨t2, st.trans a1, b1⟩
/-- caught by the row x of this method's table; the rows ahead don't take it -/
theorem vx_catch {own name : String} {E : String} {ce : Cell} {q : Addr} (hown : s.vm.findClass own = some m.cls) (pre : List ExceptionTableEntry) (x : ExceptionTableEntry) (suf : List ExceptionTableEntry) (hsplit : c.exceptionTable.toList = pre ++ x :: suf)
    (hpass : ∀ z ∈ pre, covers z pc = false ∨ (z.catchType ≠ 0 ∧ ∃ nm : String, (Cond.classLink own z.catchType nm).before args s = true ∧ va_Nc E nm s)) (hx : covers x pc = true) (h0 : x.catchType ≠ 0)
    (hlink : (Cond.classLink own x.catchType name).before args s = true) (hcast : (Cond.castable E name).before args s = true) (hcell : H[q]? = some ce) (hv : ce.vm = .none) (hcl : s.vm.findClass E = some ce.cls)
    (kk : W p l e R s m args below meth c H locs cells slots Q (F0 m x.handlerPc ls [.ref q])) : vx_W p l e R s m args below meth c H locs cells slots Q (F0 m pc ls rest) q := by
  intro T hT X
  have hpl : e.platform.magicAccessors = ({} : Platform).magicAccessors := by rw [X.admits.platform]
  obtain ⟨c3, c4, hc3, hc4, hasg⟩ := Cond.castable_spec hcast
  cases Option.some.inj (hc3.symm.trans hcl)
  obtain ⟨c5, hc5, hcl5⟩ := Cond.classLink_spec hown hlink e.platform hpl
  cases Option.some.inj (hc4.symm.trans hc5)
  obtain ⟨vm', X', st⟩ := X.thenCaughtThrough q (g := F0 m pc ls rest) rfl (Steps.refl _) (by rw [hT]; exact hcell) (by rw [hv]; rfl) (by obtain ⟨k9, h9, -⟩ := Vm.findClass_spec hcl; exact ⟨k9, h9⟩) pre x suf hsplit
    (fun z hz => by
      rcases hpass z hz with h | ⟨hz0, nm, hl1, hn1⟩
      · exact Or.inl h
      · obtain ⟨c6, hc6, hcl6⟩ := Cond.classLink_spec hown hl1 e.platform hpl
        obtain ⟨a8, b8, h1, h2, h3⟩ := hn1
        cases Option.some.inj (h1.symm.trans hcl)
        cases Option.some.inj (h2.symm.trans hc6)
        exact Or.inr ⟨hz0, _, hcl6, h3⟩) hx (Or.inr ⟨h0, c4, hcl5, hasg⟩)
  obtain ⟨t, a1, b1⟩ := kk (T.setVm vm') hT X'
  exact ⟨t, st.trans a1, b1⟩
end Rows
section Ends
variable {p : Program} {l : Launch} {e : Env} {R : Room} {s : State} {m : MethodId} {args : Array Value} {below : List Frame} {meth : Method} {c : Code} {H : Heap} {locs : List Loc} {cells slots : Nat} {Q : State → Prop}
variable {mc ms : Nat} {free : Addr → Prop} {A0 A1 : Nat → Prop} {H0 : Heap} {a : Array Value} {ls : Array Slot} {st0 rest : List Value}
variable {Qc : Array Value → State → Outcome → State → Prop} {XC : String → State → State → Prop}
/-- what a body that may throw owes at its end -/
def vx_MQ (below : List Frame) (Qc : Array Value → State → Outcome → State → Prop) (XC : String → State → State → Prop) (a : Array Value) (s : State) (mc ms : Nat) (free : Addr → Prop) : State → Prop := fun t =>
  ∃ o, t.status = .running ∧ Ended t below o ∧ vx_Q Qc XC mc ms free a s o t
theorem vx_ret {g : JFrame} {mc ms : Nat} (k : W p l e R s m args below meth c H locs cells slots (MQ below Qc args s mc ms free) g) : W p l e R s m args below meth c H locs cells slots (vx_MQ below Qc XC args s mc ms free) g := by
  intro T hT X
  obtain ⟨t, a1, o, b1, b2, b3, b4⟩ := k T hT X
  exact ⟨t, a1, o, b1, b2, Or.inl ⟨b3, b4⟩⟩
/-- not caught here: it goes on to the caller -/
theorem vx_widen {g : JFrame} {q : Addr} {k n : Nat} (h1 : cells ≤ k) (h2 : slots ≤ n) (kk : vx_W p l e R s m args below meth c H locs k n Q g q) : vx_W p l e R s m args below meth c H locs cells slots Q g q := fun T hT X => kk T hT (stand_widen X h1 h2)
theorem vx_out {pc : Nat} {E : String} {ce : Cell} {q : Addr} {mc ms : Nat} (hout : ∀ x ∈ c.exceptionTable.toList, covers x pc = false) (hlocks : meth.locks = false) (hcell : H[q]? = some ce) (hv : ce.vm = .none) (hcl : s.vm.findClass E = some ce.cls)
    (hx : ∀ t : State, t.heap = H → s.vm.Alike t.vm → XC E s t) (hf : ∀ z ∈ locs, free z.base) (hc : cells ≤ mc) (hs : slots ≤ ms) :
    vx_W p l e R s m args below meth c H locs cells slots (vx_MQ below Qc XC args s mc ms free) (F0 m pc ls rest) q := by
  intro T hT X
  obtain ⟨st1, hrun, hend, hW, hsm⟩ := X.leaveThrown q (g := F0 m pc ls rest) rfl rfl rfl hout hlocks
  have hcell9 : (T.setFrames (.throwing q :: below)).heap[q]? = some ce := by
    show T.heap[q]? = some ce
    rw [hT]; exact hcell
  exact ⟨_, st1, .threw q, hrun, hend, Or.inr ⟨q, rfl, E, ce, locs, hx _ hT hW.alike, hcell9, hv, hcl, hW, hsm.mono hc hs, hf⟩⟩
theorem vx_frame {U : State} {k n : Nat} (h : s.sameButNew ({ U with vm := s.vm } : State) locs k n) : s.heap.size ≤ U.heap.size ∧ ∀ q : Nat, q < s.heap.size → (∀ z ∈ locs, z.base ≠ q) → U.heap[q]? = s.heap[q]? := by
  obtain ⟨-, h2, -, -, -, h6⟩ := h
  refine ⟨h2, fun q hq hz => ?_⟩
  obtain ⟨c9, e1, e2, e3, e4⟩ := h6 q _ (Array.getElem?_eq_getElem hq)
  have hs : c9.slots = (s.heap[q]).slots := Array.ext_getElem? fun i => e4 i fun hm => hz _ hm rfl
  have h9 : c9 = s.heap[q] := by
    rw [hs] at e2
    exact e2
  have e5 : U.heap[q]? = some c9 := e1
  rw [e5, h9, Array.getElem?_eq_getElem hq]
/-- the words of a throw but the four that speak of the heap -/
def vx_no (w : Cond) : Bool := decide (w ≠ .isRef (.static Bundle.tN "UNASSIGNED_STACK" Bundle.steD)) && decide (w ≠ .isRef (.static Bundle.tN "SUPPRESSED_SENTINEL" Bundle.listD)) && decide (w ≠ .laysStatic Bundle.tN "UNASSIGNED_STACK" Bundle.steD) && decide (w ≠ .laysStatic Bundle.tN "SUPPRESSED_SENTINEL" Bundle.listD)
def vx_at0 (own : String) (ic : Nat) (X : String) (names : List String) : List Cond := (Bundle.ownAtoms0 own ic X names).filter vx_no
def vx_atS (own : String) (ic : Nat) (X : String) (names : List String) : List Cond := (Bundle.ownAtoms own ic X names).filter vx_no
/-- a word that the tables alone decide, or a good one -/
def vx_ot (w : Cond) : Bool := w.onTables || goodWord w
theorem vx_ot_at {args a' : Array Value} {s U : State} {w : Cond} (hW : s.WarmedH U.vm) (hvm : s.vm = U.vm) (hg : vx_ot w = true) (h : w.before args s = true) : w.before a' U = true := by
  simp only [vx_ot, Bool.or_eq_true] at hg
  rcases hg with hg | hg
  · exact va_tabs hg hvm h
  · exact word_at hW (good_of_word hg) h
/-- a list's words: the good ones out of the method's own list, the others by premises of their own -/
theorem vx_hat {args : Array Value} {s : State} {L B : List Cond} (h1 : ∀ w ∈ L.filter goodWord, w.before args s = true) (h2 : ∀ w ∈ L.filter (fun w => !goodWord w), w ∈ B) (h3 : ∀ w ∈ B, w.before args s = true) : ∀ w ∈ L, w.before args s = true := by
  intro w hw
  by_cases g : goodWord w = true
  · exact h1 w (List.mem_filter.mpr ⟨hw, g⟩)
  · refine h3 w (h2 w (List.mem_filter.mpr ⟨hw, ?_⟩))
    show (!goodWord w) = true
    cases hgw : goodWord w
    · rfl
    · exact absurd hgw g
theorem vx_c {args : Array Value} {s : State} {w : Cond} {B : List Cond} (h : w.before args s = true) (t : ∀ w ∈ B, w.before args s = true) : ∀ w' ∈ w :: B, w'.before args s = true := fun w' h' => (List.mem_cons.mp h').elim (fun e => by rw [e]; exact h) (t w')
theorem vx_n {args : Array Value} {s : State} : ∀ w ∈ ([] : List Cond), w.before args s = true := fun _ h => nomatch h
theorem vx_own {args : Array Value} {s : State} {L : List Cond} (h1 : ∀ w ∈ L.filter vx_no, w.before args s = true)
    (hU : (Cond.isRef (.static Bundle.tN "UNASSIGNED_STACK" Bundle.steD)).before args s = true) (hN : (Cond.isRef (.static Bundle.tN "SUPPRESSED_SENTINEL" Bundle.listD)).before args s = true)
    (lU : (Cond.laysStatic Bundle.tN "UNASSIGNED_STACK" Bundle.steD).before args s = true) (lN : (Cond.laysStatic Bundle.tN "SUPPRESSED_SENTINEL" Bundle.listD).before args s = true) : ∀ w ∈ L, w.before args s = true := by
  intro w hw
  by_cases e1 : w = .isRef (.static Bundle.tN "UNASSIGNED_STACK" Bundle.steD)
  · rw [e1]; exact hU
  · by_cases e2 : w = .isRef (.static Bundle.tN "SUPPRESSED_SENTINEL" Bundle.listD)
    · rw [e2]; exact hN
    · by_cases e3 : w = .laysStatic Bundle.tN "UNASSIGNED_STACK" Bundle.steD
      · rw [e3]; exact lU
      · by_cases e4 : w = .laysStatic Bundle.tN "SUPPRESSED_SENTINEL" Bundle.listD
        · rw [e4]; exact lN
        · exact h1 w (List.mem_filter.mpr ⟨hw, by unfold vx_no; rw [decide_eq_true e1, decide_eq_true e2, decide_eq_true e3, decide_eq_true e4]; rfl⟩)
/-- where a static field lies, its class's statics cell in H -/
def vx_L (C n d : String) (A : Nat → Prop) (U : State) (H : Heap) : Prop := ∃ (c : ClassId) (k : Class) (i : Nat) (f : Field) (a : Nat) (cell : Cell), U.vm.findClass C = some c ∧ U.fieldFound? C n d = some (c, k, i, f) ∧ f.isStatic = true ∧ k.statics = some a ∧ H[a]? = some cell ∧ cell.vm.isStatics = true ∧ cell.cls = c ∧ f.slot < cell.slots.size ∧ k.staticTypes[f.slot]? = some f.type ∧ ¬ A a
theorem vx_L.moved {C n d : String} {A : Nat → Prop} {u U : State} {H : Heap} (hvm : u.vm.Alike U.vm) (h : vx_L C n d A u H) : vx_L C n d A U H := by
  obtain ⟨c, k, i, f, a, cell, h1, h2, h3, h4, h5, h6, h7, h8, h9, h10⟩ := h
  obtain ⟨k', hi', he⟩ := State.fieldFound?_setVm hvm h2
  exact ⟨c, k', i, f, a, cell, by rw [hvm.findClass]; exact h1, hi', h3, by rw [he]; exact h4, h5, h6, h7, h8, by rw [he]; exact h9, h10⟩
theorem vx_L.kept {C n d : String} {A : Nat → Prop} {U : State} {H H1 : Heap} (h : vx_L C n d A U H) (hq : ∀ a : Nat, a < H.size → ¬ A a → H1[a]? = H[a]?) : vx_L C n d A U H1 := by
  obtain ⟨c, k, i, f, a, cell, h1, h2, h3, h4, h5, h6, h7, h8, h9, h10⟩ := h
  exact ⟨c, k, i, f, a, cell, h1, h2, h3, h4, by rw [hq a (Array.getElem?_eq_some_iff.mp h5).1 h10]; exact h5, h6, h7, h8, h9, h10⟩
theorem vx_L.narrow {C n d : String} {A B : Nat → Prop} {U : State} {H : Heap} (h : vx_L C n d A U H) (hAB : ∀ q, B q → A q) : vx_L C n d B U H := by
  obtain ⟨c, k, i, f, a, cell, h1, h2, h3, h4, h5, h6, h7, h8, h9, h10⟩ := h
  exact ⟨c, k, i, f, a, cell, h1, h2, h3, h4, h5, h6, h7, h8, h9, fun z => h10 (hAB _ z)⟩
theorem vx_L.word {C n d : String} {A : Nat → Prop} {s : State} {args : Array Value} (h : vx_L C n d A s s.heap) : (Cond.laysStatic C n d).before args s = true := by
  obtain ⟨c, k, i, f, a, cell, h1, h2, h3, h4, h5, h6, h7, h8, h9, -⟩ := h
  show (Cond.laysStatic C n d).holds args s none s [] = true
  exact Cond.laysStatic_of h1 h2 h3 h4 h5 h6 h7 h8 h9
/-- .. and what it holds: null or some reference -/
def vx_Zq (C n d : String) (A : Nat → Prop) (U : State) (H : Heap) : Prop := va_Zq C n d A U H ∧ vx_L C n d A U H
theorem vx_Zq.moved {C n d : String} {A : Nat → Prop} {u U : State} {H : Heap} (hvm : u.vm.Alike U.vm) (h : vx_Zq C n d A u H) : vx_Zq C n d A U H := ⟨va_Zq.moved hvm h.1, vx_L.moved hvm h.2⟩
theorem vx_Zq.kept {C n d : String} {A : Nat → Prop} {U : State} {H H1 : Heap} (h : vx_Zq C n d A U H) (hq : ∀ a : Nat, a < H.size → ¬ A a → H1[a]? = H[a]?) : vx_Zq C n d A U H1 := ⟨va_Zq.kept h.1 hq, vx_L.kept h.2 hq⟩
theorem vx_Zq.narrow {C n d : String} {A B : Nat → Prop} {U : State} {H : Heap} (h : vx_Zq C n d A U H) (hAB : ∀ q, B q → A q) : vx_Zq C n d B U H := ⟨va_Zq.narrow h.1 hAB, vx_L.narrow h.2 hAB⟩
theorem vx_Zqof {args : Array Value} {s : State} {C n d : String} {A : Nat → Prop} (hl : (Cond.laysStatic C n d).before args s = true) (hini : (Cond.initialized C).before args s = true) (h : (Cond.isRef (.static C n d)).before args s = true) (hA : ∀ a : Nat, a < s.heap.size → ¬ A a) : vx_Zq C n d A s s.heap := by
  refine ⟨va_Zqof hl hini h hA, ?_⟩
  obtain ⟨c, k, i, f, a, cell, h1, h2, h3, h4, h5, h6, h7, h8, h9⟩ := Cond.laysStatic_spec hl
  exact ⟨c, k, i, f, a, cell, h1, h2, h3, h4, h5, h6, h7, h8, h9, hA a (Array.getElem?_eq_some_iff.mp h5).1⟩
theorem vx_isRef {C n d : String} {v : Value} {A : Nat → Prop} {s : State} {args : Array Value} (h : va_Z C n d v A s s.heap) (hv : v.isRef = true) : (Cond.isRef (.static C n d)).before args s = true := by
  obtain ⟨cf, kf, fi, f, a, cell, h1, h2, h3, h4, h5, h6, h7, -⟩ := h
  have he : (Term.static C n d).eval args s none [] s = some v := by
    simp [Term.eval, State.fieldNamed?, h1, h2, h4, h5, h6, h7]
  simp only [Cond.before, Cond.holds, Cond.value, he]
  cases v <;> simp_all [Value.isRef]
theorem vx_isRefq {C n d : String} {A : Nat → Prop} {s : State} {args : Array Value} (h : va_Zq C n d A s s.heap) : (Cond.isRef (.static C n d)).before args s = true := by
  rcases h with h | ⟨t, h⟩
  · exact vx_isRef h rfl
  · exact vx_isRef h rfl
/-- the same frame, seen from here: as if the method were called anew in this heap -/
theorem vx_rebase {T : State} (X : Stand p l e R s m args below meth c T locs cells slots) {R' : Room} (hf : R'.frames ≤ R.frames) (hl : R'.locals ≤ R.locals) (hc : cells + R'.cells ≤ R.cells) (hs : slots + R'.slots ≤ R.slots) :
    Stand p l e R' ((T.setVm s.vm).setFrames (.invoking m args :: below)) m args below meth c T [] 0 0 := by
  have htop : (T.setVm s.vm).topJava?.isSome := X.here.top
  have hF : ((T.setVm s.vm).setFrames (.invoking m args :: below)).frames = .invoking m args :: below := State.frames_setFrames _ (State.cur_lt_of_top htop)
  obtain ⟨g₀, hg0⟩ := Option.isSome_iff_exists.mp htop
  obtain ⟨r, hr⟩ := State.topJava?_eq_some.mp hg0
  have hl9 : e.platform.stackLimits (T.setVm s.vm).me = e.platform.stackLimits s.me := X.limits
  have hb9 : (T.setVm s.vm).me.stackBytes = s.me.stackBytes := X.bytes
  refine ⟨X.admits, X.cas, X.clock, hF, ?_, X.hears, X.method, X.code, X.here, X.tail, X.warmed, ?_, ?_, ?_⟩
  · have h := X.room
    have hU : ((T.setVm s.vm).setFrames (.invoking m args :: below)).localsInUse = s.localsInUse := by
      rw [State.localsInUse_invoking hF (meth := meth) (c := c) X.method X.code, State.localsInUse_invoking X.frames X.method X.code]
    simp only [State.hasRoom, Bool.and_eq_true, decide_eq_true_eq] at h ⊢
    obtain ⟨⟨⟨⟨h1, h2, h3, h4, h5, h6⟩, h7⟩, h8⟩, h9⟩ := h
    rw [X.frames, List.length_cons] at h2 h3
    have q1 := X.heapSize
    have q2 := X.used
    simp only [hF, hU, List.length_cons, State.stackLimits_setFrames, State.stackBytes_setFrames, hl9, hb9]
    refine ⟨⟨⟨⟨by omega, by omega, by omega, by omega, by omega, h6⟩, ?_⟩, ?_⟩, X.book⟩
    · show T.heap.size + R'.cells ≤ e.platform.maxCells
      omega
    · show T.slotsUsed + R'.slots ≤ e.platform.maxSlots
      omega
  · rw [State.stackLimits_setFrames]; rfl
  · rw [State.stackBytes_setFrames]; rfl
  · refine ⟨?_, Nat.le_refl _, Nat.le_refl _, ?_, ?_, fun a c9 h9 => ⟨c9, h9, rfl, rfl, fun _ _ => rfl⟩⟩
    · obtain ⟨t, ht, -⟩ := State.frames_cons hr
      show T.setVm s.vm = { ((T.setVm s.vm).setFrames (.invoking m args :: below)).setFrames (T.setVm s.vm).frames with heap := T.heap, slotsUsed := T.slotsUsed }
      rw [State.setFrames_setFrames, State.setFrames_self ht]
      rfl
    · show T.slotsUsed = T.slotsUsed + ((T.heap.toList.drop T.heap.size).map (·.slots.size)).sum
      rw [List.drop_eq_nil_of_le (Nat.le_of_eq Array.length_toList)]
      rfl
    · show ((T.heap.toList.drop T.heap.size).map (·.slots.size)).sum ≤ 0
      rw [List.drop_eq_nil_of_le (Nat.le_of_eq Array.length_toList)]
      exact Nat.le_refl _
/-- 'throw new E()': new; dup; invokespecial; athrow -/
theorem vx_throw0 {cc : ByteArray} {pc : Nat} (hexec : p.tables.exec = Jvm.exec) (hb : c.code = cc) (hl : l.stackTraces = false) {own cls : String} {names : List String} {ik ic mc ms : Nat} {A : Nat → Prop}
    (hown : s.vm.findClass own = some m.cls) (hcls : Bundle.fit cls = true) (hnames : ∀ n ∈ names, Bundle.fit n = true)
    (hk : (Cond.classLink own ik cls).before args s = true) (hini : (Cond.initialized cls).before args s = true) (hat : ∀ w ∈ vx_at0 own ic cls names, w.before args s = true)
    (hgood : ∀ w ∈ Cond.classLink own ik cls :: Cond.initialized cls :: vx_at0 own ic cls names, vx_ot w = true)
    (hU : vx_Zq Bundle.tN "UNASSIGNED_STACK" Bundle.steD A s s.heap) (hN : vx_Zq Bundle.tN "SUPPRESSED_SENTINEL" Bundle.listD A s s.heap) (hS : va_S A s.heap H locs) (hsize : ls.size = c.maxLocals)
    (d0 : decode cc pc = .ok (.new ik, 3)) (d3 : decode cc (pc + 3) = .ok (.dup, 1)) (d4 : decode cc (pc + 4) = .ok (.invokespecial ic, 3)) (d7 : decode cc (pc + 7) = .ok (.athrow, 1))
    (hout : ∀ x ∈ c.exceptionTable.toList, covers x (pc + 7) = false)
    (hRframes : names.length + 3 < R.frames) (hRlocals : (rest.map fun v => v.category).sum + (13 * (names.length + 1) + 42) ≤ R.locals) (hRcells : cells + 1 ≤ R.cells) (hRslots : slots + 6 ≤ R.slots) (hlocks : meth.locks = false)
    (hx : ∀ t : State, s.vm.Alike t.vm → H.size ≤ t.heap.size → (∀ q : Nat, q < H.size → t.heap[q]? = H[q]?) → XC cls s t)
    (hf : ∀ z ∈ locs, free z.base) (hc : cells + 1 ≤ mc) (hs : slots + 6 ≤ ms) :
    W p l e R s m args below meth c H locs cells slots (vx_MQ below Qc XC args s mc ms free) (F0 m pc ls rest) := by
  intro T hT X
  have htr : e.platform.stackTraces = false := (show e.platform.stackTraces = l.stackTraces by rw [X.admits.platform]).trans hl
  have Y := vx_rebase X (R' := { frames := R.frames, locals := R.locals, cells := 1, slots := 6 }) (Nat.le_refl _) (Nat.le_refl _) hRcells hRslots
  obtain ⟨s', hA⟩ : ∃ z, z = (T.setVm s.vm).setFrames (.invoking m args :: below) := ⟨_, rfl⟩
  rw [← hA] at Y
  have hvm : s'.vm = s.vm := by rw [hA]; rfl
  have hhp : s'.heap = H := by rw [hA]; exact hT
  have hW0 : s.WarmedH s'.vm := by rw [hvm]; exact State.WarmedH.refl s
  have hat' : ∀ w ∈ vx_at0 own ic cls names, w.before args s' = true := fun w hw => vx_ot_at hW0 hvm.symm (hgood w (List.mem_cons_of_mem _ (List.mem_cons_of_mem _ hw))) (hat w hw)
  have hk' : (Cond.classLink own ik cls).before args s' = true := vx_ot_at hW0 hvm.symm (hgood _ List.mem_cons_self) hk
  have hini' : (Cond.initialized cls).before args s' = true := vx_ot_at hW0 hvm.symm (hgood _ (List.mem_cons_of_mem _ List.mem_cons_self)) hini
  have hU' : vx_Zq Bundle.tN "UNASSIGNED_STACK" Bundle.steD A s' s'.heap := by rw [hhp]; exact vx_Zq.moved hW0.alike (hU.kept hS.2.1)
  have hN' : vx_Zq Bundle.tN "SUPPRESSED_SENTINEL" Bundle.listD A s' s'.heap := by rw [hhp]; exact vx_Zq.moved hW0.alike (hN.kept hS.2.1)
  have h : ∀ w ∈ Bundle.ownAtoms0 own ic cls names, w.before args s' = true := vx_own hat' (vx_isRefq hU'.1) (vx_isRefq hN'.1) hU'.2.word hN'.2.word
  have hown' : s'.vm.findClass own = some m.cls := by rw [hvm]; exact hown
  have hins : (Cond.instantiable cls 6).before args s' = true := h _ (by simp [Bundle.ownAtoms0])
  obtain ⟨vm₁, cX, kX, hfX, hkX, -, -, X₁, st1⟩ := Y.newCold hexec (own := own) (C := cls) (index := ik) (n := 6) hown' hk' hins hini'
    (g := F0 m pc ls rest) rfl (by rw [hb]; exact d0) (Nat.le_refl _) (Nat.le_refl _)
  generalize hT1 : (T.setVm vm₁).pushCell { cls := cX, slots := kX.instanceTypes.map defaultValue, vm := .none } = T1 at X₁ st1
  have hcat : (Value.ref T.heap.size).category = 1 := rfl
  have hcellA : T1.heap[T.heap.size]? = some (freshCell cX kX) := by rw [← hT1]; exact State.heap_pushCell_size _ _
  have d3' : decode c.code (pc + 3) = .ok (.dup, 1) := by rw [hb]; exact d3
  obtain ⟨U, hsteps, hrun, hend, hW, hsame, ce, hce, hO⟩ := X₁.ctorThrow0 hexec htr (own := own) (cls := cls) (names := names) (ic := ic) hown' hcls hnames h (fun x hx => nomatch hx) hfX hkX hcellA (by rw [hhp, hT]; exact Nat.le_refl _)
    (g := { method := m, pc := pc + 4, locals := ls, stack := .ref T.heap.size :: .ref T.heap.size :: rest, locked := none }) rfl hsize rfl rfl (rest := rest) rfl
    (by rw [hb]; exact d4) (by rw [hb]; exact d7) hout hRframes (by simp only [List.map_cons, List.sum_cons, hcat]; omega) hlocks
  obtain ⟨f1, f2⟩ := vx_frame hsame
  rw [hhp] at f1 f2
  have hWs : s.WarmedH U.vm := State.WarmedH.trans hW0 hW
  have hcl : s.vm.findClass cls = some ce.cls := by
    have h9 := hO.cls
    rw [hvm] at h9
    exact h9
  have hall : s.sameButNew ({ U with vm := s.vm } : State) locs mc ms := by
    subst hA
    obtain ⟨e1, e2⟩ := hsame
    rw [State.setFrames_setFrames] at e1
    have h2 : (T.setVm s.vm).sameButNew ({ U with vm := s.vm } : State) [] (0 + 1) (0 + 6) := ⟨e1, e2⟩
    have h3 := X.same.trans h2
    rw [List.append_nil] at h3
    exact h3.mono hc hs
  refine ⟨U, ?_, .threw T.heap.size, hrun, hend, Or.inr ⟨T.heap.size, rfl, cls, ce, locs, hx U hWs.alike f1 (fun q hq => f2 q hq (fun z hz => nomatch hz)), hce, hO.vm, hcl, hWs, hall, hf⟩⟩
  refine st1 _ ?_
  show Steps p.tables e below (T1.setTop { method := m, pc := pc + 3, locals := ls, stack := .ref T.heap.size :: rest, locked := none }) _
  jvm_step X₁.here [X₁.here.top, hexec, d3', Value.category]
  exact hsteps
/-- 'throw new E("text")': new; dup; ldc; invokespecial; athrow -/
theorem vx_throwS {cc : ByteArray} {pc : Nat} (hexec : p.tables.exec = Jvm.exec) (hb : c.code = cc) (hl : l.stackTraces = false) {own cls text : String} {names : List String} {ik is ic mc ms sa : Nat} {A : Nat → Prop}
    (hown : s.vm.findClass own = some m.cls) (hcls : Bundle.fit cls = true) (hnames : ∀ n ∈ names, Bundle.fit n = true)
    (hk : (Cond.classLink own ik cls).before args s = true) (hini : (Cond.initialized cls).before args s = true) (hstr : vk_R own is text sa s) (hat : ∀ w ∈ vx_atS own ic cls names, w.before args s = true)
    (hgood : ∀ w ∈ Cond.classLink own ik cls :: Cond.initialized cls :: vx_atS own ic cls names, vx_ot w = true)
    (hU : vx_Zq Bundle.tN "UNASSIGNED_STACK" Bundle.steD A s s.heap) (hN : vx_Zq Bundle.tN "SUPPRESSED_SENTINEL" Bundle.listD A s s.heap) (hS : va_S A s.heap H locs) (hsize : ls.size = c.maxLocals)
    (d0 : decode cc pc = .ok (.new ik, 3)) (d3 : decode cc (pc + 3) = .ok (.dup, 1)) (d4 : decode cc (pc + 4) = .ok (.ldc is, 2)) (d6 : decode cc (pc + 6) = .ok (.invokespecial ic, 3)) (d9 : decode cc (pc + 9) = .ok (.athrow, 1))
    (hout : ∀ x ∈ c.exceptionTable.toList, covers x (pc + 9) = false)
    (hRframes : names.length + 3 < R.frames) (hRlocals : (rest.map fun v => v.category).sum + (13 * (names.length + 1) + 43) ≤ R.locals) (hRcells : cells + 1 ≤ R.cells) (hRslots : slots + 6 ≤ R.slots) (hlocks : meth.locks = false)
    (hx : ∀ t : State, s.vm.Alike t.vm → H.size ≤ t.heap.size → (∀ q : Nat, q < H.size → t.heap[q]? = H[q]?) → XC cls s t)
    (hf : ∀ z ∈ locs, free z.base) (hc : cells + 1 ≤ mc) (hs : slots + 6 ≤ ms) :
    W p l e R s m args below meth c H locs cells slots (vx_MQ below Qc XC args s mc ms free) (F0 m pc ls rest) := by
  intro T hT X
  have htr : e.platform.stackTraces = false := (show e.platform.stackTraces = l.stackTraces by rw [X.admits.platform]).trans hl
  have Y := vx_rebase X (R' := { frames := R.frames, locals := R.locals, cells := 1, slots := 6 }) (Nat.le_refl _) (Nat.le_refl _) hRcells hRslots
  obtain ⟨s', hA⟩ : ∃ z, z = (T.setVm s.vm).setFrames (.invoking m args :: below) := ⟨_, rfl⟩
  rw [← hA] at Y
  have hvm : s'.vm = s.vm := by rw [hA]; rfl
  have hhp : s'.heap = H := by rw [hA]; exact hT
  have hW0 : s.WarmedH s'.vm := by rw [hvm]; exact State.WarmedH.refl s
  have hat' : ∀ w ∈ vx_atS own ic cls names, w.before args s' = true := fun w hw => vx_ot_at hW0 hvm.symm (hgood w (List.mem_cons_of_mem _ (List.mem_cons_of_mem _ hw))) (hat w hw)
  have hk' : (Cond.classLink own ik cls).before args s' = true := vx_ot_at hW0 hvm.symm (hgood _ List.mem_cons_self) hk
  have hini' : (Cond.initialized cls).before args s' = true := vx_ot_at hW0 hvm.symm (hgood _ (List.mem_cons_of_mem _ List.mem_cons_self)) hini
  have hU' : vx_Zq Bundle.tN "UNASSIGNED_STACK" Bundle.steD A s' s'.heap := by rw [hhp]; exact vx_Zq.moved hW0.alike (hU.kept hS.2.1)
  have hN' : vx_Zq Bundle.tN "SUPPRESSED_SENTINEL" Bundle.listD A s' s'.heap := by rw [hhp]; exact vx_Zq.moved hW0.alike (hN.kept hS.2.1)
  have h : ∀ w ∈ Bundle.ownAtoms own ic cls names, w.before args s' = true := vx_own hat' (vx_isRefq hU'.1) (vx_isRefq hN'.1) hU'.2.word hN'.2.word
  have hown' : s'.vm.findClass own = some m.cls := by rw [hvm]; exact hown
  have hins : (Cond.instantiable cls 6).before args s' = true := h _ (by simp [Bundle.ownAtoms])
  obtain ⟨vm₁, cX, kX, hfX, hkX, -, -, X₁, st1⟩ := Y.newCold hexec (own := own) (C := cls) (index := ik) (n := 6) hown' hk' hins hini'
    (g := F0 m pc ls rest) rfl (by rw [hb]; exact d0) (Nat.le_refl _) (Nat.le_refl _)
  generalize hT1 : (T.setVm vm₁).pushCell { cls := cX, slots := kX.instanceTypes.map defaultValue, vm := .none } = T1 at X₁ st1
  have hcat : (Value.ref T.heap.size).category = 1 := rfl
  have hcellA : T1.heap[T.heap.size]? = some (freshCell cX kX) := by rw [← hT1]; exact State.heap_pushCell_size _ _
  have d3' : decode c.code (pc + 3) = .ok (.dup, 1) := by rw [hb]; exact d3
  have d4' : decode c.code (pc + 4) = .ok (.ldc is, 2) := by rw [hb]; exact d4
  have hstr' : vk_R own is text sa s' := vk_R.warm hW0 hstr
  obtain ⟨U, hsteps, hrun, hend, hW, hsame, ce, hce, hO⟩ := X₁.ctorThrowS hexec htr (own := own) (cls := cls) (names := names) (ic := ic) hown' hcls hnames h (fun x hx => nomatch hx) hfX hkX hcellA (by rw [hhp, hT]; exact Nat.le_refl _) (msg := .ref sa) rfl
    (g := { method := m, pc := pc + 6, locals := ls, stack := .ref sa :: .ref T.heap.size :: .ref T.heap.size :: rest, locked := none }) rfl hsize rfl rfl (rest := rest) rfl
    (by rw [hb]; exact d6) (by rw [hb]; exact d9) hout hRframes (by simp only [List.map_cons, List.sum_cons, hcat]; omega) hlocks
  obtain ⟨f1, f2⟩ := vx_frame hsame
  rw [hhp] at f1 f2
  have hWs : s.WarmedH U.vm := State.WarmedH.trans hW0 hW
  have hcl : s.vm.findClass cls = some ce.cls := by
    have h9 := hO.cls
    rw [hvm] at h9
    exact h9
  have hall : s.sameButNew ({ U with vm := s.vm } : State) locs mc ms := by
    subst hA
    obtain ⟨e1, e2⟩ := hsame
    rw [State.setFrames_setFrames] at e1
    have h2 : (T.setVm s.vm).sameButNew ({ U with vm := s.vm } : State) [] (0 + 1) (0 + 6) := ⟨e1, e2⟩
    have h3 := X.same.trans h2
    rw [List.append_nil] at h3
    exact h3.mono hc hs
  refine ⟨U, ?_, .threw T.heap.size, hrun, hend, Or.inr ⟨T.heap.size, rfl, cls, ce, locs, hx U hWs.alike f1 (fun q hq => f2 q hq (fun z hz => nomatch hz)), hce, hO.vm, hcl, hWs, hall, hf⟩⟩
  refine st1 _ ?_
  show Steps p.tables e below (T1.setTop { method := m, pc := pc + 3, locals := ls, stack := .ref T.heap.size :: rest, locked := none }) _
  jvm_step X₁.here [X₁.here.top, hexec, d3', Value.category]
  exact X₁.ldcString hexec (own := own) (text := text) (index := is) (a := sa) hown' hstr'.1 hstr'.2
    (g := { method := m, pc := pc + 4, locals := ls, stack := .ref T.heap.size :: .ref T.heap.size :: rest, locked := none }) rfl d4' _ hsteps
/-- 'throw new E("text")', the text by a wide index -/
theorem vx_throwSW {cc : ByteArray} {pc : Nat} (hexec : p.tables.exec = Jvm.exec) (hb : c.code = cc) (hl : l.stackTraces = false) {own cls text : String} {names : List String} {ik is ic mc ms sa : Nat} {A : Nat → Prop}
    (hown : s.vm.findClass own = some m.cls) (hcls : Bundle.fit cls = true) (hnames : ∀ n ∈ names, Bundle.fit n = true)
    (hk : (Cond.classLink own ik cls).before args s = true) (hini : (Cond.initialized cls).before args s = true) (hstr : vk_R own is text sa s) (hat : ∀ w ∈ vx_atS own ic cls names, w.before args s = true)
    (hgood : ∀ w ∈ Cond.classLink own ik cls :: Cond.initialized cls :: vx_atS own ic cls names, vx_ot w = true)
    (hU : vx_Zq Bundle.tN "UNASSIGNED_STACK" Bundle.steD A s s.heap) (hN : vx_Zq Bundle.tN "SUPPRESSED_SENTINEL" Bundle.listD A s s.heap) (hS : va_S A s.heap H locs) (hsize : ls.size = c.maxLocals)
    (d0 : decode cc pc = .ok (.new ik, 3)) (d3 : decode cc (pc + 3) = .ok (.dup, 1)) (d4 : decode cc (pc + 4) = .ok (.ldc_w is, 3)) (d7 : decode cc (pc + 7) = .ok (.invokespecial ic, 3)) (d10 : decode cc (pc + 10) = .ok (.athrow, 1))
    (hout : ∀ x ∈ c.exceptionTable.toList, covers x (pc + 10) = false)
    (hRframes : names.length + 3 < R.frames) (hRlocals : (rest.map fun v => v.category).sum + (13 * (names.length + 1) + 43) ≤ R.locals) (hRcells : cells + 1 ≤ R.cells) (hRslots : slots + 6 ≤ R.slots) (hlocks : meth.locks = false)
    (hx : ∀ t : State, s.vm.Alike t.vm → H.size ≤ t.heap.size → (∀ q : Nat, q < H.size → t.heap[q]? = H[q]?) → XC cls s t)
    (hf : ∀ z ∈ locs, free z.base) (hc : cells + 1 ≤ mc) (hs : slots + 6 ≤ ms) :
    W p l e R s m args below meth c H locs cells slots (vx_MQ below Qc XC args s mc ms free) (F0 m pc ls rest) := by
  intro T hT X
  have htr : e.platform.stackTraces = false := (show e.platform.stackTraces = l.stackTraces by rw [X.admits.platform]).trans hl
  have Y := vx_rebase X (R' := { frames := R.frames, locals := R.locals, cells := 1, slots := 6 }) (Nat.le_refl _) (Nat.le_refl _) hRcells hRslots
  obtain ⟨s', hA⟩ : ∃ z, z = (T.setVm s.vm).setFrames (.invoking m args :: below) := ⟨_, rfl⟩
  rw [← hA] at Y
  have hvm : s'.vm = s.vm := by rw [hA]; rfl
  have hhp : s'.heap = H := by rw [hA]; exact hT
  have hW0 : s.WarmedH s'.vm := by rw [hvm]; exact State.WarmedH.refl s
  have hat' : ∀ w ∈ vx_atS own ic cls names, w.before args s' = true := fun w hw => vx_ot_at hW0 hvm.symm (hgood w (List.mem_cons_of_mem _ (List.mem_cons_of_mem _ hw))) (hat w hw)
  have hk' : (Cond.classLink own ik cls).before args s' = true := vx_ot_at hW0 hvm.symm (hgood _ List.mem_cons_self) hk
  have hini' : (Cond.initialized cls).before args s' = true := vx_ot_at hW0 hvm.symm (hgood _ (List.mem_cons_of_mem _ List.mem_cons_self)) hini
  have hU' : vx_Zq Bundle.tN "UNASSIGNED_STACK" Bundle.steD A s' s'.heap := by rw [hhp]; exact vx_Zq.moved hW0.alike (hU.kept hS.2.1)
  have hN' : vx_Zq Bundle.tN "SUPPRESSED_SENTINEL" Bundle.listD A s' s'.heap := by rw [hhp]; exact vx_Zq.moved hW0.alike (hN.kept hS.2.1)
  have h : ∀ w ∈ Bundle.ownAtoms own ic cls names, w.before args s' = true := vx_own hat' (vx_isRefq hU'.1) (vx_isRefq hN'.1) hU'.2.word hN'.2.word
  have hown' : s'.vm.findClass own = some m.cls := by rw [hvm]; exact hown
  have hins : (Cond.instantiable cls 6).before args s' = true := h _ (by simp [Bundle.ownAtoms])
  obtain ⟨vm₁, cX, kX, hfX, hkX, -, -, X₁, st1⟩ := Y.newCold hexec (own := own) (C := cls) (index := ik) (n := 6) hown' hk' hins hini'
    (g := F0 m pc ls rest) rfl (by rw [hb]; exact d0) (Nat.le_refl _) (Nat.le_refl _)
  generalize hT1 : (T.setVm vm₁).pushCell { cls := cX, slots := kX.instanceTypes.map defaultValue, vm := .none } = T1 at X₁ st1
  have hcat : (Value.ref T.heap.size).category = 1 := rfl
  have hcellA : T1.heap[T.heap.size]? = some (freshCell cX kX) := by rw [← hT1]; exact State.heap_pushCell_size _ _
  have d3' : decode c.code (pc + 3) = .ok (.dup, 1) := by rw [hb]; exact d3
  have d4' : decode c.code (pc + 4) = .ok (.ldc_w is, 3) := by rw [hb]; exact d4
  have hstr' : vk_R own is text sa s' := vk_R.warm hW0 hstr
  obtain ⟨U, hsteps, hrun, hend, hW, hsame, ce, hce, hO⟩ := X₁.ctorThrowS hexec htr (own := own) (cls := cls) (names := names) (ic := ic) hown' hcls hnames h (fun x hx => nomatch hx) hfX hkX hcellA (by rw [hhp, hT]; exact Nat.le_refl _) (msg := .ref sa) rfl
    (g := { method := m, pc := pc + 7, locals := ls, stack := .ref sa :: .ref T.heap.size :: .ref T.heap.size :: rest, locked := none }) rfl hsize rfl rfl (rest := rest) rfl
    (by rw [hb]; exact d7) (by rw [hb]; exact d10) hout hRframes (by simp only [List.map_cons, List.sum_cons, hcat]; omega) hlocks
  obtain ⟨f1, f2⟩ := vx_frame hsame
  rw [hhp] at f1 f2
  have hWs : s.WarmedH U.vm := State.WarmedH.trans hW0 hW
  have hcl : s.vm.findClass cls = some ce.cls := by
    have h9 := hO.cls
    rw [hvm] at h9
    exact h9
  have hall : s.sameButNew ({ U with vm := s.vm } : State) locs mc ms := by
    subst hA
    obtain ⟨e1, e2⟩ := hsame
    rw [State.setFrames_setFrames] at e1
    have h2 : (T.setVm s.vm).sameButNew ({ U with vm := s.vm } : State) [] (0 + 1) (0 + 6) := ⟨e1, e2⟩
    have h3 := X.same.trans h2
    rw [List.append_nil] at h3
    exact h3.mono hc hs
  refine ⟨U, ?_, .threw T.heap.size, hrun, hend, Or.inr ⟨T.heap.size, rfl, cls, ce, locs, hx U hWs.alike f1 (fun q hq => f2 q hq (fun z hz => nomatch hz)), hce, hO.vm, hcl, hWs, hall, hf⟩⟩
  refine st1 _ ?_
  show Steps p.tables e below (T1.setTop { method := m, pc := pc + 3, locals := ls, stack := .ref T.heap.size :: rest, locked := none }) _
  jvm_step X₁.here [X₁.here.top, hexec, d3', Value.category]
  exact X₁.ldcStringW hexec (own := own) (text := text) (index := is) (a := sa) hown' hstr'.1 hstr'.2
    (g := { method := m, pc := pc + 4, locals := ls, stack := .ref T.heap.size :: .ref T.heap.size :: rest, locked := none }) rfl d4' _ hsteps
end Ends
section Bodies
variable {l : Launch}
theorem vx_ofW {y : MethodName} {ws ws' : List Cond} {rm : Room} {Pc : Array Value → State → Prop} {Qc : Array Value → State → Outcome → State → Prop} {XC : String → State → State → Prop} {mc ms : Nat} {free : Addr → Prop} {cc : ByteArray} {maxL : Nat} {ret : Option FieldType}
    (hy : plainName y.cls = true) (hw : ws = Cond.code y cc maxL ret :: ws')
    (body : ∀ p e s m args below meth c s₁, BodyLoose p l y (headSpec ws rm) cc maxL ret e s m args below meth c s₁ → c.maxLocals = maxL → (∀ x ∈ c.exceptionTable.toList, False) → Pc args s →
      W p l e (headSpec ws rm).room s m args below meth c s.heap [] 0 0 (vx_MQ below Qc XC args s mc ms free) (entryFrame m args maxL)) : vx_Met l y ws rm Pc Qc XC mc ms free := by
  refine MetFree.of_bodyS (code := cc) (maxLocals := maxL) (ret := ret) hy ?_ ?_
  · intro args s m h hn
    obtain ⟨meth, c, h1, h2, h3, h4, h5, h6, -, -⟩ := Cond.code_spec hn (atoms_spec (ws := ws) h _ (by rw [hw]; exact List.mem_cons_self))
    exact ⟨meth, c, h1, h2, h3, h4, h5, h6⟩
  · intro p e s m args below meth c s₁ B hml hP _
    have hh0 : s₁.heap = s.heap := by rw [B.state]; rfl
    have ht : ∀ x ∈ c.exceptionTable.toList, False := by
      obtain ⟨meth9, c9, h1, h2, -, -, -, -, h7, -⟩ := Cond.code_spec B.named (atoms_spec (ws := ws) B.pre _ (by rw [hw]; exact List.mem_cons_self))
      cases Option.some.inj (h1.symm.trans B.method)
      cases Option.some.inj (h2.symm.trans (Stand.of_body B).code)
      intro x hx
      rw [Array.isEmpty_iff.mp h7] at hx
      cases hx
    obtain ⟨t, a1, o, b1, b2, b3⟩ := body p e s m args below meth c s₁ B hml ht hP s₁ hh0 (Stand.of_body B)
    exact ⟨t, o, a1, b1, b2, b3⟩
/-- the table of a body with handlers -/
theorem vx_table {p : Program} {x y : MethodName} {S : Spec} {cc bytes : ByteArray} {maxL maxL' : Nat} {ret ret' : Option FieldType} {e : Env} {s s₁ : State} {m : MethodId} {args : Array Value} {below : List Frame} {meth : Method} {c : Code} {hh : List (Nat × Nat × Nat × Nat)}
    (B : BodyLoose p l y S cc maxL ret e s m args below meth c s₁) (h : (Cond.codeWith y bytes maxL' ret' hh).before args s = true) : c.exceptionTable.toList = tableOf hh := by
  obtain ⟨m9, meth9, c9, hn9, h1, h2, -, -, h6, -⟩ := Cond.codeWith_spec h
  cases Option.some.inj (hn9.symm.trans B.named)
  cases Option.some.inj (h1.symm.trans B.method)
  cases Option.some.inj (h2.symm.trans (Stand.of_body B).code)
  rw [← h6, table_eq]
end Bodies
end VXA
/-! ===== END ===== -/
/-! ===== BEGIN a static call of a method with an exception table ===== -/
section VXS
variable {p : Program} {l : Launch} {e : Env} {R : Room} {s : State} {m : MethodId} {args : Array Value} {below : List Frame} {meth : Method} {c : Code} {T : State} {H : Heap} {locs : List Loc} {cells slots : Nat}
abbrev vx_CSW (R : Room) (s : State) (args : Array Value) (own : String) (index : Nat) (y : MethodName) (bytes : ByteArray) (maxL : Nat) (ret : Option FieldType) (hh : List (Nat × Nat × Nat × Nat)) (ws : List Cond) (rm : Room) (mc ms n : Nat) : Prop :=
  (rm.cells = mc ∧ rm.slots = ms ∧ rm.frames + 1 ≤ R.frames ∧ 8 + (maxL + 11) + rm.locals ≤ R.locals ∧ (∀ w ∈ ws, ∀ (a' : Array Value) (U : State), s.WarmedH U.vm → w.before a' U = true) ∧ Cond.codeWith y bytes maxL ret hh ∈ ws) ∧
  (Cond.codeWith y bytes maxL ret hh).before args s = true ∧ (Cond.initialized y.cls).before args s = true ∧ (y.cls ≠ "java/lang/invoke/MethodHandle" ∧ y.cls ≠ "java/lang/invoke/VarHandle") ∧
  (∀ sig, parseMethodDescriptor y.desc = some sig → n = sig.parameters.length) ∧ (Cond.methodLink own index y).before args s = true ∧ (Cond.static y).before args s = true
theorem vx_cwSW {own : String} {index maxL mc ms : Nat} {y : MethodName} {bytes : ByteArray} {ret : Option FieldType} {hh : List (Nat × Nat × Nat × Nat)} {Ts ws ws' : List Cond} {rm : Room} (n : Nat) (ht : ∀ w ∈ Ts, w.before args s = true) (hT : GoodIn Ts (va_wsS own index y ws)) (hw : ws = Cond.codeWith y bytes maxL ret hh :: ws') (hrc : rm.cells = mc) (hrs : rm.slots = ms)
    (hd : y.cls ≠ "java/lang/invoke/MethodHandle" ∧ y.cls ≠ "java/lang/invoke/VarHandle" ∧ (parseMethodDescriptor y.desc).map (fun d => d.parameters.length) = some n) (hR : rm.frames + 1 ≤ R.frames ∧ 8 + (maxL + 11) + rm.locals ≤ R.locals) :
    vx_CSW R s args own index y bytes maxL ret hh ws rm mc ms n := by
  have ok : ∀ w ∈ va_wsS own index y ws, w.before args s = true := fun w h => ht w (hT w h).1
  have hG : GoodIn Ts ws := fun w h => hT w (by unfold va_wsS; exact List.mem_append_right _ h)
  have hc : Cond.codeWith y bytes maxL ret hh ∈ ws := by rw [hw]; exact List.mem_cons_self
  refine ⟨⟨hrc, hrs, hR.1, hR.2, pay_in ht hG, hc⟩, ht _ (hG _ hc).1, ok _ (by simp [va_wsS]), ⟨hd.1, hd.2.1⟩, fun sig h => ?_, ok _ (by simp [va_wsS]), ok _ (by simp [va_wsS])⟩
  have h2 := hd.2.2
  rw [h] at h2
  exact (Option.some.inj h2).symm
theorem vx_callSW (X : Stand p l e R s m args below meth c T locs cells slots) (hexec : p.tables.exec = Jvm.exec) {own : String} {index : Nat} {y : MethodName} {bytes : ByteArray} {maxL : Nat} {ret : Option FieldType} {hh : List (Nat × Nat × Nat × Nat)}
    (hown : s.vm.findClass own = some m.cls) (hlink : (Cond.methodLink own index y).before args s = true) (hstat : (Cond.static y).before args s = true) (hinit : (Cond.initialized y.cls).before args s = true)
    (hcode : (Cond.codeWith y bytes maxL ret hh).before args s = true) (hy : y.cls ≠ "java/lang/invoke/MethodHandle" ∧ y.cls ≠ "java/lang/invoke/VarHandle")
    {W9 : Nat} {Pre : Pt → Array Value → Prop} {Post : Pt → Array Value → Option Value → Pt → Prop} (hK : Back l R p e below s args y 3 W9 Pre Post)
    {g : JFrame} (hg : g.method = m) (hsize : g.locals.size = c.maxLocals) {argsL rest : List Value} (hlen : ∀ sig, parseMethodDescriptor y.desc = some sig → argsL.length = sig.parameters.length)
    (hstack : g.stack = argsL.reverse ++ rest) (hW : 2 * g.monitorRoom + (rest.map fun v => v.category).sum ≤ W9) (hdg : decode c.code g.pc = .ok (.invokestatic index, 3))
    (hpre : ∀ vm₁, s.WarmedH vm₁ → Pre ⟨T.setVm vm₁, locs, cells, slots⟩ argsL.toArray) :
    ∃ (v : Option Value) (vm₁ : Vm) (B : Pt), s.WarmedH vm₁ ∧ Stand p l e R s m args below meth c B.U B.locs B.cells B.slots ∧ Post ⟨T.setVm vm₁, locs, cells, slots⟩ argsL.toArray v B ∧
      ∀ target, Steps p.tables e below (B.U.setTop { g with pc := g.pc + 3, stack := v.toList ++ rest }) target → Steps p.tables e below (T.setTop g) target := by
  obtain ⟨mk, methM, cM, hnamed, hmethM, -, -, -, -, -, -, hsigM⟩ := Cond.codeWith_spec hcode
  have hstatic : methM.isStatic = true := Cond.static_spec hnamed hmethM hstat
  obtain ⟨kP, hkP, -⟩ := className_of_methodNamed hnamed
  have hinitP : kP.init = .initialized := Cond.initialized_spec (findClass_of_methodNamed hnamed) hkP hinit
  obtain ⟨vm₁, X₁, hstep₁⟩ := X.invokestatic hexec hown hlink hnamed hmethM hstatic hkP hinitP hy (g := g) hg (argsL := argsL) (rest := rest) (hlen _ hsigM) hstack hdg
  obtain ⟨v, B, X', hpost, hsteps⟩ := hK m meth c ⟨T.setVm vm₁, locs, cells, slots⟩ { g with stack := rest } (.invokestatic index) mk argsL.toArray X₁ hg hsize hdg hW (X₁.named hnamed) (hpre vm₁ X₁.warmed)
  exact ⟨v, vm₁, B, X₁.warmed, X', hpost, fun target h => hstep₁ _ fun acts => by rw [doInvoke_state]; exact hsteps.trans h⟩
theorem vx_runSW {y : MethodName} {bytes cc : ByteArray} {maxL nL mc ms n index : Nat} {ret : Option FieldType} {hh : List (Nat × Nat × Nat × Nat)} {ws : List Cond} {rm : Room} {Pc : Array Value → State → Prop} {Qc : Array Value → State → Outcome → State → Prop} {free : Addr → Prop} {Ts : List Cond} {own : String} {As rest : List Value} {g : JFrame}
    (S : CallFix p m c cc nL s args Ts own) (hM : Met l y ws rm Pc Qc mc ms free) (cw : vx_CSW R s args own index y bytes maxL ret hh ws rm mc ms n) (hp : PreS s H Pc As)
    (hg : g.method = m) (hn : As.length = n) (hsize : g.locals.size = nL) (hstack : g.stack = As.reverse ++ rest) (hW : 2 * g.monitorRoom + (rest.map fun v => v.category).sum ≤ 8) (hdg : decode cc g.pc = .ok (.invokestatic index, 3)) (hf : cells + mc ≤ R.cells ∧ slots + ms ≤ R.slots) :
    va_Run p l e R s m args below meth c H locs cells slots mc ms g rest (Qc As.toArray) (free) := by
  obtain ⟨⟨hrc, hrs, hfr, hlo, hws, hcw⟩, hcode, hini, hy, hlen, hl, hstt⟩ := cw
  have hK : Back l R p e below s args y 3 8 (PreOf R mc ms Pc) (PostOf Qc mc ms free) := va_backW (hh := hh) (bytes := bytes) (maxL := maxL) (ret := ret) hM hp.1 hrc hrs hfr hlo hws hcw (fun a' U hW => word_at hW (Or.inl (by first | rfl | simp [Cond.onTables, Cond.keeps, Cond.steady])) hini)
  obtain ⟨hx, hb, hml, ho, -⟩ := S
  intro T hT X
  obtain ⟨v, vm₁, ⟨U', l2, c2, s2⟩, hW₁, X', ⟨g', mk, t, L, e1, e2, hq, h1, hL, h2, h3⟩, st⟩ := vx_callSW X hx (hh := hh) (bytes := bytes) (maxL := maxL) (ret := ret) ho hl hstt hini hcode hy hK hg (hsize.trans hml.symm) (argsL := As) (rest := rest) (fun sig h => hn.trans (hlen sig h)) hstack hW (by rw [hb]; exact hdg)
    (fun vm₁ hW₁ => ⟨hf.1, hf.2, hp.2 (T.setVm vm₁) hT hW₁⟩)
  dsimp only [Pt.U, Pt.locs, Pt.cells, Pt.slots] at X' e1 e2 h1 h2 h3 st
  subst h1; subst h2; subst h3
  exact ⟨v, (T.setVm vm₁).calling g' mk As.toArray, t, U', L, hT, X', hL, e1, e2, hq, st⟩
/-- not caught here, past rows that name other classes: it goes on to the caller -/
theorem vx_outP {p : Program} {l : Launch} {e : Env} {R : Room} {s : State} {m : MethodId} {args : Array Value} {below : List Frame} {meth : Method} {c : Code} {H : Heap} {locs : List Loc} {cells slots : Nat} {free : Addr → Prop} {ls : Array Slot} {rest : List Value} {Qc : Array Value → State → Outcome → State → Prop} {XC : String → State → State → Prop}
    {pc : Nat} {own E : String} {ce : Cell} {q : Addr} {mc ms : Nat} (hown : s.vm.findClass own = some m.cls) (hlocks : meth.locks = false)
    (hpass : ∀ z ∈ c.exceptionTable.toList, covers z pc = false ∨ (z.catchType ≠ 0 ∧ ∃ nm : String, (Cond.classLink own z.catchType nm).before args s = true ∧ va_Nc E nm s)) (hcell : H[q]? = some ce) (hv : ce.vm = .none) (hcl : s.vm.findClass E = some ce.cls)
    (hx : ∀ t : State, t.heap = H → s.vm.Alike t.vm → XC E s t) (hf : ∀ z ∈ locs, free z.base) (hc : cells ≤ mc) (hs : slots ≤ ms) :
    vx_W p l e R s m args below meth c H locs cells slots (vx_MQ below Qc XC args s mc ms free) (F0 m pc ls rest) q := by
  intro T hT X
  have hpl : e.platform.magicAccessors = ({} : Platform).magicAccessors := by rw [X.admits.platform]
  obtain ⟨vm', hW', X', st⟩ := X.outThrough hlocks q (g := F0 m pc ls rest) rfl rfl rfl (cell := ce) (by rw [hT]; exact hcell) (by rw [hv]; rfl)
    (by obtain ⟨k9, h9, -⟩ := Vm.findClass_spec hcl; exact ⟨k9, h9⟩) (fun z hz => by
      rcases hpass z hz with h | ⟨hz0, nm, hl1, hn1⟩
      · exact Or.inl h
      · obtain ⟨c6, hc6, hcl6⟩ := Cond.classLink_spec hown hl1 e.platform hpl
        obtain ⟨a8, b8, h1, h2, h3⟩ := hn1
        cases Option.some.inj (h1.symm.trans hcl)
        cases Option.some.inj (h2.symm.trans hc6)
        exact Or.inr ⟨hz0, _, hcl6, h3⟩)
  obtain ⟨g₀, hfr⟩ := X'.frames_eq
  have hcell9 : ((T.setVm vm').setFrames (.throwing q :: below)).heap[q]? = some ce := by
    show T.heap[q]? = some ce
    rw [hT]; exact hcell
  have hend : Ended ((T.setVm vm').setFrames (.throwing q :: below)) below (.threw q) := State.frames_setFrames _ (State.cur_lt_of_frames hfr)
  refine ⟨(T.setVm vm').setFrames (.throwing q :: below), ?_, .threw q, X'.here.running, hend, Or.inr ⟨q, rfl, E, ce, locs, hx _ hT (X'.ends _).1.alike, hcell9, hv, hcl, (X'.ends _).1, (X'.ends _).2.mono hc hs, hf⟩⟩
  rw [X.pushThrowing_eq]
  exact st
/-- a thing of a world lies in the heap -/
theorem vx_lt {D : va_G} {cl : List vw_C} {ws : va_W} {H1 : Heap} (h : va_P D cl ws H1) {k : Nat} {q : Nat × va_E} (hk : ws[k]? = some q) : q.1 < H1.size := (h k q hk).lt
end VXS
/-! ===== END ===== -/
/-! ===== BEGIN methods with a table of their own: called by a name, returning or throwing ===== -/
section VXH
/-! vx_backW, vx_callVX, vx_callSX, vx_callVW, vx_runVW, vx_runVX, vx_runSX, vx_ofWH follow the same proofs as their sisters above (Free/Laws.lean, Shelf42/LK1.lean); vx_outP calls Shelf42/NT130.lean (outThrough). -/
section
variable {l : Launch} {R : Room} {p : Program} {e : Env} {below : List Frame} {s : State} {sargs : Array Value} {y : MethodName} {len W9 : Nat}
theorem vx_backW {ws : List Cond} {rm : Room} {Pc : Array Value → State → Prop} {Qc : Array Value → State → Outcome → State → Prop} {XC : String → State → State → Prop} {mc ms : Nat} {free : Addr → Prop} {bytes : ByteArray} {maxL : Nat} {ret : Option FieldType} {hh : List (Nat × Nat × Nat × Nat)}
    (hM : vx_Met l y ws rm Pc Qc XC mc ms free) (hblind : FrameBlind Pc) (hrc : rm.cells = mc) (hrs : rm.slots = ms)
    (hframes : rm.frames + 1 ≤ R.frames) (hlocals : W9 + (maxL + 11) + rm.locals ≤ R.locals)
    (hws : ∀ w ∈ ws, ∀ a' U, s.WarmedH U.vm → w.before a' U = true) (hcode : Cond.codeWith y bytes maxL ret hh ∈ ws) (hinit : ∀ a' U, s.WarmedH U.vm → (Cond.initialized y.cls).before a' U = true) :
    vx_Back l R p e below s sargs y len W9 (PreOf R mc ms Pc) (PostOf Qc mc ms free) (vx_Post XC mc ms free) := by
  intro m meth c A g ig mk a X hg hsize hdg hW hn hp
  have h1 : (headSpec ws rm).pre.before a A.U = true := atoms_intro fun w hw => hws w hw _ _ X.warmed
  have h2 : (Cond.codeWith y bytes maxL ret hh).before a A.U = true := hws _ hcode _ _ X.warmed
  have h3 : (Cond.initialized y.cls).before a A.U = true := hinit _ _ X.warmed
  have h4 : A.cells + (headSpec ws rm).room.cells ≤ R.cells := by rw [show (headSpec ws rm).room.cells = mc from hrc]; exact hp.1
  have h5 : A.slots + (headSpec ws rm).room.slots ≤ R.slots := by rw [show (headSpec ws rm).room.slots = ms from hrs]; exact hp.2.1
  have hPc : Pc a (A.U.calling g mk a) := hblind _ _ _ _ hp.2.2
  obtain ⟨U, Ls, c0, s0⟩ := A
  dsimp only [Pt.U, Pt.locs, Pt.cells, Pt.slots] at h1 h2 h3 h4 h5 X hn hPc ⊢
  obtain ⟨m9, methY, cY, hn9, hmY, hcY, -, hlY, -⟩ := Cond.codeWith_spec h2
  cases Option.some.inj (hn9.symm.trans hn)
  obtain ⟨kY, hkY, -⟩ := className_of_methodNamed hn
  have hinitY : kY.init = .initialized := Cond.initialized_spec (findClass_of_methodNamed hn) hkY h3
  have h : At U g.method c below := by rw [hg]; exact X.here
  have hlocals9 : W9 + (maxL + 11) + (headSpec ws rm).room.locals ≤ R.locals := hlocals
  have happ : (headSpec ws rm).appliesLoose y e.platform (U.calling g mk a) = true :=
    Spec.appliesLoose_calling (g := g) h hdg hn hkY hinitY
      (X.room_calling (g := g) (R' := (headSpec ws rm).room) hsize hmY hcY hframes (by rw [hlY]; omega) h4 h5) h1
  obtain ⟨mid, hmid⟩ := h.above
  have hfr : (U.setTop g).frames = (.java g :: mid) ++ below := by rw [State.frames_setTop' g h.top, hmid]; rfl
  obtain ⟨o, s₂, hsteps, -, hend, hq⟩ := Steps.callFree hM p X.admits X.cas X.clock (acts := []) hfr happ hPc trivial
  have hq' : vx_Q Qc XC mc ms free a (U.calling g mk a) o s₂ := hq
  rw [State.frames_setTop' g h.top] at hend
  obtain ⟨g₀, hg0⟩ := Option.isSome_iff_exists.mp h.top
  obtain ⟨r, hr⟩ := State.topJava?_eq_some.mp hg0
  have hr' : (({ U with heap := s₂.heap, slotsUsed := s₂.slotsUsed } : State).setVm s₂.vm).frames = .java g₀ :: r := hr
  rcases hq' with ⟨hqc, L, hfe, hL⟩ | ⟨q, rfl, E, ce, L, hx, hce, hcv, hcl, hW₂, hsm, hL⟩
  · obtain ⟨⟨v, rfl⟩, hW₂, e2, q2, q3, q4, q5, q6⟩ := id hfe
    have e3 : s₂ = ({ (U.calling g mk a).setFrames s₂.frames with heap := s₂.heap, slotsUsed := s₂.slotsUsed } : State).setVm s₂.vm := by
      have : s₂ = ({ s₂ with vm := (U.calling g mk a).vm } : State).setVm s₂.vm := rfl
      rw [e2] at this
      exact this
    obtain ⟨c₂, i₂, len₂, hc₂, hd₂, hf₂⟩ := hend
    have hW' : U.WarmedH s₂.vm := hW₂
    have hcc : c₂ = c := by
      have h1 : s₂.code? g.method = U.code? g.method := by
        rw [State.code?_eq, State.code?_eq, hW'.alike.method?]
      exact Option.some.inj (hc₂.symm.trans (h1.trans h.code))
    subst hcc
    have hlen : len₂ = len := by rw [hdg] at hd₂; cases hd₂; rfl
    subst hlen
    have hs₂ : s₂ = (({ U with heap := s₂.heap, slotsUsed := s₂.slotsUsed } : State).setVm s₂.vm).setTop { g with pc := g.pc + len₂, stack := v.toList ++ g.stack } := by
      refine e3.trans ?_
      rw [hf₂, State.calling_eq h.top, State.setFrames_setFrames, State.setTop_of_frames _ hr', hr]
      rfl
    have hsame : U.sameButNew ({ U with heap := s₂.heap, slotsUsed := s₂.slotsUsed } : State) L mc ms := by
      refine ⟨?_, q2, q3, q4, q5, q6⟩
      obtain ⟨t, ht, -⟩ := State.frames_cons hr
      show ({ U with heap := s₂.heap, slotsUsed := s₂.slotsUsed } : State) = { U.setFrames U.frames with heap := s₂.heap, slotsUsed := s₂.slotsUsed }
      rw [State.setFrames_self ht]
    subst hg
    refine Or.inl ⟨v, ⟨(({ U with heap := s₂.heap, slotsUsed := s₂.slotsUsed } : State).setVm s₂.vm), Ls ++ L, c0 + mc, s0 + ms⟩,
      ⟨X.admits, X.cas, X.clock, X.frames, X.room, X.hears, X.method, X.code, (X.here.setHeapUsed s₂.heap s₂.slotsUsed).setVm hW'.alike, X.tail, State.WarmedH.trans X.warmed hW', X.limits, X.bytes, X.same.trans (hsame.setVm s.vm)⟩,
      ⟨g, mk, s₂, L, rfl, rfl, hqc, rfl, hL, rfl, rfl⟩, ?_⟩
    show Steps p.tables e below _ ((({ U with heap := s₂.heap, slotsUsed := s₂.slotsUsed } : State).setVm s₂.vm).setTop { g with pc := g.pc + len₂, stack := v.toList ++ g.stack })
    rw [← hs₂]
    exact hsteps
  · obtain ⟨e2, q2, q3, q4, q5, q6⟩ := id hsm
    have e3 : s₂ = ({ (U.calling g mk a).setFrames s₂.frames with heap := s₂.heap, slotsUsed := s₂.slotsUsed } : State).setVm s₂.vm := by
      have : s₂ = ({ s₂ with vm := (U.calling g mk a).vm } : State).setVm s₂.vm := rfl
      rw [e2] at this
      exact this
    have hf₂ : s₂.frames = .throwing q :: .java g :: U.frames.tail := hend
    have hW' : U.WarmedH s₂.vm := hW₂
    have hs₂ : s₂ = ((({ U with heap := s₂.heap, slotsUsed := s₂.slotsUsed } : State).setVm s₂.vm).setTop g).pushFrame (.throwing q) := by
      refine e3.trans ?_
      rw [hf₂, State.calling_eq h.top, State.setFrames_setFrames, State.pushFrame, State.frames_setTop _ hr', State.setTop_of_frames _ hr', State.setFrames_setFrames, hr]
      rfl
    have hsame : U.sameButNew ({ U with heap := s₂.heap, slotsUsed := s₂.slotsUsed } : State) L mc ms := by
      refine ⟨?_, q2, q3, q4, q5, q6⟩
      obtain ⟨t, ht, -⟩ := State.frames_cons hr
      show ({ U with heap := s₂.heap, slotsUsed := s₂.slotsUsed } : State) = { U.setFrames U.frames with heap := s₂.heap, slotsUsed := s₂.slotsUsed }
      rw [State.setFrames_self ht]
    subst hg
    refine Or.inr ⟨q, ⟨(({ U with heap := s₂.heap, slotsUsed := s₂.slotsUsed } : State).setVm s₂.vm), Ls ++ L, c0 + mc, s0 + ms⟩,
      ⟨X.admits, X.cas, X.clock, X.frames, X.room, X.hears, X.method, X.code, (X.here.setHeapUsed s₂.heap s₂.slotsUsed).setVm hW'.alike, X.tail, State.WarmedH.trans X.warmed hW', X.limits, X.bytes, X.same.trans (hsame.setVm s.vm)⟩,
      ⟨g, mk, s₂, L, E, ce, rfl, rfl, hx, hce, hcv, hcl, rfl, hL, rfl, rfl⟩, ?_⟩
    show Steps p.tables e below _ (((({ U with heap := s₂.heap, slotsUsed := s₂.slotsUsed } : State).setVm s₂.vm).setTop g).pushFrame (.throwing q))
    rw [← hs₂]
    exact hsteps
end
variable {p : Program} {l : Launch} {e : Env} {R : Room} {s : State} {m : MethodId} {args : Array Value} {below : List Frame} {meth : Method} {c : Code} {T : State} {H : Heap} {locs : List Loc} {cells slots : Nat}
theorem vx_callVX (X : Stand p l e R s m args below meth c T locs cells slots) (hexec : p.tables.exec = Jvm.exec) {own C : String} {index : Nat} {y : MethodName} {bytes : ByteArray} {maxL : Nat} {ret : Option FieldType} {hh : List (Nat × Nat × Nat × Nat)}
    (hown : s.vm.findClass own = some m.cls) (hlink : (Cond.methodLink own index y).before args s = true) (hinst : (Cond.instanceMethod y).before args s = true) (hsel : (Cond.selects C y y).before args s = true)
    (hcode : (Cond.codeWith y bytes maxL ret hh).before args s = true) (hy : y.cls ≠ "java/lang/invoke/MethodHandle" ∧ y.cls ≠ "java/lang/invoke/VarHandle")
    {W9 : Nat} {Pre : Pt → Array Value → Prop} {Post : Pt → Array Value → Option Value → Pt → Prop} {PostX : Pt → Array Value → Addr → Pt → Prop} (hK : vx_Back l R p e below s args y 3 W9 Pre Post PostX)
    {b : Addr} {cellB : Cell} (hcell : T.heap[b]? = some cellB) (hobj : cellB.vm.isStatics = false) (hcls : s.vm.findClass C = some cellB.cls)
    {g : JFrame} (hg : g.method = m) (hsize : g.locals.size = c.maxLocals) {argsL rest : List Value} (hlen : ∀ sig, parseMethodDescriptor y.desc = some sig → argsL.length = sig.parameters.length)
    (hstack : g.stack = argsL.reverse ++ .ref b :: rest) (hW : 2 * g.monitorRoom + (rest.map fun v => v.category).sum ≤ W9) (hdg : decode c.code g.pc = .ok (.invokevirtual index, 3))
    (hpre : ∀ vm₁, s.WarmedH vm₁ → Pre ⟨T.setVm vm₁, locs, cells, slots⟩ (Value.ref b :: argsL).toArray) :
    (∃ (v : Option Value) (vm₁ : Vm) (B : Pt), s.WarmedH vm₁ ∧ Stand p l e R s m args below meth c B.U B.locs B.cells B.slots ∧ Post ⟨T.setVm vm₁, locs, cells, slots⟩ (Value.ref b :: argsL).toArray v B ∧
      ∀ target, Steps p.tables e below (B.U.setTop { g with pc := g.pc + 3, stack := v.toList ++ rest }) target → Steps p.tables e below (T.setTop g) target) ∨
    (∃ (q : Addr) (vm₁ : Vm) (B : Pt), s.WarmedH vm₁ ∧ Stand p l e R s m args below meth c B.U B.locs B.cells B.slots ∧ PostX ⟨T.setVm vm₁, locs, cells, slots⟩ (Value.ref b :: argsL).toArray q B ∧
      Steps p.tables e below (T.setTop g) ((B.U.setTop { g with stack := rest }).pushFrame (.throwing q))) := by
  obtain ⟨mk, methM, hnamed, hmethM, hstM, habM⟩ := Cond.instanceMethod_spec hinst
  obtain ⟨m8, methM', cM, hn8, hmethM', -, -, -, -, -, -, hsigM⟩ := Cond.codeWith_spec hcode
  cases Option.some.inj (hn8.symm.trans hnamed)
  cases hmethM.symm.trans hmethM'
  obtain ⟨c2, r2, m2, q1, q2, q3, q4, kP, hkP, hkPi⟩ := Cond.selects_spec hsel
  cases hcls.symm.trans q1
  cases (State.methodFound?_of_named hnamed hy).symm.trans q2
  cases hnamed.symm.trans q3
  have hselP : selectMethod e.platform s.vm cellB.cls mk = .method mk := by rw [Launch.admits_selectMethod X.admits]; exact q4
  obtain ⟨vm₁, X₁, hstep₁⟩ := X.invokevirtual hexec hown hlink hnamed hmethM hstM hkP hkPi hy (a := b) (cell := cellB) hcell
    (fun z h => by rw [h] at hobj; cases hobj) hselP hmethM habM hkP hkPi (g := g) hg (argsL := argsL) (rest := rest) (hlen _ hsigM) hstack hdg
  rcases hK m meth c ⟨T.setVm vm₁, locs, cells, slots⟩ { g with stack := rest } (.invokevirtual index) mk (Value.ref b :: argsL).toArray X₁ hg hsize hdg hW (X₁.named hnamed) (hpre vm₁ X₁.warmed) with ⟨v, B, X', hpost, hsteps⟩ | ⟨q, B, X', hpost, hsteps⟩
  · exact Or.inl ⟨v, vm₁, B, X₁.warmed, X', hpost, fun target h => hstep₁ _ fun acts => by rw [doInvoke_state]; exact hsteps.trans h⟩
  · exact Or.inr ⟨q, vm₁, B, X₁.warmed, X', hpost, hstep₁ _ fun acts => by rw [doInvoke_state]; exact hsteps⟩
theorem vx_callSX (X : Stand p l e R s m args below meth c T locs cells slots) (hexec : p.tables.exec = Jvm.exec) {own : String} {index : Nat} {y : MethodName} {bytes : ByteArray} {maxL : Nat} {ret : Option FieldType} {hh : List (Nat × Nat × Nat × Nat)}
    (hown : s.vm.findClass own = some m.cls) (hlink : (Cond.methodLink own index y).before args s = true) (hstat : (Cond.static y).before args s = true) (hinit : (Cond.initialized y.cls).before args s = true)
    (hcode : (Cond.codeWith y bytes maxL ret hh).before args s = true) (hy : y.cls ≠ "java/lang/invoke/MethodHandle" ∧ y.cls ≠ "java/lang/invoke/VarHandle")
    {W9 : Nat} {Pre : Pt → Array Value → Prop} {Post : Pt → Array Value → Option Value → Pt → Prop} {PostX : Pt → Array Value → Addr → Pt → Prop} (hK : vx_Back l R p e below s args y 3 W9 Pre Post PostX)
    {g : JFrame} (hg : g.method = m) (hsize : g.locals.size = c.maxLocals) {argsL rest : List Value} (hlen : ∀ sig, parseMethodDescriptor y.desc = some sig → argsL.length = sig.parameters.length)
    (hstack : g.stack = argsL.reverse ++ rest) (hW : 2 * g.monitorRoom + (rest.map fun v => v.category).sum ≤ W9) (hdg : decode c.code g.pc = .ok (.invokestatic index, 3))
    (hpre : ∀ vm₁, s.WarmedH vm₁ → Pre ⟨T.setVm vm₁, locs, cells, slots⟩ argsL.toArray) :
    (∃ (v : Option Value) (vm₁ : Vm) (B : Pt), s.WarmedH vm₁ ∧ Stand p l e R s m args below meth c B.U B.locs B.cells B.slots ∧ Post ⟨T.setVm vm₁, locs, cells, slots⟩ argsL.toArray v B ∧
      ∀ target, Steps p.tables e below (B.U.setTop { g with pc := g.pc + 3, stack := v.toList ++ rest }) target → Steps p.tables e below (T.setTop g) target) ∨
    (∃ (q : Addr) (vm₁ : Vm) (B : Pt), s.WarmedH vm₁ ∧ Stand p l e R s m args below meth c B.U B.locs B.cells B.slots ∧ PostX ⟨T.setVm vm₁, locs, cells, slots⟩ argsL.toArray q B ∧
      Steps p.tables e below (T.setTop g) ((B.U.setTop { g with stack := rest }).pushFrame (.throwing q))) := by
  obtain ⟨mk, methM, cM, hnamed, hmethM, -, -, -, -, -, -, hsigM⟩ := Cond.codeWith_spec hcode
  have hstatic : methM.isStatic = true := Cond.static_spec hnamed hmethM hstat
  obtain ⟨kP, hkP, -⟩ := className_of_methodNamed hnamed
  have hinitP : kP.init = .initialized := Cond.initialized_spec (findClass_of_methodNamed hnamed) hkP hinit
  obtain ⟨vm₁, X₁, hstep₁⟩ := X.invokestatic hexec hown hlink hnamed hmethM hstatic hkP hinitP hy (g := g) hg (argsL := argsL) (rest := rest) (hlen _ hsigM) hstack hdg
  rcases hK m meth c ⟨T.setVm vm₁, locs, cells, slots⟩ { g with stack := rest } (.invokestatic index) mk argsL.toArray X₁ hg hsize hdg hW (X₁.named hnamed) (hpre vm₁ X₁.warmed) with ⟨v, B, X', hpost, hsteps⟩ | ⟨q, B, X', hpost, hsteps⟩
  · exact Or.inl ⟨v, vm₁, B, X₁.warmed, X', hpost, fun target h => hstep₁ _ fun acts => by rw [doInvoke_state]; exact hsteps.trans h⟩
  · exact Or.inr ⟨q, vm₁, B, X₁.warmed, X', hpost, hstep₁ _ fun acts => by rw [doInvoke_state]; exact hsteps⟩
theorem vx_callVW (X : Stand p l e R s m args below meth c T locs cells slots) (hexec : p.tables.exec = Jvm.exec) {own C : String} {index : Nat} {y : MethodName} {bytes : ByteArray} {maxL : Nat} {ret : Option FieldType} {hh : List (Nat × Nat × Nat × Nat)}
    (hown : s.vm.findClass own = some m.cls) (hlink : (Cond.methodLink own index y).before args s = true) (hinst : (Cond.instanceMethod y).before args s = true) (hsel : (Cond.selects C y y).before args s = true)
    (hcode : (Cond.codeWith y bytes maxL ret hh).before args s = true) (hy : y.cls ≠ "java/lang/invoke/MethodHandle" ∧ y.cls ≠ "java/lang/invoke/VarHandle")
    {W9 : Nat} {Pre : Pt → Array Value → Prop} {Post : Pt → Array Value → Option Value → Pt → Prop} (hK : Back l R p e below s args y 3 W9 Pre Post)
    {b : Addr} {cellB : Cell} (hcell : T.heap[b]? = some cellB) (hobj : cellB.vm.isStatics = false) (hcls : s.vm.findClass C = some cellB.cls)
    {g : JFrame} (hg : g.method = m) (hsize : g.locals.size = c.maxLocals) {argsL rest : List Value} (hlen : ∀ sig, parseMethodDescriptor y.desc = some sig → argsL.length = sig.parameters.length)
    (hstack : g.stack = argsL.reverse ++ .ref b :: rest) (hW : 2 * g.monitorRoom + (rest.map fun v => v.category).sum ≤ W9) (hdg : decode c.code g.pc = .ok (.invokevirtual index, 3))
    (hpre : ∀ vm₁, s.WarmedH vm₁ → Pre ⟨T.setVm vm₁, locs, cells, slots⟩ (Value.ref b :: argsL).toArray) :
    ∃ (v : Option Value) (vm₁ : Vm) (B : Pt), s.WarmedH vm₁ ∧ Stand p l e R s m args below meth c B.U B.locs B.cells B.slots ∧ Post ⟨T.setVm vm₁, locs, cells, slots⟩ (Value.ref b :: argsL).toArray v B ∧
      ∀ target, Steps p.tables e below (B.U.setTop { g with pc := g.pc + 3, stack := v.toList ++ rest }) target → Steps p.tables e below (T.setTop g) target := by
  obtain ⟨mk, methM, hnamed, hmethM, hstM, habM⟩ := Cond.instanceMethod_spec hinst
  obtain ⟨m8, methM', cM, hn8, hmethM', -, -, -, -, -, -, hsigM⟩ := Cond.codeWith_spec hcode
  cases Option.some.inj (hn8.symm.trans hnamed)
  cases hmethM.symm.trans hmethM'
  obtain ⟨c2, r2, m2, q1, q2, q3, q4, kP, hkP, hkPi⟩ := Cond.selects_spec hsel
  cases hcls.symm.trans q1
  cases (State.methodFound?_of_named hnamed hy).symm.trans q2
  cases hnamed.symm.trans q3
  have hselP : selectMethod e.platform s.vm cellB.cls mk = .method mk := by rw [Launch.admits_selectMethod X.admits]; exact q4
  obtain ⟨vm₁, X₁, hstep₁⟩ := X.invokevirtual hexec hown hlink hnamed hmethM hstM hkP hkPi hy (a := b) (cell := cellB) hcell
    (fun z h => by rw [h] at hobj; cases hobj) hselP hmethM habM hkP hkPi (g := g) hg (argsL := argsL) (rest := rest) (hlen _ hsigM) hstack hdg
  obtain ⟨v, B, X', hpost, hsteps⟩ := hK m meth c ⟨T.setVm vm₁, locs, cells, slots⟩ { g with stack := rest } (.invokevirtual index) mk (Value.ref b :: argsL).toArray X₁ hg hsize hdg hW (X₁.named hnamed) (hpre vm₁ X₁.warmed)
  exact ⟨v, vm₁, B, X₁.warmed, X', hpost, fun target h => hstep₁ _ fun acts => by rw [doInvoke_state]; exact hsteps.trans h⟩
abbrev vx_CVW (R : Room) (s : State) (args : Array Value) (own C : String) (index : Nat) (y : MethodName) (bytes : ByteArray) (maxL : Nat) (ret : Option FieldType) (hh : List (Nat × Nat × Nat × Nat)) (ws : List Cond) (rm : Room) (mc ms n : Nat) : Prop :=
  (rm.cells = mc ∧ rm.slots = ms ∧ rm.frames + 1 ≤ R.frames ∧ 8 + (maxL + 11) + rm.locals ≤ R.locals ∧ (∀ w ∈ ws, ∀ (a' : Array Value) (U : State), s.WarmedH U.vm → w.before a' U = true) ∧ Cond.codeWith y bytes maxL ret hh ∈ ws) ∧
  (Cond.codeWith y bytes maxL ret hh).before args s = true ∧ (Cond.initialized y.cls).before args s = true ∧ (y.cls ≠ "java/lang/invoke/MethodHandle" ∧ y.cls ≠ "java/lang/invoke/VarHandle") ∧
  (∀ sig, parseMethodDescriptor y.desc = some sig → n = sig.parameters.length) ∧ (Cond.methodLink own index y).before args s = true ∧ (Cond.instanceMethod y).before args s = true ∧ (Cond.selects C y y).before args s = true
theorem vx_cwVW {own C : String} {index maxL mc ms : Nat} {y : MethodName} {bytes : ByteArray} {ret : Option FieldType} {hh : List (Nat × Nat × Nat × Nat)} {Ts ws ws' : List Cond} {rm : Room} (n : Nat) (ht : ∀ w ∈ Ts, w.before args s = true) (hT : GoodIn Ts (wsV own index C y ws)) (hw : ws = Cond.codeWith y bytes maxL ret hh :: ws') (hrc : rm.cells = mc) (hrs : rm.slots = ms)
    (hd : y.cls = C ∧ y.cls ≠ "java/lang/invoke/MethodHandle" ∧ y.cls ≠ "java/lang/invoke/VarHandle" ∧ (parseMethodDescriptor y.desc).map (fun d => d.parameters.length) = some n) (hR : rm.frames + 1 ≤ R.frames ∧ 8 + (maxL + 11) + rm.locals ≤ R.locals) :
    vx_CVW R s args own C index y bytes maxL ret hh ws rm mc ms n := by
  obtain ⟨hC, hd⟩ := hd
  subst hC
  have ok : ∀ w ∈ wsV own index y.cls y ws, w.before args s = true := fun w h => ht w (hT w h).1
  have hG : GoodIn Ts ws := fun w h => hT w (by unfold wsV; exact List.mem_append_right _ h)
  have hc : Cond.codeWith y bytes maxL ret hh ∈ ws := by rw [hw]; exact List.mem_cons_self
  refine ⟨⟨hrc, hrs, hR.1, hR.2, pay_in ht hG, hc⟩, ht _ (hG _ hc).1, ok _ (by simp [wsV]), ⟨hd.1, hd.2.1⟩, fun sig h => ?_, ok _ (by simp [wsV]), ok _ (by simp [wsV]), ok _ (by simp [wsV])⟩
  have h2 := hd.2.2
  rw [h] at h2
  exact (Option.some.inj h2).symm
theorem vx_runVW {y : MethodName} {bytes cc : ByteArray} {maxL nL mc ms n index : Nat} {ret : Option FieldType} {hh : List (Nat × Nat × Nat × Nat)} {ws : List Cond} {rm : Room} {Pc : Array Value → State → Prop} {Qc : Array Value → State → Outcome → State → Prop} {free : Addr → Prop} {Ts : List Cond} {own C : String} {b : Addr} {As rest : List Value} {g : JFrame}
    (S : CallFix p m c cc nL s args Ts own) (hM : Met l y ws rm Pc Qc mc ms free) (cw : vx_CVW R s args own C index y bytes maxL ret hh ws rm mc ms n) (hp : PreV s H C b Pc As)
    (hg : g.method = m) (hn : As.length = n) (hsize : g.locals.size = nL) (hstack : g.stack = As.reverse ++ .ref b :: rest) (hW : 2 * g.monitorRoom + (rest.map fun v => v.category).sum ≤ 8) (hdg : decode cc g.pc = .ok (.invokevirtual index, 3)) (hf : cells + mc ≤ R.cells ∧ slots + ms ≤ R.slots) :
    va_Run p l e R s m args below meth c H locs cells slots mc ms g rest (Qc (Value.ref b :: As).toArray) free := by
  obtain ⟨⟨hrc, hrs, hfr, hlo, hws, hcw⟩, hcode, hini, hy, hlen, hl, hin, hse⟩ := cw
  have hK : Back l R p e below s args y 3 8 (PreOf R mc ms Pc) (PostOf Qc mc ms free) := va_backW (hh := hh) (bytes := bytes) (maxL := maxL) (ret := ret) hM hp.1 hrc hrs hfr hlo hws hcw (fun a' U hW => word_at hW (Or.inl (by first | rfl | simp [Cond.onTables, Cond.keeps, Cond.steady])) hini)
  obtain ⟨hx, hb, hml, ho, -⟩ := S
  obtain ⟨-, ⟨cellB, hcB, hoB, hclB⟩, hPc⟩ := hp
  intro T hT X
  obtain ⟨v, vm₁, ⟨U', l2, c2, s2⟩, hW₁, X', ⟨g', mk, t, L, e1, e2, hq, h1, hL, h2, h3⟩, st⟩ := vx_callVW X hx (C := C) (hh := hh) (bytes := bytes) (maxL := maxL) (ret := ret) ho hl hin hse hcode hy hK (by rw [hT]; exact hcB) hoB hclB hg (hsize.trans hml.symm) (argsL := As) (rest := rest) (fun sig h => hn.trans (hlen sig h)) hstack hW (by rw [hb]; exact hdg)
    (fun vm₁ hW₁ => ⟨hf.1, hf.2, hPc (T.setVm vm₁) hT hW₁⟩)
  dsimp only [Pt.U, Pt.locs, Pt.cells, Pt.slots] at X' e1 e2 h1 h2 h3 st
  subst h1; subst h2; subst h3
  exact ⟨v, (T.setVm vm₁).calling g' mk (Value.ref b :: As).toArray, t, U', L, hT, X', hL, e1, e2, hq, st⟩
section
variable {y : MethodName} {bytes cc : ByteArray} {maxL nL mc ms n index : Nat} {ret : Option FieldType} {ws : List Cond} {rm : Room} {Pc : Array Value → State → Prop} {Qc : Array Value → State → Outcome → State → Prop} {XC : String → State → State → Prop} {free : Addr → Prop} {Ts : List Cond} {own C : String} {b : Addr} {As rest : List Value} {g : JFrame}
theorem vx_runVX {hh : List (Nat × Nat × Nat × Nat)} (S : CallFix p m c cc nL s args Ts own) (hM : vx_Met l y ws rm Pc Qc XC mc ms free) (cw : vx_CVW R s args own C index y bytes maxL ret hh ws rm mc ms n) (hp : PreV s H C b Pc As)
    (hg : g.method = m) (hn : As.length = n) (hsize : g.locals.size = nL) (hstack : g.stack = As.reverse ++ .ref b :: rest) (hW : 2 * g.monitorRoom + (rest.map fun v => v.category).sum ≤ 8) (hdg : decode cc g.pc = .ok (.invokevirtual index, 3)) (hf : cells + mc ≤ R.cells ∧ slots + ms ≤ R.slots) :
    vx_Run p l e R s m args below meth c H locs cells slots mc ms g rest (Qc (Value.ref b :: As).toArray) XC free := by
  obtain ⟨⟨hrc, hrs, hfr, hlo, hws, hcw⟩, hcode, hini, hy, hlen, hl, hin, hse⟩ := cw
  have hK : vx_Back l R p e below s args y 3 8 (PreOf R mc ms Pc) (PostOf Qc mc ms free) (vx_Post XC mc ms free) := vx_backW (hh := hh) (bytes := bytes) (maxL := maxL) (ret := ret) hM hp.1 hrc hrs hfr hlo hws hcw (fun a' U hW => word_at hW (Or.inl (by first | rfl | simp [Cond.onTables, Cond.keeps, Cond.steady])) hini)
  obtain ⟨hx, hb, hml, ho, -⟩ := S
  obtain ⟨-, ⟨cellB, hcB, hoB, hclB⟩, hPc⟩ := hp
  intro T hT X
  rcases vx_callVX X hx (C := C) (hh := hh) (bytes := bytes) (maxL := maxL) (ret := ret) ho hl hin hse hcode hy hK (by rw [hT]; exact hcB) hoB hclB hg (hsize.trans hml.symm) (argsL := As) (rest := rest) (fun sig h => hn.trans (hlen sig h)) hstack hW (by rw [hb]; exact hdg)
    (fun vm₁ hW₁ => ⟨hf.1, hf.2, hPc (T.setVm vm₁) hT hW₁⟩) with ⟨v, vm₁, ⟨U', l2, c2, s2⟩, hW₁, X', ⟨g', mk, t, L, e1, e2, hq, h1, hL, h2, h3⟩, st⟩ | ⟨q, vm₁, ⟨U', l2, c2, s2⟩, hW₁, X', ⟨g', mk, t, L, E, ce, e1, e2, hq, hce, hcv, hcl, h1, hL, h2, h3⟩, st⟩
  · dsimp only [Pt.U, Pt.locs, Pt.cells, Pt.slots] at X' e1 e2 h1 h2 h3 st
    subst h1; subst h2; subst h3
    exact Or.inl ⟨v, (T.setVm vm₁).calling g' mk (Value.ref b :: As).toArray, t, U', L, hT, X', hL, e1, e2, hq, st⟩
  · dsimp only [Pt.U, Pt.locs, Pt.cells, Pt.slots] at X' e1 e2 h1 h2 h3 st hcl
    subst h1; subst h2; subst h3
    exact Or.inr ⟨q, (T.setVm vm₁).calling g' mk (Value.ref b :: As).toArray, t, U', L, E, ce, hT, X', hL, e1, e2, hq, hce, hcv, vx_cls hW₁ hcl, st⟩
theorem vx_runSX {hh : List (Nat × Nat × Nat × Nat)} (S : CallFix p m c cc nL s args Ts own) (hM : vx_Met l y ws rm Pc Qc XC mc ms free) (cw : vx_CSW R s args own index y bytes maxL ret hh ws rm mc ms n) (hp : PreS s H Pc As)
    (hg : g.method = m) (hn : As.length = n) (hsize : g.locals.size = nL) (hstack : g.stack = As.reverse ++ rest) (hW : 2 * g.monitorRoom + (rest.map fun v => v.category).sum ≤ 8) (hdg : decode cc g.pc = .ok (.invokestatic index, 3)) (hf : cells + mc ≤ R.cells ∧ slots + ms ≤ R.slots) :
    vx_Run p l e R s m args below meth c H locs cells slots mc ms g rest (Qc As.toArray) XC free := by
  obtain ⟨⟨hrc, hrs, hfr, hlo, hws, hcw⟩, hcode, hini, hy, hlen, hl, hstt⟩ := cw
  have hK : vx_Back l R p e below s args y 3 8 (PreOf R mc ms Pc) (PostOf Qc mc ms free) (vx_Post XC mc ms free) := vx_backW (hh := hh) (bytes := bytes) (maxL := maxL) (ret := ret) hM hp.1 hrc hrs hfr hlo hws hcw (fun a' U hW => word_at hW (Or.inl (by first | rfl | simp [Cond.onTables, Cond.keeps, Cond.steady])) hini)
  obtain ⟨hx, hb, hml, ho, -⟩ := S
  intro T hT X
  rcases vx_callSX X hx (hh := hh) (bytes := bytes) (maxL := maxL) (ret := ret) ho hl hstt hini hcode hy hK hg (hsize.trans hml.symm) (argsL := As) (rest := rest) (fun sig h => hn.trans (hlen sig h)) hstack hW (by rw [hb]; exact hdg)
    (fun vm₁ hW₁ => ⟨hf.1, hf.2, hp.2 (T.setVm vm₁) hT hW₁⟩) with ⟨v, vm₁, ⟨U', l2, c2, s2⟩, hW₁, X', ⟨g', mk, t, L, e1, e2, hq, h1, hL, h2, h3⟩, st⟩ | ⟨q, vm₁, ⟨U', l2, c2, s2⟩, hW₁, X', ⟨g', mk, t, L, E, ce, e1, e2, hq, hce, hcv, hcl, h1, hL, h2, h3⟩, st⟩
  · dsimp only [Pt.U, Pt.locs, Pt.cells, Pt.slots] at X' e1 e2 h1 h2 h3 st
    subst h1; subst h2; subst h3
    exact Or.inl ⟨v, (T.setVm vm₁).calling g' mk As.toArray, t, U', L, hT, X', hL, e1, e2, hq, st⟩
  · dsimp only [Pt.U, Pt.locs, Pt.cells, Pt.slots] at X' e1 e2 h1 h2 h3 st hcl
    subst h1; subst h2; subst h3
    exact Or.inr ⟨q, (T.setVm vm₁).calling g' mk As.toArray, t, U', L, E, ce, hT, X', hL, e1, e2, hq, hce, hcv, vx_cls hW₁ hcl, st⟩
end
end VXH
theorem vx_ofWH {l : Launch} {y : MethodName} {ws ws' : List Cond} {rm : Room} {Pc : Array Value → State → Prop} {Qc : Array Value → State → Outcome → State → Prop} {XC : String → State → State → Prop} {mc ms : Nat} {free : Addr → Prop} {cc : ByteArray} {maxL : Nat} {ret : Option FieldType} {hh : List (Nat × Nat × Nat × Nat)}
    (hy : plainName y.cls = true) (hw : ws = Cond.codeWith y cc maxL ret hh :: ws')
    (body : ∀ p e s m args below meth c s₁, BodyLoose p l y (headSpec ws rm) cc maxL ret e s m args below meth c s₁ → c.maxLocals = maxL → Pc args s →
      W p l e (headSpec ws rm).room s m args below meth c s.heap [] 0 0 (vx_MQ below Qc XC args s mc ms free) (entryFrame m args maxL)) : vx_Met l y ws rm Pc Qc XC mc ms free := by
  refine MetFree.of_bodyS (code := cc) (maxLocals := maxL) (ret := ret) hy ?_ ?_
  · intro args s m h hn
    obtain ⟨m9, meth, c, hn9, h1, h2, h3, h4, -, h5, h6, -⟩ := Cond.codeWith_spec (atoms_spec (ws := ws) h _ (by rw [hw]; exact List.mem_cons_self))
    cases hn.symm.trans hn9
    exact ⟨meth, c, h1, h2, h3, h4, h5, h6⟩
  · intro p e s m args below meth c s₁ B hml hP _
    have hh0 : s₁.heap = s.heap := by rw [B.state]; rfl
    obtain ⟨t, a1, o, b1, b2, b3⟩ := body p e s m args below meth c s₁ B hml hP s₁ hh0 (Stand.of_body B)
    exact ⟨t, o, a1, b1, b2, b3⟩
/-! ===== END ===== -/
end
section
def RX0 : String := "TestSlots$Examiner"
def TX0 : u_T := fun k => match k with
  | 0 => ("TestSlots$Examiner", "testsOnRoute", "[I", true)
  | 1 => ("TestSlots$Examiner", "passed", "I", false)
  | _ => ("TestSlots$Examiner", "cancelled", "I", false)
def tyX0 : Nat → FieldType := fun k => match k with
  | 0 => .array .int
  | 1 => .int
  | _ => .int
abbrev wsX00 : List Cond := u_ws RX0 TX0 3
theorem nmX0 : ∀ a, a < 3 → ∀ b, b < 3 → a ≠ b → (TX0 a).2.1 ≠ (TX0 b).2.1 := by decide +kernel
theorem tyX0_ok : ∀ k, k < 3 → parseFieldDescriptor (TX0 k).2.2.1 = some (tyX0 k) := by decide +kernel
abbrev cX0_init : ByteArray := prog_2_method_1_code
def yX0_init : MethodName := ⟨RX0, "<init>", "()V"⟩
abbrev cX0_copyFrom : ByteArray := prog_2_method_2_code
def yX0_copyFrom : MethodName := ⟨RX0, "copyFrom", "(LTestSlots$Examiner;)V"⟩
abbrev cX0_tests : ByteArray := prog_2_method_3_code
def yX0_tests : MethodName := ⟨RX0, "tests", "()I"⟩
abbrev cX0_leastUsedRouteBut : ByteArray := prog_2_method_4_code
def yX0_leastUsedRouteBut : MethodName := ⟨RX0, "leastUsedRouteBut", "(I)I"⟩
def RX1 : String := "TestSlots$Office"
def TX1 : u_T := fun k => match k with
  | 0 => ("TestSlots$Office", "day", "I", false)
  | 1 => ("TestSlots$Office", "examinerCount", "I", false)
  | 2 => ("TestSlots$Office", "pupilCount", "I", false)
  | 3 => ("TestSlots$Office", "beginnings", "I", false)
  | 4 => ("TestSlots$Office", "stayedAway", "I", false)
  | 5 => ("TestSlots$Office", "settings", "[I", true)
  | 6 => ("TestSlots$Office", "diary", "[I", true)
  | 7 => ("TestSlots$Office", "pupils", "[LTestSlots$Pupil;", true)
  | 8 => ("TestSlots$Office", "examiners", "[LTestSlots$Examiner;", true)
  | _ => ("TestSlots$Office", "queue", "[I", true)
def tyX1 : Nat → FieldType := fun k => match k with
  | 0 => .int
  | 1 => .int
  | 2 => .int
  | 3 => .int
  | 4 => .int
  | 5 => .array .int
  | 6 => .array .int
  | 7 => .array (.object "TestSlots$Pupil")
  | 8 => .array (.object "TestSlots$Examiner")
  | _ => .array .int
abbrev wsX10 : List Cond := u_ws RX1 TX1 10
theorem nmX1 : ∀ a, a < 10 → ∀ b, b < 10 → a ≠ b → (TX1 a).2.1 ≠ (TX1 b).2.1 := by decide +kernel
theorem tyX1_ok : ∀ k, k < 10 → parseFieldDescriptor (TX1 k).2.2.1 = some (tyX1 k) := by decide +kernel
abbrev cX1_init : ByteArray := prog_3_method_1_code
def yX1_init : MethodName := ⟨RX1, "<init>", "()V"⟩
abbrev cX1_copyFrom : ByteArray := prog_3_method_2_code
def yX1_copyFrom : MethodName := ⟨RX1, "copyFrom", "(LTestSlots$Office;)V"⟩
abbrev cX1_hasPupil : ByteArray := prog_3_method_3_code
def yX1_hasPupil : MethodName := ⟨RX1, "hasPupil", "(I)Z"⟩
abbrev cX1_hasExaminer : ByteArray := prog_3_method_4_code
def yX1_hasExaminer : MethodName := ⟨RX1, "hasExaminer", "(I)Z"⟩
abbrev cX1_takeOnExaminer : ByteArray := prog_3_method_5_code
def yX1_takeOnExaminer : MethodName := ⟨RX1, "takeOnExaminer", "()I"⟩
abbrev cX1_takeOnPupil : ByteArray := prog_3_method_6_code
def yX1_takeOnPupil : MethodName := ⟨RX1, "takeOnPupil", "()I"⟩
abbrev cX1_mayAsk : ByteArray := prog_3_method_7_code
def yX1_mayAsk : MethodName := ⟨RX1, "mayAsk", "(I)Z"⟩
abbrev cX1_letAsk : ByteArray := prog_3_method_8_code
def yX1_letAsk : MethodName := ⟨RX1, "letAsk", "(I)I"⟩
abbrev cX1_mayQuit : ByteArray := prog_3_method_9_code
def yX1_mayQuit : MethodName := ⟨RX1, "mayQuit", "(I)Z"⟩
abbrev cX1_letQuit : ByteArray := prog_3_method_10_code
def yX1_letQuit : MethodName := ⟨RX1, "letQuit", "(I)I"⟩
abbrev cX1_cancelMorning : ByteArray := prog_3_method_11_code
def yX1_cancelMorning : MethodName := ⟨RX1, "cancelMorning", "(II)I"⟩
abbrev cX1_mayBeTested : ByteArray := prog_3_method_12_code
def yX1_mayBeTested : MethodName := ⟨RX1, "mayBeTested", "(I)Z"⟩
abbrev cX1_holdTest : ByteArray := prog_3_method_13_code
def yX1_holdTest : MethodName := ⟨RX1, "holdTest", "(IZ)I"⟩
abbrev cX1_mayGoOn : ByteArray := prog_3_method_14_code
def yX1_mayGoOn : MethodName := ⟨RX1, "mayGoOn", "()Z"⟩
abbrev cX1_goOn : ByteArray := prog_3_method_15_code
def yX1_goOn : MethodName := ⟨RX1, "goOn", "()I"⟩
abbrev cX1_freeSlotsOf : ByteArray := prog_3_method_16_code
def yX1_freeSlotsOf : MethodName := ⟨RX1, "freeSlotsOf", "(II)V"⟩
abbrev cX1_beginToWait : ByteArray := prog_3_method_17_code
def yX1_beginToWait : MethodName := ⟨RX1, "beginToWait", "(LTestSlots$Pupil;)V"⟩
abbrev cX1_giveSlotsOut : ByteArray := prog_3_method_18_code
def yX1_giveSlotsOut : MethodName := ⟨RX1, "giveSlotsOut", "()V"⟩
abbrev cX1_placeInQueue : ByteArray := prog_3_method_19_code
def yX1_placeInQueue : MethodName := ⟨RX1, "placeInQueue", "(I)I"⟩
abbrev cX1_cellOf : ByteArray := prog_3_method_20_code
def yX1_cellOf : MethodName := ⟨RX1, "cellOf", "(I)I"⟩
abbrev cX1_earliestCell : ByteArray := prog_3_method_21_code
def yX1_earliestCell : MethodName := ⟨RX1, "earliestCell", "(I)I"⟩
abbrev cX1_couldCome : ByteArray := prog_3_method_22_code
def yX1_couldCome : MethodName := ⟨RX1, "couldCome", "(II)Z"⟩
abbrev cX1_mayMeet : ByteArray := prog_3_method_23_code
def yX1_mayMeet : MethodName := ⟨RX1, "mayMeet", "(II)Z"⟩
abbrev cX1_routeFor : ByteArray := prog_3_method_24_code
def yX1_routeFor : MethodName := ⟨RX1, "routeFor", "(II)I"⟩
abbrev cX1_mostWithSlotsOf : ByteArray := prog_3_method_25_code
def yX1_mostWithSlotsOf : MethodName := ⟨RX1, "mostWithSlotsOf", "(I)I"⟩
abbrev cX1_freeSlotsOfGroup : ByteArray := prog_3_method_26_code
def yX1_freeSlotsOfGroup : MethodName := ⟨RX1, "freeSlotsOfGroup", "(II)I"⟩
abbrev cX1_pupilsNotKeptTo : ByteArray := prog_3_method_27_code
def yX1_pupilsNotKeptTo : MethodName := ⟨RX1, "pupilsNotKeptTo", "(II)I"⟩
abbrev cX1_mayMeetOutside : ByteArray := prog_3_method_28_code
def yX1_mayMeetOutside : MethodName := ⟨RX1, "mayMeetOutside", "(II)Z"⟩
abbrev cX1_isInGroup : ByteArray := prog_3_method_29_code
def yX1_isInGroup : MethodName := ⟨RX1, "isInGroup", "(II)Z"⟩
abbrev cX1_pupilProperty : ByteArray := prog_3_method_30_code
def yX1_pupilProperty : MethodName := ⟨RX1, "pupilProperty", "(II)I"⟩
abbrev cX1_examinerProperty : ByteArray := prog_3_method_31_code
def yX1_examinerProperty : MethodName := ⟨RX1, "examinerProperty", "(II)I"⟩
abbrev cX1_cellsOfExaminer : ByteArray := prog_3_method_32_code
def yX1_cellsOfExaminer : MethodName := ⟨RX1, "cellsOfExaminer", "(II)I"⟩
abbrev cX1_number : ByteArray := prog_3_method_33_code
def yX1_number : MethodName := ⟨RX1, "number", "(I)I"⟩
abbrev cX1_pupilsWho : ByteArray := prog_3_method_34_code
def yX1_pupilsWho : MethodName := ⟨RX1, "pupilsWho", "(I)I"⟩
abbrev cX1_testsSoFar : ByteArray := prog_3_method_35_code
def yX1_testsSoFar : MethodName := ⟨RX1, "testsSoFar", "()I"⟩
abbrev cX1_passedSoFar : ByteArray := prog_3_method_36_code
def yX1_passedSoFar : MethodName := ⟨RX1, "passedSoFar", "()I"⟩
abbrev cX1_movedSoFar : ByteArray := prog_3_method_37_code
def yX1_movedSoFar : MethodName := ⟨RX1, "movedSoFar", "()I"⟩
abbrev cX1_moneyTaken : ByteArray := prog_3_method_38_code
def yX1_moneyTaken : MethodName := ⟨RX1, "moneyTaken", "()I"⟩
abbrev cX1_freeSlots : ByteArray := prog_3_method_39_code
def yX1_freeSlots : MethodName := ⟨RX1, "freeSlots", "()I"⟩
abbrev cX1_daysToAllSlots : ByteArray := prog_3_method_40_code
def yX1_daysToAllSlots : MethodName := ⟨RX1, "daysToAllSlots", "()I"⟩
def RX2 : String := "TestSlots$OrderText"
def TX2 : u_T := fun k => match k with
  | 0 => ("TestSlots$OrderText", "codes", "[I", true)
  | 1 => ("TestSlots$OrderText", "length", "I", false)
  | 2 => ("TestSlots$OrderText", "at", "I", false)
  | 3 => ("TestSlots$OrderText", "orders", "I", false)
  | 4 => ("TestSlots$OrderText", "kinds", "[I", true)
  | 5 => ("TestSlots$OrderText", "numbers", "[I", true)
  | _ => ("TestSlots$OrderText", "days", "[I", true)
def tyX2 : Nat → FieldType := fun k => match k with
  | 0 => .array .int
  | 1 => .int
  | 2 => .int
  | 3 => .int
  | 4 => .array .int
  | 5 => .array .int
  | _ => .array .int
abbrev wsX20 : List Cond := u_ws RX2 TX2 7
theorem nmX2 : ∀ a, a < 7 → ∀ b, b < 7 → a ≠ b → (TX2 a).2.1 ≠ (TX2 b).2.1 := by decide +kernel
theorem tyX2_ok : ∀ k, k < 7 → parseFieldDescriptor (TX2 k).2.2.1 = some (tyX2 k) := by decide +kernel
abbrev cX2_init : ByteArray := prog_4_method_1_code
def yX2_init : MethodName := ⟨RX2, "<init>", "()V"⟩
abbrev cX2_hasRoom : ByteArray := prog_4_method_2_code
def yX2_hasRoom : MethodName := ⟨RX2, "hasRoom", "()Z"⟩
abbrev cX2_write : ByteArray := prog_4_method_3_code
def yX2_write : MethodName := ⟨RX2, "write", "(I)V"⟩
abbrev cX2_read : ByteArray := prog_4_method_4_code
def yX2_read : MethodName := ⟨RX2, "read", "()Z"⟩
abbrev cX2_readOrder : ByteArray := prog_4_method_5_code
def yX2_readOrder : MethodName := ⟨RX2, "readOrder", "()Z"⟩
abbrev cX2_kindAhead : ByteArray := prog_4_method_6_code
def yX2_kindAhead : MethodName := ⟨RX2, "kindAhead", "()I"⟩
abbrev cX2_wordOf : ByteArray := prog_4_method_7_code
def yX2_wordOf : MethodName := ⟨RX2, "wordOf", "(I)Ljava/lang/String;"⟩
abbrev cX2_take : ByteArray := prog_4_method_8_code
def yX2_take : MethodName := ⟨RX2, "take", "(I)Z"⟩
abbrev cX2_takeWord : ByteArray := prog_4_method_9_code
def yX2_takeWord : MethodName := ⟨RX2, "takeWord", "(Ljava/lang/String;)Z"⟩
abbrev cX2_takeNumber : ByteArray := prog_4_method_10_code
def yX2_takeNumber : MethodName := ⟨RX2, "takeNumber", "(I)I"⟩
abbrev cX2_digitAhead : ByteArray := prog_4_method_11_code
def yX2_digitAhead : MethodName := ⟨RX2, "digitAhead", "()I"⟩
def RX3 : String := "TestSlots$Pupil"
def TX3 : u_T := fun k => match k with
  | 0 => ("TestSlots$Pupil", "status", "I", false)
  | 1 => ("TestSlots$Pupil", "failed", "I", false)
  | 2 => ("TestSlots$Pupil", "testableFrom", "I", false)
  | 3 => ("TestSlots$Pupil", "latestRoute", "I", false)
  | 4 => ("TestSlots$Pupil", "latestExaminer", "I", false)
  | 5 => ("TestSlots$Pupil", "moved", "I", false)
  | 6 => ("TestSlots$Pupil", "began", "I", false)
  | 7 => ("TestSlots$Pupil", "paid", "I", false)
  | _ => ("TestSlots$Pupil", "fee", "I", false)
def tyX3 : Nat → FieldType := fun k => match k with
  | 0 => .int
  | 1 => .int
  | 2 => .int
  | 3 => .int
  | 4 => .int
  | 5 => .int
  | 6 => .int
  | 7 => .int
  | _ => .int
abbrev wsX30 : List Cond := u_ws RX3 TX3 9
theorem nmX3 : ∀ a, a < 9 → ∀ b, b < 9 → a ≠ b → (TX3 a).2.1 ≠ (TX3 b).2.1 := by decide +kernel
theorem tyX3_ok : ∀ k, k < 9 → parseFieldDescriptor (TX3 k).2.2.1 = some (tyX3 k) := by decide +kernel
abbrev cX3_init : ByteArray := prog_5_method_1_code
def yX3_init : MethodName := ⟨RX3, "<init>", "()V"⟩
abbrev cX3_copyFrom : ByteArray := prog_5_method_2_code
def yX3_copyFrom : MethodName := ⟨RX3, "copyFrom", "(LTestSlots$Pupil;)V"⟩
abbrev cX3_comesAheadOf : ByteArray := prog_5_method_3_code
def yX3_comesAheadOf : MethodName := ⟨RX3, "comesAheadOf", "(LTestSlots$Pupil;)Z"⟩
def RX4 : String := "TestSlots"
def TX4 : u_T := fun k => match k with
  | 0 => ("TestSlots", "office", "LTestSlots$Office;", true)
  | 1 => ("TestSlots", "trial", "LTestSlots$Office;", true)
  | 2 => ("TestSlots", "saves", "[LTestSlots$Office;", true)
  | 3 => ("TestSlots", "saved", "I", false)
  | _ => ("TestSlots", "text", "LTestSlots$OrderText;", true)
def tyX4 : Nat → FieldType := fun k => match k with
  | 0 => .object "TestSlots$Office"
  | 1 => .object "TestSlots$Office"
  | 2 => .array (.object "TestSlots$Office")
  | 3 => .int
  | _ => .object "TestSlots$OrderText"
abbrev wsX40 : List Cond := u_ws RX4 TX4 5
theorem nmX4 : ∀ a, a < 5 → ∀ b, b < 5 → a ≠ b → (TX4 a).2.1 ≠ (TX4 b).2.1 := by decide +kernel
theorem tyX4_ok : ∀ k, k < 5 → parseFieldDescriptor (TX4 k).2.2.1 = some (tyX4 k) := by decide +kernel
abbrev cX4_init : ByteArray := prog_1_method_1_code
def yX4_init : MethodName := ⟨RX4, "<init>", "()V"⟩
abbrev cX4_addExaminer : ByteArray := prog_1_method_2_code
def yX4_addExaminer : MethodName := ⟨RX4, "addExaminer", "()I"⟩
abbrev cX4_addPupil : ByteArray := prog_1_method_3_code
def yX4_addPupil : MethodName := ⟨RX4, "addPupil", "()I"⟩
abbrev cX4_ask : ByteArray := prog_1_method_4_code
def yX4_ask : MethodName := ⟨RX4, "ask", "(I)I"⟩
abbrev cX4_quit : ByteArray := prog_1_method_5_code
def yX4_quit : MethodName := ⟨RX4, "quit", "(I)I"⟩
abbrev cX4_cancel : ByteArray := prog_1_method_6_code
def yX4_cancel : MethodName := ⟨RX4, "cancel", "(II)I"⟩
abbrev cX4_test : ByteArray := prog_1_method_7_code
def yX4_test : MethodName := ⟨RX4, "test", "(IZ)I"⟩
abbrev cX4_next : ByteArray := prog_1_method_8_code
def yX4_next : MethodName := ⟨RX4, "next", "()I"⟩
abbrev cX4_set : ByteArray := prog_1_method_9_code
def yX4_set : MethodName := ⟨RX4, "set", "(II)I"⟩
abbrev cX4_append : ByteArray := prog_1_method_10_code
def yX4_append : MethodName := ⟨RX4, "append", "(I)I"⟩
abbrev cX4_clearBuffer : ByteArray := prog_1_method_11_code
def yX4_clearBuffer : MethodName := ⟨RX4, "clearBuffer", "()I"⟩
abbrev cX4_firstError : ByteArray := prog_1_method_12_code
def yX4_firstError : MethodName := ⟨RX4, "firstError", "()I"⟩
abbrev cX4_run : ByteArray := prog_1_method_13_code
def yX4_run : MethodName := ⟨RX4, "run", "()I"⟩
abbrev cX4_undo : ByteArray := prog_1_method_14_code
def yX4_undo : MethodName := ⟨RX4, "undo", "()I"⟩
abbrev cX4_pupil : ByteArray := prog_1_method_15_code
def yX4_pupil : MethodName := ⟨RX4, "pupil", "(II)I"⟩
abbrev cX4_examiner : ByteArray := prog_1_method_16_code
def yX4_examiner : MethodName := ⟨RX4, "examiner", "(II)I"⟩
abbrev cX4_slot : ByteArray := prog_1_method_17_code
def yX4_slot : MethodName := ⟨RX4, "slot", "(III)I"⟩
abbrev cX4_count : ByteArray := prog_1_method_18_code
def yX4_count : MethodName := ⟨RX4, "count", "(I)I"⟩
abbrev cX4_setting : ByteArray := prog_1_method_19_code
def yX4_setting : MethodName := ⟨RX4, "setting", "(I)I"⟩
abbrev cX4_earliest : ByteArray := prog_1_method_20_code
def yX4_earliest : MethodName := ⟨RX4, "earliest", "(II)I"⟩
abbrev cX4_ifCancelled : ByteArray := prog_1_method_21_code
def yX4_ifCancelled : MethodName := ⟨RX4, "ifCancelled", "(III)I"⟩
abbrev cX4_ifTested : ByteArray := prog_1_method_22_code
def yX4_ifTested : MethodName := ⟨RX4, "ifTested", "(II)I"⟩
abbrev cX4_couldHave : ByteArray := prog_1_method_23_code
def yX4_couldHave : MethodName := ⟨RX4, "couldHave", "(I)I"⟩
abbrev cX4_passedShare : ByteArray := prog_1_method_24_code
def yX4_passedShare : MethodName := ⟨RX4, "passedShare", "()D"⟩
abbrev cX4_digest : ByteArray := prog_1_method_25_code
def yX4_digest : MethodName := ⟨RX4, "digest", "()J"⟩
abbrev cX4_isFromTo : ByteArray := prog_1_method_26_code
def yX4_isFromTo : MethodName := ⟨RX4, "isFromTo", "(III)Z"⟩
abbrev cX4_isSetting : ByteArray := prog_1_method_27_code
def yX4_isSetting : MethodName := ⟨RX4, "isSetting", "(I)Z"⟩
abbrev cX4_cellAt : ByteArray := prog_1_method_28_code
def yX4_cellAt : MethodName := ⟨RX4, "cellAt", "(III)I"⟩
abbrev cX4_daysTo : ByteArray := prog_1_method_29_code
def yX4_daysTo : MethodName := ⟨RX4, "daysTo", "(I)I"⟩
abbrev cX4_examinerAt : ByteArray := prog_1_method_30_code
def yX4_examinerAt : MethodName := ⟨RX4, "examinerAt", "(I)I"⟩
abbrev cX4_partOfCell : ByteArray := prog_1_method_31_code
def yX4_partOfCell : MethodName := ⟨RX4, "partOfCell", "(II)I"⟩
abbrev cX4_save : ByteArray := prog_1_method_32_code
def yX4_save : MethodName := ⟨RX4, "save", "()V"⟩
abbrev cX4_dropOldestSave : ByteArray := prog_1_method_33_code
def yX4_dropOldestSave : MethodName := ⟨RX4, "dropOldestSave", "()V"⟩
abbrev cX4_carryOut : ByteArray := prog_1_method_34_code
def yX4_carryOut : MethodName := ⟨RX4, "carryOut", "(I)Z"⟩
abbrev cX4_carryOutTest : ByteArray := prog_1_method_35_code
def yX4_carryOutTest : MethodName := ⟨RX4, "carryOutTest", "(IZ)Z"⟩
abbrev cX4_hashWith : ByteArray := prog_1_method_36_code
def yX4_hashWith : MethodName := ⟨RX4, "hashWith", "(JJ)J"⟩
abbrev cX4_hashWithPupil : ByteArray := prog_1_method_37_code
def yX4_hashWithPupil : MethodName := ⟨RX4, "hashWithPupil", "(JI)J"⟩
abbrev cX4_hashWithExaminer : ByteArray := prog_1_method_38_code
def yX4_hashWithExaminer : MethodName := ⟨RX4, "hashWithExaminer", "(JI)J"⟩
abbrev cX4_bitsOf : ByteArray := prog_1_method_39_code
def yX4_bitsOf : MethodName := ⟨RX4, "bitsOf", "(D)J"⟩
def RX5 : String := "TestSlotsModel"
def TX5 : u_T := fun k => match k with
  | 0 => ("TestSlotsModel", "thrown", "I", false)
  | 1 => ("TestSlotsModel", "s", "[I", true)
  | 2 => ("TestSlotsModel", "aside", "[I", true)
  | 3 => ("TestSlotsModel", "saved", "[I", true)
  | 4 => ("TestSlotsModel", "savedMany", "I", false)
  | 5 => ("TestSlotsModel", "text", "[I", true)
  | 6 => ("TestSlotsModel", "length", "I", false)
  | 7 => ("TestSlotsModel", "order", "[I", true)
  | 8 => ("TestSlotsModel", "reading", "I", false)
  | 9 => ("TestSlotsModel", "isWrong", "Z", false)
  | 10 => ("TestSlotsModel", "told", "[I", true)
  | 11 => ("TestSlotsModel", "has", "[I", true)
  | 12 => ("TestSlotsModel", "mine", "[I", true)
  | 13 => ("TestSlotsModel", "by", "[I", true)
  | 14 => ("TestSlotsModel", "isOn", "[Z", true)
  | _ => ("TestSlotsModel", "digested", "J", false)
def tyX5 : Nat → FieldType := fun k => match k with
  | 0 => .int
  | 1 => .array .int
  | 2 => .array .int
  | 3 => .array .int
  | 4 => .int
  | 5 => .array .int
  | 6 => .int
  | 7 => .array .int
  | 8 => .int
  | 9 => .boolean
  | 10 => .array .int
  | 11 => .array .int
  | 12 => .array .int
  | 13 => .array .int
  | 14 => .array .boolean
  | _ => .long
abbrev wsX50 : List Cond := u_ws RX5 TX5 16
theorem nmX5 : ∀ a, a < 16 → ∀ b, b < 16 → a ≠ b → (TX5 a).2.1 ≠ (TX5 b).2.1 := by decide +kernel
theorem tyX5_ok : ∀ k, k < 16 → parseFieldDescriptor (TX5 k).2.2.1 = some (tyX5 k) := by decide +kernel
abbrev cX5_init : ByteArray := prog_7_method_1_code
def yX5_init : MethodName := ⟨RX5, "<init>", "()V"⟩
abbrev cX5_thrown : ByteArray := prog_7_method_2_code
def yX5_thrown : MethodName := ⟨RX5, "thrown", "()I"⟩
abbrev cX5_in : ByteArray := prog_7_method_3_code
def yX5_in : MethodName := ⟨RX5, "in", "(III)Z"⟩
abbrev cX5_holds : ByteArray := prog_7_method_4_code
def yX5_holds : MethodName := ⟨RX5, "holds", "(I)Z"⟩
abbrev cX5_at : ByteArray := prog_7_method_5_code
def yX5_at : MethodName := ⟨RX5, "at", "(III)I"⟩
abbrev cX5_of : ByteArray := prog_7_method_6_code
def yX5_of : MethodName := ⟨RX5, "of", "(II)I"⟩
abbrev cX5_ofExaminer : ByteArray := prog_7_method_7_code
def yX5_ofExaminer : MethodName := ⟨RX5, "ofExaminer", "(II)I"⟩
abbrev cX5_isPupil : ByteArray := prog_7_method_8_code
def yX5_isPupil : MethodName := ⟨RX5, "isPupil", "(I)Z"⟩
abbrev cX5_isExaminer : ByteArray := prog_7_method_9_code
def yX5_isExaminer : MethodName := ⟨RX5, "isExaminer", "(I)Z"⟩
abbrev cX5_save : ByteArray := prog_7_method_10_code
def yX5_save : MethodName := ⟨RX5, "save", "()V"⟩
abbrev cX5_dayOf : ByteArray := prog_7_method_11_code
def yX5_dayOf : MethodName := ⟨RX5, "dayOf", "(I)I"⟩
abbrev cX5_slotOf : ByteArray := prog_7_method_12_code
def yX5_slotOf : MethodName := ⟨RX5, "slotOf", "(I)I"⟩
abbrev cX5_examinerOf : ByteArray := prog_7_method_13_code
def yX5_examinerOf : MethodName := ⟨RX5, "examinerOf", "(I)I"⟩
abbrev cX5_placeOf : ByteArray := prog_7_method_14_code
def yX5_placeOf : MethodName := ⟨RX5, "placeOf", "(I)I"⟩
abbrev cX5_canHave : ByteArray := prog_7_method_15_code
def yX5_canHave : MethodName := ⟨RX5, "canHave", "(II)Z"⟩
abbrev cX5_earliestOf : ByteArray := prog_7_method_16_code
def yX5_earliestOf : MethodName := ⟨RX5, "earliestOf", "(I)I"⟩
abbrev cX5_slotBy : ByteArray := prog_7_method_17_code
def yX5_slotBy : MethodName := ⟨RX5, "slotBy", "(I)I"⟩
abbrev cX5_isAhead : ByteArray := prog_7_method_18_code
def yX5_isAhead : MethodName := ⟨RX5, "isAhead", "(II)Z"⟩
abbrev cX5_placeInOrder : ByteArray := prog_7_method_19_code
def yX5_placeInOrder : MethodName := ⟨RX5, "placeInOrder", "(I)I"⟩
abbrev cX5_giveOut : ByteArray := prog_7_method_20_code
def yX5_giveOut : MethodName := ⟨RX5, "giveOut", "()V"⟩
abbrev cX5_wait : ByteArray := prog_7_method_21_code
def yX5_wait : MethodName := ⟨RX5, "wait", "(I)V"⟩
abbrev cX5_addExaminer : ByteArray := prog_7_method_22_code
def yX5_addExaminer : MethodName := ⟨RX5, "addExaminer", "()I"⟩
abbrev cX5_addPupil : ByteArray := prog_7_method_23_code
def yX5_addPupil : MethodName := ⟨RX5, "addPupil", "()I"⟩
abbrev cX5_askFault : ByteArray := prog_7_method_24_code
def yX5_askFault : MethodName := ⟨RX5, "askFault", "(I)I"⟩
abbrev cX5_asks : ByteArray := prog_7_method_25_code
def yX5_asks : MethodName := ⟨RX5, "asks", "(I)I"⟩
abbrev cX5_ask : ByteArray := prog_7_method_26_code
def yX5_ask : MethodName := ⟨RX5, "ask", "(I)I"⟩
abbrev cX5_quitFault : ByteArray := prog_7_method_27_code
def yX5_quitFault : MethodName := ⟨RX5, "quitFault", "(I)I"⟩
abbrev cX5_quits : ByteArray := prog_7_method_28_code
def yX5_quits : MethodName := ⟨RX5, "quits", "(I)I"⟩
abbrev cX5_quit : ByteArray := prog_7_method_29_code
def yX5_quit : MethodName := ⟨RX5, "quit", "(I)I"⟩
abbrev cX5_cancelFault : ByteArray := prog_7_method_30_code
def yX5_cancelFault : MethodName := ⟨RX5, "cancelFault", "(II)I"⟩
abbrev cX5_cancels : ByteArray := prog_7_method_31_code
def yX5_cancels : MethodName := ⟨RX5, "cancels", "(II)I"⟩
abbrev cX5_cancel : ByteArray := prog_7_method_32_code
def yX5_cancel : MethodName := ⟨RX5, "cancel", "(II)I"⟩
abbrev cX5_routeFor : ByteArray := prog_7_method_33_code
def yX5_routeFor : MethodName := ⟨RX5, "routeFor", "(II)I"⟩
abbrev cX5_testFault : ByteArray := prog_7_method_34_code
def yX5_testFault : MethodName := ⟨RX5, "testFault", "(I)I"⟩
abbrev cX5_tests : ByteArray := prog_7_method_35_code
def yX5_tests : MethodName := ⟨RX5, "tests", "(IZ)I"⟩
abbrev cX5_test : ByteArray := prog_7_method_36_code
def yX5_test : MethodName := ⟨RX5, "test", "(IZ)I"⟩
abbrev cX5_nextFault : ByteArray := prog_7_method_37_code
def yX5_nextFault : MethodName := ⟨RX5, "nextFault", "()I"⟩
abbrev cX5_goesOn : ByteArray := prog_7_method_38_code
def yX5_goesOn : MethodName := ⟨RX5, "goesOn", "()I"⟩
abbrev cX5_next : ByteArray := prog_7_method_39_code
def yX5_next : MethodName := ⟨RX5, "next", "()I"⟩
abbrev cX5_set : ByteArray := prog_7_method_40_code
def yX5_set : MethodName := ⟨RX5, "set", "(II)I"⟩
abbrev cX5_append : ByteArray := prog_7_method_41_code
def yX5_append : MethodName := ⟨RX5, "append", "(I)I"⟩
abbrev cX5_clearBuffer : ByteArray := prog_7_method_42_code
def yX5_clearBuffer : MethodName := ⟨RX5, "clearBuffer", "()I"⟩
abbrev cX5_sign : ByteArray := prog_7_method_43_code
def yX5_sign : MethodName := ⟨RX5, "sign", "(II)I"⟩
abbrev cX5_word : ByteArray := prog_7_method_44_code
def yX5_word : MethodName := ⟨RX5, "word", "(I)V"⟩
abbrev cX5_order : ByteArray := prog_7_method_45_code
def yX5_order : MethodName := ⟨RX5, "order", "()V"⟩
abbrev cX5_does : ByteArray := prog_7_method_46_code
def yX5_does : MethodName := ⟨RX5, "does", "()Z"⟩
abbrev cX5_go : ByteArray := prog_7_method_47_code
def yX5_go : MethodName := ⟨RX5, "go", "(Z)I"⟩
abbrev cX5_firstError : ByteArray := prog_7_method_48_code
def yX5_firstError : MethodName := ⟨RX5, "firstError", "()I"⟩
abbrev cX5_run : ByteArray := prog_7_method_49_code
def yX5_run : MethodName := ⟨RX5, "run", "()I"⟩
abbrev cX5_undo : ByteArray := prog_7_method_50_code
def yX5_undo : MethodName := ⟨RX5, "undo", "()I"⟩
abbrev cX5_told : ByteArray := prog_7_method_51_code
def yX5_told : MethodName := ⟨RX5, "told", "(II)I"⟩
abbrev cX5_pupilOf : ByteArray := prog_7_method_52_code
def yX5_pupilOf : MethodName := ⟨RX5, "pupilOf", "(II)I"⟩
abbrev cX5_pupil : ByteArray := prog_7_method_53_code
def yX5_pupil : MethodName := ⟨RX5, "pupil", "(II)I"⟩
abbrev cX5_slotsOf : ByteArray := prog_7_method_54_code
def yX5_slotsOf : MethodName := ⟨RX5, "slotsOf", "(II)I"⟩
abbrev cX5_examinerOf_ : ByteArray := prog_7_method_55_code
def yX5_examinerOf_ : MethodName := ⟨RX5, "examinerOf", "(II)I"⟩
abbrev cX5_examiner : ByteArray := prog_7_method_56_code
def yX5_examiner : MethodName := ⟨RX5, "examiner", "(II)I"⟩
abbrev cX5_slot : ByteArray := prog_7_method_57_code
def yX5_slot : MethodName := ⟨RX5, "slot", "(III)I"⟩
abbrev cX5_stages : ByteArray := prog_7_method_58_code
def yX5_stages : MethodName := ⟨RX5, "stages", "(I)I"⟩
abbrev cX5_sumOfPupils : ByteArray := prog_7_method_59_code
def yX5_sumOfPupils : MethodName := ⟨RX5, "sumOfPupils", "(I)I"⟩
abbrev cX5_sumOfExaminers : ByteArray := prog_7_method_60_code
def yX5_sumOfExaminers : MethodName := ⟨RX5, "sumOfExaminers", "(I)I"⟩
abbrev cX5_sumOfDays : ByteArray := prog_7_method_61_code
def yX5_sumOfDays : MethodName := ⟨RX5, "sumOfDays", "()I"⟩
abbrev cX5_counted : ByteArray := prog_7_method_62_code
def yX5_counted : MethodName := ⟨RX5, "counted", "(I)I"⟩
abbrev cX5_count : ByteArray := prog_7_method_63_code
def yX5_count : MethodName := ⟨RX5, "count", "(I)I"⟩
abbrev cX5_setting : ByteArray := prog_7_method_64_code
def yX5_setting : MethodName := ⟨RX5, "setting", "(I)I"⟩
abbrev cX5_earliest : ByteArray := prog_7_method_65_code
def yX5_earliest : MethodName := ⟨RX5, "earliest", "(II)I"⟩
abbrev cX5_cancelled : ByteArray := prog_7_method_66_code
def yX5_cancelled : MethodName := ⟨RX5, "cancelled", "(III)I"⟩
abbrev cX5_ifCancelled : ByteArray := prog_7_method_67_code
def yX5_ifCancelled : MethodName := ⟨RX5, "ifCancelled", "(III)I"⟩
abbrev cX5_ifTested : ByteArray := prog_7_method_68_code
def yX5_ifTested : MethodName := ⟨RX5, "ifTested", "(II)I"⟩
abbrev cX5_goAlong : ByteArray := prog_7_method_69_code
def yX5_goAlong : MethodName := ⟨RX5, "goAlong", "(I)I"⟩
abbrev cX5_could : ByteArray := prog_7_method_70_code
def yX5_could : MethodName := ⟨RX5, "could", "(I)I"⟩
abbrev cX5_couldHave : ByteArray := prog_7_method_71_code
def yX5_couldHave : MethodName := ⟨RX5, "couldHave", "(I)I"⟩
abbrev cX5_share : ByteArray := prog_7_method_72_code
def yX5_share : MethodName := ⟨RX5, "share", "()D"⟩
abbrev cX5_passedShare : ByteArray := prog_7_method_73_code
def yX5_passedShare : MethodName := ⟨RX5, "passedShare", "()D"⟩
abbrev cX5_bitsOfShare : ByteArray := prog_7_method_74_code
def yX5_bitsOfShare : MethodName := ⟨RX5, "bitsOfShare", "(D)J"⟩
abbrev cX5_digestOne : ByteArray := prog_7_method_75_code
def yX5_digestOne : MethodName := ⟨RX5, "digestOne", "(J)V"⟩
abbrev cX5_digest : ByteArray := prog_7_method_76_code
def yX5_digest : MethodName := ⟨RX5, "digest", "()J"⟩
def RJx145de : String := "java/io/Serializable"
def TJx145de : u_T := fun k => match k with
  | _ => ("", "", "", false)
def tyJx145de : Nat → FieldType := fun k => match k with
  | _ => .int
theorem nmJx145de : ∀ a, a < 0 → ∀ b, b < 0 → a ≠ b → (TJx145de a).2.1 ≠ (TJx145de b).2.1 := by decide +kernel
theorem tyJx145de_ok : ∀ k, k < 0 → parseFieldDescriptor (TJx145de k).2.2.1 = some (tyJx145de k) := by decide +kernel
def RJx9f9b0 : String := "java/lang/CharSequence"
def TJx9f9b0 : u_T := fun k => match k with
  | _ => ("", "", "", false)
def tyJx9f9b0 : Nat → FieldType := fun k => match k with
  | _ => .int
theorem nmJx9f9b0 : ∀ a, a < 0 → ∀ b, b < 0 → a ≠ b → (TJx9f9b0 a).2.1 ≠ (TJx9f9b0 b).2.1 := by decide +kernel
theorem tyJx9f9b0_ok : ∀ k, k < 0 → parseFieldDescriptor (TJx9f9b0 k).2.2.1 = some (tyJx9f9b0 k) := by decide +kernel
def RJxb160c : String := "java/lang/Comparable"
def TJxb160c : u_T := fun k => match k with
  | _ => ("", "", "", false)
def tyJxb160c : Nat → FieldType := fun k => match k with
  | _ => .int
theorem nmJxb160c : ∀ a, a < 0 → ∀ b, b < 0 → a ≠ b → (TJxb160c a).2.1 ≠ (TJxb160c b).2.1 := by decide +kernel
theorem tyJxb160c_ok : ∀ k, k < 0 → parseFieldDescriptor (TJxb160c k).2.2.1 = some (tyJxb160c k) := by decide +kernel
def RJ9 : String := "java/lang/Math"
def TJ9 : u_T := fun k => match k with
  | _ => ("", "", "", false)
def tyJ9 : Nat → FieldType := fun k => match k with
  | _ => .int
abbrev wsJ90 : List Cond := u_ws RJ9 TJ9 0
theorem nmJ9 : ∀ a, a < 0 → ∀ b, b < 0 → a ≠ b → (TJ9 a).2.1 ≠ (TJ9 b).2.1 := by decide +kernel
theorem tyJ9_ok : ∀ k, k < 0 → parseFieldDescriptor (TJ9 k).2.2.1 = some (tyJ9 k) := by decide +kernel
abbrev cJ9_min_7cf53 : ByteArray := prog_12_method_69_code
def yJ9_min_7cf53 : MethodName := ⟨RJ9, "min", "(II)I"⟩
def RJ0 : String := "java/lang/String"
def TJ0 : u_T := fun k => match k with
  | _ => ("", "", "", false)
def tyJ0 : Nat → FieldType := fun k => match k with
  | _ => .int
abbrev wsJ00 : List Cond := u_ws RJ0 TJ0 0
theorem nmJ0 : ∀ a, a < 0 → ∀ b, b < 0 → a ≠ b → (TJ0 a).2.1 ≠ (TJ0 b).2.1 := by decide +kernel
theorem tyJ0_ok : ∀ k, k < 0 → parseFieldDescriptor (TJ0 k).2.2.1 = some (tyJ0 k) := by decide +kernel
abbrev cJ0_length_8abf5 : ByteArray := prog_14_method_54_code
def yJ0_length_8abf5 : MethodName := ⟨RJ0, "length", "()I"⟩
abbrev cJ0_charAt_5068e : ByteArray := prog_14_method_56_code
def yJ0_charAt_5068e : MethodName := ⟨RJ0, "charAt", "(I)C"⟩
abbrev cJ0_coder_7d493 : ByteArray := prog_14_method_152_code
def yJ0_coder_7d493 : MethodName := ⟨RJ0, "coder", "()B"⟩
abbrev cJ0_isLatin1_aae02 : ByteArray := prog_14_method_154_code
def yJ0_isLatin1_aae02 : MethodName := ⟨RJ0, "isLatin1", "()Z"⟩
abbrev cJ0_checkIndex_df160 : ByteArray := prog_14_method_155_code
def yJ0_checkIndex_df160 : MethodName := ⟨RJ0, "checkIndex", "(II)V"⟩
def RJ1 : String := "java/lang/StringLatin1"
def TJ1 : u_T := fun k => match k with
  | _ => ("", "", "", false)
def tyJ1 : Nat → FieldType := fun k => match k with
  | _ => .int
abbrev wsJ10 : List Cond := u_ws RJ1 TJ1 0
theorem nmJ1 : ∀ a, a < 0 → ∀ b, b < 0 → a ≠ b → (TJ1 a).2.1 ≠ (TJ1 b).2.1 := by decide +kernel
theorem tyJ1_ok : ∀ k, k < 0 → parseFieldDescriptor (TJ1 k).2.2.1 = some (tyJ1 k) := by decide +kernel
abbrev cJ1_charAt_3b067 : ByteArray := prog_15_method_2_code
def yJ1_charAt_3b067 : MethodName := ⟨RJ1, "charAt", "([BI)C"⟩
def RJ2 : String := "java/lang/StringUTF16"
def TJ2 : u_T := fun k => match k with
  | _ => ("", "", "", false)
def tyJ2 : Nat → FieldType := fun k => match k with
  | _ => .int
abbrev wsJ20 : List Cond := u_ws RJ2 TJ2 0
theorem nmJ2 : ∀ a, a < 0 → ∀ b, b < 0 → a ≠ b → (TJ2 a).2.1 ≠ (TJ2 b).2.1 := by decide +kernel
theorem tyJ2_ok : ∀ k, k < 0 → parseFieldDescriptor (TJ2 k).2.2.1 = some (tyJ2 k) := by decide +kernel
abbrev cJ2_getChar_3b067 : ByteArray := prog_16_method_5_code
def yJ2_getChar_3b067 : MethodName := ⟨RJ2, "getChar", "([BI)C"⟩
abbrev cJ2_length_9d52b : ByteArray := prog_16_method_6_code
def yJ2_length_9d52b : MethodName := ⟨RJ2, "length", "([B)I"⟩
abbrev cJ2_charAt_3b067 : ByteArray := prog_16_method_83_code
def yJ2_charAt_3b067 : MethodName := ⟨RJ2, "charAt", "([BI)C"⟩
abbrev cJ2_checkIndex_2214a : ByteArray := prog_16_method_91_code
def yJ2_checkIndex_2214a : MethodName := ⟨RJ2, "checkIndex", "(I[B)V"⟩
def RJ10 : String := "java/lang/System"
def TJ10 : u_T := fun k => match k with
  | _ => ("", "", "", false)
def tyJ10 : Nat → FieldType := fun k => match k with
  | _ => .int
abbrev wsJ100 : List Cond := u_ws RJ10 TJ10 0
theorem nmJ10 : ∀ a, a < 0 → ∀ b, b < 0 → a ≠ b → (TJ10 a).2.1 ≠ (TJ10 b).2.1 := by decide +kernel
theorem tyJ10_ok : ∀ k, k < 0 → parseFieldDescriptor (TJ10 k).2.2.1 = some (tyJ10 k) := by decide +kernel
def RJxfd54e : String := "java/lang/constant/Constable"
def TJxfd54e : u_T := fun k => match k with
  | _ => ("", "", "", false)
def tyJxfd54e : Nat → FieldType := fun k => match k with
  | _ => .int
theorem nmJxfd54e : ∀ a, a < 0 → ∀ b, b < 0 → a ≠ b → (TJxfd54e a).2.1 ≠ (TJxfd54e b).2.1 := by decide +kernel
theorem tyJxfd54e_ok : ∀ k, k < 0 → parseFieldDescriptor (TJxfd54e k).2.2.1 = some (tyJxfd54e k) := by decide +kernel
def RJx3cf43 : String := "java/lang/constant/ConstantDesc"
def TJx3cf43 : u_T := fun k => match k with
  | _ => ("", "", "", false)
def tyJx3cf43 : Nat → FieldType := fun k => match k with
  | _ => .int
theorem nmJx3cf43 : ∀ a, a < 0 → ∀ b, b < 0 → a ≠ b → (TJx3cf43 a).2.1 ≠ (TJx3cf43 b).2.1 := by decide +kernel
theorem tyJx3cf43_ok : ∀ k, k < 0 → parseFieldDescriptor (TJx3cf43 k).2.2.1 = some (tyJx3cf43 k) := by decide +kernel
def RJ7 : String := "java/util/Arrays"
def TJ7 : u_T := fun k => match k with
  | _ => ("", "", "", false)
def tyJ7 : Nat → FieldType := fun k => match k with
  | _ => .int
abbrev wsJ70 : List Cond := u_ws RJ7 TJ7 0
theorem nmJ7 : ∀ a, a < 0 → ∀ b, b < 0 → a ≠ b → (TJ7 a).2.1 ≠ (TJ7 b).2.1 := by decide +kernel
theorem tyJ7_ok : ∀ k, k < 0 → parseFieldDescriptor (TJ7 k).2.2.1 = some (tyJ7 k) := by decide +kernel
abbrev cJ7_fill_53178 : ByteArray := prog_19_method_103_code
def yJ7_fill_53178 : MethodName := ⟨RJ7, "fill", "([II)V"⟩
def RJ3 : String := "jdk/internal/util/Preconditions"
def TJ3 : u_T := fun k => match k with
  | _ => ("", "", "", false)
def tyJ3 : Nat → FieldType := fun k => match k with
  | _ => .int
abbrev wsJ30 : List Cond := u_ws RJ3 TJ3 0
theorem nmJ3 : ∀ a, a < 0 → ∀ b, b < 0 → a ≠ b → (TJ3 a).2.1 ≠ (TJ3 b).2.1 := by decide +kernel
theorem tyJ3_ok : ∀ k, k < 0 → parseFieldDescriptor (TJ3 k).2.2.1 = some (tyJ3 k) := by decide +kernel
abbrev cJ3_checkIndex_8e157 : ByteArray := prog_20_method_11_code
def yJ3_checkIndex_8e157 : MethodName := ⟨RJ3, "checkIndex", "(IILjava/util/function/BiFunction;)I"⟩
def RL : String := "TestSlotsLaw"
abbrev cL_addExaminer : ByteArray := method_3_code
def yL_addExaminer : MethodName := ⟨RL, "addExaminer", "(LTestSlots;[J)I"⟩
abbrev cL_addPupil : ByteArray := method_4_code
def yL_addPupil : MethodName := ⟨RL, "addPupil", "(LTestSlots;[J)I"⟩
abbrev cL_ask : ByteArray := method_5_code
def yL_ask : MethodName := ⟨RL, "ask", "(LTestSlots;I[J)I"⟩
abbrev cL_quit : ByteArray := method_6_code
def yL_quit : MethodName := ⟨RL, "quit", "(LTestSlots;I[J)I"⟩
abbrev cL_cancel : ByteArray := method_7_code
def yL_cancel : MethodName := ⟨RL, "cancel", "(LTestSlots;II[J)I"⟩
abbrev cL_test : ByteArray := method_8_code
def yL_test : MethodName := ⟨RL, "test", "(LTestSlots;IZ[J)I"⟩
abbrev cL_next : ByteArray := method_9_code
def yL_next : MethodName := ⟨RL, "next", "(LTestSlots;[J)I"⟩
abbrev cL_set : ByteArray := method_10_code
def yL_set : MethodName := ⟨RL, "set", "(LTestSlots;II[J)I"⟩
abbrev cL_append : ByteArray := method_11_code
def yL_append : MethodName := ⟨RL, "append", "(LTestSlots;I[J)I"⟩
abbrev cL_run : ByteArray := method_12_code
def yL_run : MethodName := ⟨RL, "run", "(LTestSlots;[J)I"⟩
abbrev cL_undo : ByteArray := method_13_code
def yL_undo : MethodName := ⟨RL, "undo", "(LTestSlots;[J)I"⟩
abbrev cL_pupil : ByteArray := method_14_code
def yL_pupil : MethodName := ⟨RL, "pupil", "(LTestSlots;II[J)I"⟩
abbrev cL_examiner : ByteArray := method_15_code
def yL_examiner : MethodName := ⟨RL, "examiner", "(LTestSlots;II[J)I"⟩
abbrev cL_slot : ByteArray := method_16_code
def yL_slot : MethodName := ⟨RL, "slot", "(LTestSlots;III[J)I"⟩
abbrev cL_count : ByteArray := method_17_code
def yL_count : MethodName := ⟨RL, "count", "(LTestSlots;I[J)I"⟩
abbrev cL_setting : ByteArray := method_18_code
def yL_setting : MethodName := ⟨RL, "setting", "(LTestSlots;I[J)I"⟩
abbrev cL_earliest : ByteArray := method_19_code
def yL_earliest : MethodName := ⟨RL, "earliest", "(LTestSlots;II[J)I"⟩
abbrev cL_ifCancelled : ByteArray := method_20_code
def yL_ifCancelled : MethodName := ⟨RL, "ifCancelled", "(LTestSlots;III[J)I"⟩
abbrev cL_ifTested : ByteArray := method_21_code
def yL_ifTested : MethodName := ⟨RL, "ifTested", "(LTestSlots;II[J)I"⟩
abbrev cL_couldHave : ByteArray := method_22_code
def yL_couldHave : MethodName := ⟨RL, "couldHave", "(LTestSlots;I[J)I"⟩
abbrev cL_law : ByteArray := code
def yL_law : MethodName := ⟨RL, "law", "([I)Z"⟩
abbrev vwCl : List vw_C := [(RX0, TX0, 3), (RX1, TX1, 10), (RX2, TX2, 7), (RX3, TX3, 9), (RX4, TX4, 5), (RX5, TX5, 16)]
end
section
theorem dX0_init_0 : decode cX0_init 0 = .ok (.aload_n 0, 1) := by decide +kernel
theorem dX0_init_1 : decode cX0_init 1 = .ok (.invokespecial 3, 3) := by decide +kernel
theorem dX0_init_4 : decode cX0_init 4 = .ok (.aload_n 0, 1) := by decide +kernel
theorem dX0_init_5 : decode cX0_init 5 = .ok (.iconst 4, 1) := by decide +kernel
theorem dX0_init_6 : decode cX0_init 6 = .ok (.newarray .int, 2) := by decide +kernel
theorem dX0_init_8 : decode cX0_init 8 = .ok (.putfield 9, 3) := by decide +kernel
theorem dX0_init_11 : decode cX0_init 11 = .ok (.aload_n 0, 1) := by decide +kernel
theorem dX0_init_12 : decode cX0_init 12 = .ok (.iconst 0, 1) := by decide +kernel
theorem dX0_init_13 : decode cX0_init 13 = .ok (.putfield 15, 3) := by decide +kernel
theorem dX0_init_16 : decode cX0_init 16 = .ok (.aload_n 0, 1) := by decide +kernel
theorem dX0_init_17 : decode cX0_init 17 = .ok (.iconst 0, 1) := by decide +kernel
theorem dX0_init_18 : decode cX0_init 18 = .ok (.putfield 19, 3) := by decide +kernel
theorem dX0_init_21 : decode cX0_init 21 = .ok (.return_, 1) := by decide +kernel
theorem dX0_copyFrom_0 : decode cX0_copyFrom 0 = .ok (.aload_n 1, 1) := by decide +kernel
theorem dX0_copyFrom_1 : decode cX0_copyFrom 1 = .ok (.getfield 9, 3) := by decide +kernel
theorem dX0_copyFrom_4 : decode cX0_copyFrom 4 = .ok (.iconst 0, 1) := by decide +kernel
theorem dX0_copyFrom_5 : decode cX0_copyFrom 5 = .ok (.aload_n 0, 1) := by decide +kernel
theorem dX0_copyFrom_6 : decode cX0_copyFrom 6 = .ok (.getfield 9, 3) := by decide +kernel
theorem dX0_copyFrom_9 : decode cX0_copyFrom 9 = .ok (.iconst 0, 1) := by decide +kernel
theorem dX0_copyFrom_10 : decode cX0_copyFrom 10 = .ok (.aload_n 0, 1) := by decide +kernel
theorem dX0_copyFrom_11 : decode cX0_copyFrom 11 = .ok (.getfield 9, 3) := by decide +kernel
theorem dX0_copyFrom_14 : decode cX0_copyFrom 14 = .ok (.arraylength, 1) := by decide +kernel
theorem dX0_copyFrom_15 : decode cX0_copyFrom 15 = .ok (.invokestatic 22, 3) := by decide +kernel
theorem dX0_copyFrom_18 : decode cX0_copyFrom 18 = .ok (.aload_n 0, 1) := by decide +kernel
theorem dX0_copyFrom_19 : decode cX0_copyFrom 19 = .ok (.aload_n 1, 1) := by decide +kernel
theorem dX0_copyFrom_20 : decode cX0_copyFrom 20 = .ok (.getfield 15, 3) := by decide +kernel
theorem dX0_copyFrom_23 : decode cX0_copyFrom 23 = .ok (.putfield 15, 3) := by decide +kernel
theorem dX0_copyFrom_26 : decode cX0_copyFrom 26 = .ok (.aload_n 0, 1) := by decide +kernel
theorem dX0_copyFrom_27 : decode cX0_copyFrom 27 = .ok (.aload_n 1, 1) := by decide +kernel
theorem dX0_copyFrom_28 : decode cX0_copyFrom 28 = .ok (.getfield 19, 3) := by decide +kernel
theorem dX0_copyFrom_31 : decode cX0_copyFrom 31 = .ok (.putfield 19, 3) := by decide +kernel
theorem dX0_copyFrom_34 : decode cX0_copyFrom 34 = .ok (.return_, 1) := by decide +kernel
theorem dX0_tests_0 : decode cX0_tests 0 = .ok (.iconst 0, 1) := by decide +kernel
theorem dX0_tests_1 : decode cX0_tests 1 = .ok (.istore_n 1, 1) := by decide +kernel
theorem dX0_tests_2 : decode cX0_tests 2 = .ok (.iconst 0, 1) := by decide +kernel
theorem dX0_tests_3 : decode cX0_tests 3 = .ok (.istore_n 2, 1) := by decide +kernel
theorem dX0_tests_4 : decode cX0_tests 4 = .ok (.iload_n 2, 1) := by decide +kernel
theorem dX0_tests_5 : decode cX0_tests 5 = .ok (.aload_n 0, 1) := by decide +kernel
theorem dX0_tests_6 : decode cX0_tests 6 = .ok (.getfield 9, 3) := by decide +kernel
theorem dX0_tests_9 : decode cX0_tests 9 = .ok (.arraylength, 1) := by decide +kernel
theorem dX0_tests_10 : decode cX0_tests 10 = .ok (.if_icmp .ge 18, 3) := by decide +kernel
theorem dX0_tests_13 : decode cX0_tests 13 = .ok (.iload_n 1, 1) := by decide +kernel
theorem dX0_tests_14 : decode cX0_tests 14 = .ok (.aload_n 0, 1) := by decide +kernel
theorem dX0_tests_15 : decode cX0_tests 15 = .ok (.getfield 9, 3) := by decide +kernel
theorem dX0_tests_18 : decode cX0_tests 18 = .ok (.iload_n 2, 1) := by decide +kernel
theorem dX0_tests_19 : decode cX0_tests 19 = .ok (.iaload, 1) := by decide +kernel
theorem dX0_tests_20 : decode cX0_tests 20 = .ok (.iadd, 1) := by decide +kernel
theorem dX0_tests_21 : decode cX0_tests 21 = .ok (.istore_n 1, 1) := by decide +kernel
theorem dX0_tests_22 : decode cX0_tests 22 = .ok (.iinc 2 1, 3) := by decide +kernel
theorem dX0_tests_25 : decode cX0_tests 25 = .ok (.goto (-21), 3) := by decide +kernel
theorem dX0_tests_28 : decode cX0_tests 28 = .ok (.iload_n 1, 1) := by decide +kernel
theorem dX0_tests_29 : decode cX0_tests 29 = .ok (.ireturn, 1) := by decide +kernel
theorem dX0_leastUsedRouteBut_0 : decode cX0_leastUsedRouteBut 0 = .ok (.iload_n 1, 1) := by decide +kernel
theorem dX0_leastUsedRouteBut_1 : decode cX0_leastUsedRouteBut 1 = .ok (.ifCond .ne 7, 3) := by decide +kernel
theorem dX0_leastUsedRouteBut_4 : decode cX0_leastUsedRouteBut 4 = .ok (.iconst 1, 1) := by decide +kernel
theorem dX0_leastUsedRouteBut_5 : decode cX0_leastUsedRouteBut 5 = .ok (.goto 4, 3) := by decide +kernel
theorem dX0_leastUsedRouteBut_8 : decode cX0_leastUsedRouteBut 8 = .ok (.iconst 0, 1) := by decide +kernel
theorem dX0_leastUsedRouteBut_9 : decode cX0_leastUsedRouteBut 9 = .ok (.istore_n 2, 1) := by decide +kernel
theorem dX0_leastUsedRouteBut_10 : decode cX0_leastUsedRouteBut 10 = .ok (.iload_n 2, 1) := by decide +kernel
theorem dX0_leastUsedRouteBut_11 : decode cX0_leastUsedRouteBut 11 = .ok (.iconst 1, 1) := by decide +kernel
theorem dX0_leastUsedRouteBut_12 : decode cX0_leastUsedRouteBut 12 = .ok (.iadd, 1) := by decide +kernel
theorem dX0_leastUsedRouteBut_13 : decode cX0_leastUsedRouteBut 13 = .ok (.istore_n 3, 1) := by decide +kernel
theorem dX0_leastUsedRouteBut_14 : decode cX0_leastUsedRouteBut 14 = .ok (.iload_n 3, 1) := by decide +kernel
theorem dX0_leastUsedRouteBut_15 : decode cX0_leastUsedRouteBut 15 = .ok (.aload_n 0, 1) := by decide +kernel
theorem dX0_leastUsedRouteBut_16 : decode cX0_leastUsedRouteBut 16 = .ok (.getfield 9, 3) := by decide +kernel
theorem dX0_leastUsedRouteBut_19 : decode cX0_leastUsedRouteBut 19 = .ok (.arraylength, 1) := by decide +kernel
theorem dX0_leastUsedRouteBut_20 : decode cX0_leastUsedRouteBut 20 = .ok (.if_icmp .ge 31, 3) := by decide +kernel
theorem dX0_leastUsedRouteBut_23 : decode cX0_leastUsedRouteBut 23 = .ok (.iload_n 3, 1) := by decide +kernel
theorem dX0_leastUsedRouteBut_24 : decode cX0_leastUsedRouteBut 24 = .ok (.iload_n 1, 1) := by decide +kernel
theorem dX0_leastUsedRouteBut_25 : decode cX0_leastUsedRouteBut 25 = .ok (.if_icmp .eq 20, 3) := by decide +kernel
theorem dX0_leastUsedRouteBut_28 : decode cX0_leastUsedRouteBut 28 = .ok (.aload_n 0, 1) := by decide +kernel
theorem dX0_leastUsedRouteBut_29 : decode cX0_leastUsedRouteBut 29 = .ok (.getfield 9, 3) := by decide +kernel
theorem dX0_leastUsedRouteBut_32 : decode cX0_leastUsedRouteBut 32 = .ok (.iload_n 3, 1) := by decide +kernel
theorem dX0_leastUsedRouteBut_33 : decode cX0_leastUsedRouteBut 33 = .ok (.iaload, 1) := by decide +kernel
theorem dX0_leastUsedRouteBut_34 : decode cX0_leastUsedRouteBut 34 = .ok (.aload_n 0, 1) := by decide +kernel
theorem dX0_leastUsedRouteBut_35 : decode cX0_leastUsedRouteBut 35 = .ok (.getfield 9, 3) := by decide +kernel
theorem dX0_leastUsedRouteBut_38 : decode cX0_leastUsedRouteBut 38 = .ok (.iload_n 2, 1) := by decide +kernel
theorem dX0_leastUsedRouteBut_39 : decode cX0_leastUsedRouteBut 39 = .ok (.iaload, 1) := by decide +kernel
theorem dX0_leastUsedRouteBut_40 : decode cX0_leastUsedRouteBut 40 = .ok (.if_icmp .ge 5, 3) := by decide +kernel
theorem dX0_leastUsedRouteBut_43 : decode cX0_leastUsedRouteBut 43 = .ok (.iload_n 3, 1) := by decide +kernel
theorem dX0_leastUsedRouteBut_44 : decode cX0_leastUsedRouteBut 44 = .ok (.istore_n 2, 1) := by decide +kernel
theorem dX0_leastUsedRouteBut_45 : decode cX0_leastUsedRouteBut 45 = .ok (.iinc 3 1, 3) := by decide +kernel
theorem dX0_leastUsedRouteBut_48 : decode cX0_leastUsedRouteBut 48 = .ok (.goto (-34), 3) := by decide +kernel
theorem dX0_leastUsedRouteBut_51 : decode cX0_leastUsedRouteBut 51 = .ok (.iload_n 2, 1) := by decide +kernel
theorem dX0_leastUsedRouteBut_52 : decode cX0_leastUsedRouteBut 52 = .ok (.ireturn, 1) := by decide +kernel
theorem dX1_init_0 : decode cX1_init 0 = .ok (.aload_n 0, 1) := by decide +kernel
theorem dX1_init_1 : decode cX1_init 1 = .ok (.invokespecial 3, 3) := by decide +kernel
theorem dX1_init_4 : decode cX1_init 4 = .ok (.aload_n 0, 1) := by decide +kernel
theorem dX1_init_5 : decode cX1_init 5 = .ok (.iconst 0, 1) := by decide +kernel
theorem dX1_init_6 : decode cX1_init 6 = .ok (.putfield 9, 3) := by decide +kernel
theorem dX1_init_9 : decode cX1_init 9 = .ok (.aload_n 0, 1) := by decide +kernel
theorem dX1_init_10 : decode cX1_init 10 = .ok (.iconst 0, 1) := by decide +kernel
theorem dX1_init_11 : decode cX1_init 11 = .ok (.putfield 15, 3) := by decide +kernel
theorem dX1_init_14 : decode cX1_init 14 = .ok (.aload_n 0, 1) := by decide +kernel
theorem dX1_init_15 : decode cX1_init 15 = .ok (.iconst 0, 1) := by decide +kernel
theorem dX1_init_16 : decode cX1_init 16 = .ok (.putfield 18, 3) := by decide +kernel
theorem dX1_init_19 : decode cX1_init 19 = .ok (.aload_n 0, 1) := by decide +kernel
theorem dX1_init_20 : decode cX1_init 20 = .ok (.iconst 0, 1) := by decide +kernel
theorem dX1_init_21 : decode cX1_init 21 = .ok (.putfield 21, 3) := by decide +kernel
theorem dX1_init_24 : decode cX1_init 24 = .ok (.aload_n 0, 1) := by decide +kernel
theorem dX1_init_25 : decode cX1_init 25 = .ok (.iconst 0, 1) := by decide +kernel
theorem dX1_init_26 : decode cX1_init 26 = .ok (.putfield 24, 3) := by decide +kernel
theorem dX1_init_29 : decode cX1_init 29 = .ok (.aload_n 0, 1) := by decide +kernel
theorem dX1_init_30 : decode cX1_init 30 = .ok (.getstatic 27, 3) := by decide +kernel
theorem dX1_init_33 : decode cX1_init 33 = .ok (.arraylength, 1) := by decide +kernel
theorem dX1_init_34 : decode cX1_init 34 = .ok (.newarray .int, 2) := by decide +kernel
theorem dX1_init_36 : decode cX1_init 36 = .ok (.putfield 31, 3) := by decide +kernel
theorem dX1_init_39 : decode cX1_init 39 = .ok (.aload_n 0, 1) := by decide +kernel
theorem dX1_init_40 : decode cX1_init 40 = .ok (.sipush 160, 3) := by decide +kernel
theorem dX1_init_43 : decode cX1_init 43 = .ok (.newarray .int, 2) := by decide +kernel
theorem dX1_init_45 : decode cX1_init 45 = .ok (.putfield 34, 3) := by decide +kernel
theorem dX1_init_48 : decode cX1_init 48 = .ok (.aload_n 0, 1) := by decide +kernel
theorem dX1_init_49 : decode cX1_init 49 = .ok (.bipush 12, 2) := by decide +kernel
theorem dX1_init_51 : decode cX1_init 51 = .ok (.anewarray 37, 3) := by decide +kernel
theorem dX1_init_54 : decode cX1_init 54 = .ok (.putfield 39, 3) := by decide +kernel
theorem dX1_init_57 : decode cX1_init 57 = .ok (.aload_n 0, 1) := by decide +kernel
theorem dX1_init_58 : decode cX1_init 58 = .ok (.iconst 4, 1) := by decide +kernel
theorem dX1_init_59 : decode cX1_init 59 = .ok (.anewarray 43, 3) := by decide +kernel
theorem dX1_init_62 : decode cX1_init 62 = .ok (.putfield 45, 3) := by decide +kernel
theorem dX1_init_65 : decode cX1_init 65 = .ok (.aload_n 0, 1) := by decide +kernel
theorem dX1_init_66 : decode cX1_init 66 = .ok (.bipush 12, 2) := by decide +kernel
theorem dX1_init_68 : decode cX1_init 68 = .ok (.newarray .int, 2) := by decide +kernel
theorem dX1_init_70 : decode cX1_init 70 = .ok (.putfield 49, 3) := by decide +kernel
theorem dX1_init_73 : decode cX1_init 73 = .ok (.getstatic 27, 3) := by decide +kernel
theorem dX1_init_76 : decode cX1_init 76 = .ok (.iconst 0, 1) := by decide +kernel
theorem dX1_init_77 : decode cX1_init 77 = .ok (.aload_n 0, 1) := by decide +kernel
theorem dX1_init_78 : decode cX1_init 78 = .ok (.getfield 31, 3) := by decide +kernel
theorem dX1_init_81 : decode cX1_init 81 = .ok (.iconst 0, 1) := by decide +kernel
theorem dX1_init_82 : decode cX1_init 82 = .ok (.aload_n 0, 1) := by decide +kernel
theorem dX1_init_83 : decode cX1_init 83 = .ok (.getfield 31, 3) := by decide +kernel
theorem dX1_init_86 : decode cX1_init 86 = .ok (.arraylength, 1) := by decide +kernel
theorem dX1_init_87 : decode cX1_init 87 = .ok (.invokestatic 52, 3) := by decide +kernel
theorem dX1_init_90 : decode cX1_init 90 = .ok (.aload_n 0, 1) := by decide +kernel
theorem dX1_init_91 : decode cX1_init 91 = .ok (.getfield 34, 3) := by decide +kernel
theorem dX1_init_94 : decode cX1_init 94 = .ok (.bipush (-2), 2) := by decide +kernel
theorem dX1_init_96 : decode cX1_init 96 = .ok (.invokestatic 58, 3) := by decide +kernel
theorem dX1_init_99 : decode cX1_init 99 = .ok (.iconst 0, 1) := by decide +kernel
theorem dX1_init_100 : decode cX1_init 100 = .ok (.istore_n 1, 1) := by decide +kernel
theorem dX1_init_101 : decode cX1_init 101 = .ok (.iload_n 1, 1) := by decide +kernel
theorem dX1_init_102 : decode cX1_init 102 = .ok (.aload_n 0, 1) := by decide +kernel
theorem dX1_init_103 : decode cX1_init 103 = .ok (.getfield 39, 3) := by decide +kernel
theorem dX1_init_106 : decode cX1_init 106 = .ok (.arraylength, 1) := by decide +kernel
theorem dX1_init_107 : decode cX1_init 107 = .ok (.if_icmp .ge 22, 3) := by decide +kernel
theorem dX1_init_110 : decode cX1_init 110 = .ok (.aload_n 0, 1) := by decide +kernel
theorem dX1_init_111 : decode cX1_init 111 = .ok (.getfield 39, 3) := by decide +kernel
theorem dX1_init_114 : decode cX1_init 114 = .ok (.iload_n 1, 1) := by decide +kernel
theorem dX1_init_115 : decode cX1_init 115 = .ok (.new 37, 3) := by decide +kernel
theorem dX1_init_118 : decode cX1_init 118 = .ok (.dup, 1) := by decide +kernel
theorem dX1_init_119 : decode cX1_init 119 = .ok (.invokespecial 64, 3) := by decide +kernel
theorem dX1_init_122 : decode cX1_init 122 = .ok (.aastore, 1) := by decide +kernel
theorem dX1_init_123 : decode cX1_init 123 = .ok (.iinc 1 1, 3) := by decide +kernel
theorem dX1_init_126 : decode cX1_init 126 = .ok (.goto (-25), 3) := by decide +kernel
theorem dX1_init_129 : decode cX1_init 129 = .ok (.iconst 0, 1) := by decide +kernel
theorem dX1_init_130 : decode cX1_init 130 = .ok (.istore_n 1, 1) := by decide +kernel
theorem dX1_init_131 : decode cX1_init 131 = .ok (.iload_n 1, 1) := by decide +kernel
theorem dX1_init_132 : decode cX1_init 132 = .ok (.aload_n 0, 1) := by decide +kernel
theorem dX1_init_133 : decode cX1_init 133 = .ok (.getfield 45, 3) := by decide +kernel
theorem dX1_init_136 : decode cX1_init 136 = .ok (.arraylength, 1) := by decide +kernel
theorem dX1_init_137 : decode cX1_init 137 = .ok (.if_icmp .ge 22, 3) := by decide +kernel
theorem dX1_init_140 : decode cX1_init 140 = .ok (.aload_n 0, 1) := by decide +kernel
theorem dX1_init_141 : decode cX1_init 141 = .ok (.getfield 45, 3) := by decide +kernel
theorem dX1_init_144 : decode cX1_init 144 = .ok (.iload_n 1, 1) := by decide +kernel
theorem dX1_init_145 : decode cX1_init 145 = .ok (.new 43, 3) := by decide +kernel
theorem dX1_init_148 : decode cX1_init 148 = .ok (.dup, 1) := by decide +kernel
theorem dX1_init_149 : decode cX1_init 149 = .ok (.invokespecial 65, 3) := by decide +kernel
theorem dX1_init_152 : decode cX1_init 152 = .ok (.aastore, 1) := by decide +kernel
theorem dX1_init_153 : decode cX1_init 153 = .ok (.iinc 1 1, 3) := by decide +kernel
theorem dX1_init_156 : decode cX1_init 156 = .ok (.goto (-25), 3) := by decide +kernel
theorem dX1_init_159 : decode cX1_init 159 = .ok (.return_, 1) := by decide +kernel
theorem dX1_copyFrom_0 : decode cX1_copyFrom 0 = .ok (.aload_n 0, 1) := by decide +kernel
theorem dX1_copyFrom_1 : decode cX1_copyFrom 1 = .ok (.aload_n 1, 1) := by decide +kernel
theorem dX1_copyFrom_2 : decode cX1_copyFrom 2 = .ok (.getfield 9, 3) := by decide +kernel
theorem dX1_copyFrom_5 : decode cX1_copyFrom 5 = .ok (.putfield 9, 3) := by decide +kernel
theorem dX1_copyFrom_8 : decode cX1_copyFrom 8 = .ok (.aload_n 0, 1) := by decide +kernel
theorem dX1_copyFrom_9 : decode cX1_copyFrom 9 = .ok (.aload_n 1, 1) := by decide +kernel
theorem dX1_copyFrom_10 : decode cX1_copyFrom 10 = .ok (.getfield 15, 3) := by decide +kernel
theorem dX1_copyFrom_13 : decode cX1_copyFrom 13 = .ok (.putfield 15, 3) := by decide +kernel
theorem dX1_copyFrom_16 : decode cX1_copyFrom 16 = .ok (.aload_n 0, 1) := by decide +kernel
theorem dX1_copyFrom_17 : decode cX1_copyFrom 17 = .ok (.aload_n 1, 1) := by decide +kernel
theorem dX1_copyFrom_18 : decode cX1_copyFrom 18 = .ok (.getfield 18, 3) := by decide +kernel
theorem dX1_copyFrom_21 : decode cX1_copyFrom 21 = .ok (.putfield 18, 3) := by decide +kernel
theorem dX1_copyFrom_24 : decode cX1_copyFrom 24 = .ok (.aload_n 0, 1) := by decide +kernel
theorem dX1_copyFrom_25 : decode cX1_copyFrom 25 = .ok (.aload_n 1, 1) := by decide +kernel
theorem dX1_copyFrom_26 : decode cX1_copyFrom 26 = .ok (.getfield 21, 3) := by decide +kernel
theorem dX1_copyFrom_29 : decode cX1_copyFrom 29 = .ok (.putfield 21, 3) := by decide +kernel
theorem dX1_copyFrom_32 : decode cX1_copyFrom 32 = .ok (.aload_n 0, 1) := by decide +kernel
theorem dX1_copyFrom_33 : decode cX1_copyFrom 33 = .ok (.aload_n 1, 1) := by decide +kernel
theorem dX1_copyFrom_34 : decode cX1_copyFrom 34 = .ok (.getfield 24, 3) := by decide +kernel
theorem dX1_copyFrom_37 : decode cX1_copyFrom 37 = .ok (.putfield 24, 3) := by decide +kernel
theorem dX1_copyFrom_40 : decode cX1_copyFrom 40 = .ok (.aload_n 1, 1) := by decide +kernel
theorem dX1_copyFrom_41 : decode cX1_copyFrom 41 = .ok (.getfield 31, 3) := by decide +kernel
theorem dX1_copyFrom_44 : decode cX1_copyFrom 44 = .ok (.iconst 0, 1) := by decide +kernel
theorem dX1_copyFrom_45 : decode cX1_copyFrom 45 = .ok (.aload_n 0, 1) := by decide +kernel
theorem dX1_copyFrom_46 : decode cX1_copyFrom 46 = .ok (.getfield 31, 3) := by decide +kernel
theorem dX1_copyFrom_49 : decode cX1_copyFrom 49 = .ok (.iconst 0, 1) := by decide +kernel
theorem dX1_copyFrom_50 : decode cX1_copyFrom 50 = .ok (.aload_n 0, 1) := by decide +kernel
theorem dX1_copyFrom_51 : decode cX1_copyFrom 51 = .ok (.getfield 31, 3) := by decide +kernel
theorem dX1_copyFrom_54 : decode cX1_copyFrom 54 = .ok (.arraylength, 1) := by decide +kernel
theorem dX1_copyFrom_55 : decode cX1_copyFrom 55 = .ok (.invokestatic 52, 3) := by decide +kernel
theorem dX1_copyFrom_58 : decode cX1_copyFrom 58 = .ok (.aload_n 1, 1) := by decide +kernel
theorem dX1_copyFrom_59 : decode cX1_copyFrom 59 = .ok (.getfield 34, 3) := by decide +kernel
theorem dX1_copyFrom_62 : decode cX1_copyFrom 62 = .ok (.iconst 0, 1) := by decide +kernel
theorem dX1_copyFrom_63 : decode cX1_copyFrom 63 = .ok (.aload_n 0, 1) := by decide +kernel
theorem dX1_copyFrom_64 : decode cX1_copyFrom 64 = .ok (.getfield 34, 3) := by decide +kernel
theorem dX1_copyFrom_67 : decode cX1_copyFrom 67 = .ok (.iconst 0, 1) := by decide +kernel
theorem dX1_copyFrom_68 : decode cX1_copyFrom 68 = .ok (.aload_n 0, 1) := by decide +kernel
theorem dX1_copyFrom_69 : decode cX1_copyFrom 69 = .ok (.getfield 34, 3) := by decide +kernel
theorem dX1_copyFrom_72 : decode cX1_copyFrom 72 = .ok (.arraylength, 1) := by decide +kernel
theorem dX1_copyFrom_73 : decode cX1_copyFrom 73 = .ok (.invokestatic 52, 3) := by decide +kernel
theorem dX1_copyFrom_76 : decode cX1_copyFrom 76 = .ok (.iconst 0, 1) := by decide +kernel
theorem dX1_copyFrom_77 : decode cX1_copyFrom 77 = .ok (.istore_n 2, 1) := by decide +kernel
theorem dX1_copyFrom_78 : decode cX1_copyFrom 78 = .ok (.iload_n 2, 1) := by decide +kernel
theorem dX1_copyFrom_79 : decode cX1_copyFrom 79 = .ok (.aload_n 0, 1) := by decide +kernel
theorem dX1_copyFrom_80 : decode cX1_copyFrom 80 = .ok (.getfield 39, 3) := by decide +kernel
theorem dX1_copyFrom_83 : decode cX1_copyFrom 83 = .ok (.arraylength, 1) := by decide +kernel
theorem dX1_copyFrom_84 : decode cX1_copyFrom 84 = .ok (.if_icmp .ge 24, 3) := by decide +kernel
theorem dX1_copyFrom_87 : decode cX1_copyFrom 87 = .ok (.aload_n 0, 1) := by decide +kernel
theorem dX1_copyFrom_88 : decode cX1_copyFrom 88 = .ok (.getfield 39, 3) := by decide +kernel
theorem dX1_copyFrom_91 : decode cX1_copyFrom 91 = .ok (.iload_n 2, 1) := by decide +kernel
theorem dX1_copyFrom_92 : decode cX1_copyFrom 92 = .ok (.aaload, 1) := by decide +kernel
theorem dX1_copyFrom_93 : decode cX1_copyFrom 93 = .ok (.aload_n 1, 1) := by decide +kernel
theorem dX1_copyFrom_94 : decode cX1_copyFrom 94 = .ok (.getfield 39, 3) := by decide +kernel
theorem dX1_copyFrom_97 : decode cX1_copyFrom 97 = .ok (.iload_n 2, 1) := by decide +kernel
theorem dX1_copyFrom_98 : decode cX1_copyFrom 98 = .ok (.aaload, 1) := by decide +kernel
theorem dX1_copyFrom_99 : decode cX1_copyFrom 99 = .ok (.invokevirtual 66, 3) := by decide +kernel
theorem dX1_copyFrom_102 : decode cX1_copyFrom 102 = .ok (.iinc 2 1, 3) := by decide +kernel
theorem dX1_copyFrom_105 : decode cX1_copyFrom 105 = .ok (.goto (-27), 3) := by decide +kernel
theorem dX1_copyFrom_108 : decode cX1_copyFrom 108 = .ok (.iconst 0, 1) := by decide +kernel
theorem dX1_copyFrom_109 : decode cX1_copyFrom 109 = .ok (.istore_n 2, 1) := by decide +kernel
theorem dX1_copyFrom_110 : decode cX1_copyFrom 110 = .ok (.iload_n 2, 1) := by decide +kernel
theorem dX1_copyFrom_111 : decode cX1_copyFrom 111 = .ok (.aload_n 0, 1) := by decide +kernel
theorem dX1_copyFrom_112 : decode cX1_copyFrom 112 = .ok (.getfield 45, 3) := by decide +kernel
theorem dX1_copyFrom_115 : decode cX1_copyFrom 115 = .ok (.arraylength, 1) := by decide +kernel
theorem dX1_copyFrom_116 : decode cX1_copyFrom 116 = .ok (.if_icmp .ge 24, 3) := by decide +kernel
theorem dX1_copyFrom_119 : decode cX1_copyFrom 119 = .ok (.aload_n 0, 1) := by decide +kernel
theorem dX1_copyFrom_120 : decode cX1_copyFrom 120 = .ok (.getfield 45, 3) := by decide +kernel
theorem dX1_copyFrom_123 : decode cX1_copyFrom 123 = .ok (.iload_n 2, 1) := by decide +kernel
theorem dX1_copyFrom_124 : decode cX1_copyFrom 124 = .ok (.aaload, 1) := by decide +kernel
theorem dX1_copyFrom_125 : decode cX1_copyFrom 125 = .ok (.aload_n 1, 1) := by decide +kernel
theorem dX1_copyFrom_126 : decode cX1_copyFrom 126 = .ok (.getfield 45, 3) := by decide +kernel
theorem dX1_copyFrom_129 : decode cX1_copyFrom 129 = .ok (.iload_n 2, 1) := by decide +kernel
theorem dX1_copyFrom_130 : decode cX1_copyFrom 130 = .ok (.aaload, 1) := by decide +kernel
theorem dX1_copyFrom_131 : decode cX1_copyFrom 131 = .ok (.invokevirtual 70, 3) := by decide +kernel
theorem dX1_copyFrom_134 : decode cX1_copyFrom 134 = .ok (.iinc 2 1, 3) := by decide +kernel
theorem dX1_copyFrom_137 : decode cX1_copyFrom 137 = .ok (.goto (-27), 3) := by decide +kernel
theorem dX1_copyFrom_140 : decode cX1_copyFrom 140 = .ok (.return_, 1) := by decide +kernel
theorem dX1_hasPupil_0 : decode cX1_hasPupil 0 = .ok (.iload_n 1, 1) := by decide +kernel
theorem dX1_hasPupil_1 : decode cX1_hasPupil 1 = .ok (.ifCond .lt 15, 3) := by decide +kernel
theorem dX1_hasPupil_4 : decode cX1_hasPupil 4 = .ok (.iload_n 1, 1) := by decide +kernel
theorem dX1_hasPupil_5 : decode cX1_hasPupil 5 = .ok (.aload_n 0, 1) := by decide +kernel
theorem dX1_hasPupil_6 : decode cX1_hasPupil 6 = .ok (.getfield 18, 3) := by decide +kernel
theorem dX1_hasPupil_9 : decode cX1_hasPupil 9 = .ok (.if_icmp .ge 7, 3) := by decide +kernel
theorem dX1_hasPupil_12 : decode cX1_hasPupil 12 = .ok (.iconst 1, 1) := by decide +kernel
theorem dX1_hasPupil_13 : decode cX1_hasPupil 13 = .ok (.goto 4, 3) := by decide +kernel
theorem dX1_hasPupil_16 : decode cX1_hasPupil 16 = .ok (.iconst 0, 1) := by decide +kernel
theorem dX1_hasPupil_17 : decode cX1_hasPupil 17 = .ok (.ireturn, 1) := by decide +kernel
theorem dX1_hasExaminer_0 : decode cX1_hasExaminer 0 = .ok (.iload_n 1, 1) := by decide +kernel
theorem dX1_hasExaminer_1 : decode cX1_hasExaminer 1 = .ok (.ifCond .lt 15, 3) := by decide +kernel
theorem dX1_hasExaminer_4 : decode cX1_hasExaminer 4 = .ok (.iload_n 1, 1) := by decide +kernel
theorem dX1_hasExaminer_5 : decode cX1_hasExaminer 5 = .ok (.aload_n 0, 1) := by decide +kernel
theorem dX1_hasExaminer_6 : decode cX1_hasExaminer 6 = .ok (.getfield 15, 3) := by decide +kernel
theorem dX1_hasExaminer_9 : decode cX1_hasExaminer 9 = .ok (.if_icmp .ge 7, 3) := by decide +kernel
theorem dX1_hasExaminer_12 : decode cX1_hasExaminer 12 = .ok (.iconst 1, 1) := by decide +kernel
theorem dX1_hasExaminer_13 : decode cX1_hasExaminer 13 = .ok (.goto 4, 3) := by decide +kernel
theorem dX1_hasExaminer_16 : decode cX1_hasExaminer 16 = .ok (.iconst 0, 1) := by decide +kernel
theorem dX1_hasExaminer_17 : decode cX1_hasExaminer 17 = .ok (.ireturn, 1) := by decide +kernel
theorem dX1_takeOnExaminer_0 : decode cX1_takeOnExaminer 0 = .ok (.aload_n 0, 1) := by decide +kernel
theorem dX1_takeOnExaminer_1 : decode cX1_takeOnExaminer 1 = .ok (.getfield 15, 3) := by decide +kernel
theorem dX1_takeOnExaminer_4 : decode cX1_takeOnExaminer 4 = .ok (.istore_n 1, 1) := by decide +kernel
theorem dX1_takeOnExaminer_5 : decode cX1_takeOnExaminer 5 = .ok (.aload_n 0, 1) := by decide +kernel
theorem dX1_takeOnExaminer_6 : decode cX1_takeOnExaminer 6 = .ok (.dup, 1) := by decide +kernel
theorem dX1_takeOnExaminer_7 : decode cX1_takeOnExaminer 7 = .ok (.getfield 15, 3) := by decide +kernel
theorem dX1_takeOnExaminer_10 : decode cX1_takeOnExaminer 10 = .ok (.iconst 1, 1) := by decide +kernel
theorem dX1_takeOnExaminer_11 : decode cX1_takeOnExaminer 11 = .ok (.iadd, 1) := by decide +kernel
theorem dX1_takeOnExaminer_12 : decode cX1_takeOnExaminer 12 = .ok (.putfield 15, 3) := by decide +kernel
theorem dX1_takeOnExaminer_15 : decode cX1_takeOnExaminer 15 = .ok (.iconst 0, 1) := by decide +kernel
theorem dX1_takeOnExaminer_16 : decode cX1_takeOnExaminer 16 = .ok (.istore_n 2, 1) := by decide +kernel
theorem dX1_takeOnExaminer_17 : decode cX1_takeOnExaminer 17 = .ok (.iload_n 2, 1) := by decide +kernel
theorem dX1_takeOnExaminer_18 : decode cX1_takeOnExaminer 18 = .ok (.bipush 10, 2) := by decide +kernel
theorem dX1_takeOnExaminer_20 : decode cX1_takeOnExaminer 20 = .ok (.if_icmp .ge 15, 3) := by decide +kernel
theorem dX1_takeOnExaminer_23 : decode cX1_takeOnExaminer 23 = .ok (.aload_n 0, 1) := by decide +kernel
theorem dX1_takeOnExaminer_24 : decode cX1_takeOnExaminer 24 = .ok (.iload_n 1, 1) := by decide +kernel
theorem dX1_takeOnExaminer_25 : decode cX1_takeOnExaminer 25 = .ok (.iload_n 2, 1) := by decide +kernel
theorem dX1_takeOnExaminer_26 : decode cX1_takeOnExaminer 26 = .ok (.invokevirtual 73, 3) := by decide +kernel
theorem dX1_takeOnExaminer_29 : decode cX1_takeOnExaminer 29 = .ok (.iinc 2 1, 3) := by decide +kernel
theorem dX1_takeOnExaminer_32 : decode cX1_takeOnExaminer 32 = .ok (.goto (-15), 3) := by decide +kernel
theorem dX1_takeOnExaminer_35 : decode cX1_takeOnExaminer 35 = .ok (.aload_n 0, 1) := by decide +kernel
theorem dX1_takeOnExaminer_36 : decode cX1_takeOnExaminer 36 = .ok (.invokevirtual 77, 3) := by decide +kernel
theorem dX1_takeOnExaminer_39 : decode cX1_takeOnExaminer 39 = .ok (.iload_n 1, 1) := by decide +kernel
theorem dX1_takeOnExaminer_40 : decode cX1_takeOnExaminer 40 = .ok (.ireturn, 1) := by decide +kernel
theorem dX1_takeOnPupil_0 : decode cX1_takeOnPupil 0 = .ok (.aload_n 0, 1) := by decide +kernel
theorem dX1_takeOnPupil_1 : decode cX1_takeOnPupil 1 = .ok (.getfield 18, 3) := by decide +kernel
theorem dX1_takeOnPupil_4 : decode cX1_takeOnPupil 4 = .ok (.istore_n 1, 1) := by decide +kernel
theorem dX1_takeOnPupil_5 : decode cX1_takeOnPupil 5 = .ok (.aload_n 0, 1) := by decide +kernel
theorem dX1_takeOnPupil_6 : decode cX1_takeOnPupil 6 = .ok (.dup, 1) := by decide +kernel
theorem dX1_takeOnPupil_7 : decode cX1_takeOnPupil 7 = .ok (.getfield 18, 3) := by decide +kernel
theorem dX1_takeOnPupil_10 : decode cX1_takeOnPupil 10 = .ok (.iconst 1, 1) := by decide +kernel
theorem dX1_takeOnPupil_11 : decode cX1_takeOnPupil 11 = .ok (.iadd, 1) := by decide +kernel
theorem dX1_takeOnPupil_12 : decode cX1_takeOnPupil 12 = .ok (.putfield 18, 3) := by decide +kernel
theorem dX1_takeOnPupil_15 : decode cX1_takeOnPupil 15 = .ok (.aload_n 0, 1) := by decide +kernel
theorem dX1_takeOnPupil_16 : decode cX1_takeOnPupil 16 = .ok (.getfield 39, 3) := by decide +kernel
theorem dX1_takeOnPupil_19 : decode cX1_takeOnPupil 19 = .ok (.iload_n 1, 1) := by decide +kernel
theorem dX1_takeOnPupil_20 : decode cX1_takeOnPupil 20 = .ok (.aaload, 1) := by decide +kernel
theorem dX1_takeOnPupil_21 : decode cX1_takeOnPupil 21 = .ok (.aload_n 0, 1) := by decide +kernel
theorem dX1_takeOnPupil_22 : decode cX1_takeOnPupil 22 = .ok (.getfield 9, 3) := by decide +kernel
theorem dX1_takeOnPupil_25 : decode cX1_takeOnPupil 25 = .ok (.putfield 80, 3) := by decide +kernel
theorem dX1_takeOnPupil_28 : decode cX1_takeOnPupil 28 = .ok (.iload_n 1, 1) := by decide +kernel
theorem dX1_takeOnPupil_29 : decode cX1_takeOnPupil 29 = .ok (.ireturn, 1) := by decide +kernel
theorem dX1_mayAsk_0 : decode cX1_mayAsk 0 = .ok (.aload_n 0, 1) := by decide +kernel
theorem dX1_mayAsk_1 : decode cX1_mayAsk 1 = .ok (.getfield 39, 3) := by decide +kernel
theorem dX1_mayAsk_4 : decode cX1_mayAsk 4 = .ok (.iload_n 1, 1) := by decide +kernel
theorem dX1_mayAsk_5 : decode cX1_mayAsk 5 = .ok (.aaload, 1) := by decide +kernel
theorem dX1_mayAsk_6 : decode cX1_mayAsk 6 = .ok (.getfield 83, 3) := by decide +kernel
theorem dX1_mayAsk_9 : decode cX1_mayAsk 9 = .ok (.ifCond .ne 7, 3) := by decide +kernel
theorem dX1_mayAsk_12 : decode cX1_mayAsk 12 = .ok (.iconst 1, 1) := by decide +kernel
theorem dX1_mayAsk_13 : decode cX1_mayAsk 13 = .ok (.goto 4, 3) := by decide +kernel
theorem dX1_mayAsk_16 : decode cX1_mayAsk 16 = .ok (.iconst 0, 1) := by decide +kernel
theorem dX1_mayAsk_17 : decode cX1_mayAsk 17 = .ok (.ireturn, 1) := by decide +kernel
theorem dX1_letAsk_0 : decode cX1_letAsk 0 = .ok (.aload_n 0, 1) := by decide +kernel
theorem dX1_letAsk_1 : decode cX1_letAsk 1 = .ok (.getfield 39, 3) := by decide +kernel
theorem dX1_letAsk_4 : decode cX1_letAsk 4 = .ok (.iload_n 1, 1) := by decide +kernel
theorem dX1_letAsk_5 : decode cX1_letAsk 5 = .ok (.aaload, 1) := by decide +kernel
theorem dX1_letAsk_6 : decode cX1_letAsk 6 = .ok (.astore_n 2, 1) := by decide +kernel
theorem dX1_letAsk_7 : decode cX1_letAsk 7 = .ok (.aload_n 2, 1) := by decide +kernel
theorem dX1_letAsk_8 : decode cX1_letAsk 8 = .ok (.aload_n 0, 1) := by decide +kernel
theorem dX1_letAsk_9 : decode cX1_letAsk 9 = .ok (.getfield 31, 3) := by decide +kernel
theorem dX1_letAsk_12 : decode cX1_letAsk 12 = .ok (.iconst 3, 1) := by decide +kernel
theorem dX1_letAsk_13 : decode cX1_letAsk 13 = .ok (.iaload, 1) := by decide +kernel
theorem dX1_letAsk_14 : decode cX1_letAsk 14 = .ok (.putfield 86, 3) := by decide +kernel
theorem dX1_letAsk_17 : decode cX1_letAsk 17 = .ok (.aload_n 2, 1) := by decide +kernel
theorem dX1_letAsk_18 : decode cX1_letAsk 18 = .ok (.dup, 1) := by decide +kernel
theorem dX1_letAsk_19 : decode cX1_letAsk 19 = .ok (.getfield 89, 3) := by decide +kernel
theorem dX1_letAsk_22 : decode cX1_letAsk 22 = .ok (.aload_n 2, 1) := by decide +kernel
theorem dX1_letAsk_23 : decode cX1_letAsk 23 = .ok (.getfield 86, 3) := by decide +kernel
theorem dX1_letAsk_26 : decode cX1_letAsk 26 = .ok (.iadd, 1) := by decide +kernel
theorem dX1_letAsk_27 : decode cX1_letAsk 27 = .ok (.putfield 89, 3) := by decide +kernel
theorem dX1_letAsk_30 : decode cX1_letAsk 30 = .ok (.aload_n 0, 1) := by decide +kernel
theorem dX1_letAsk_31 : decode cX1_letAsk 31 = .ok (.aload_n 2, 1) := by decide +kernel
theorem dX1_letAsk_32 : decode cX1_letAsk 32 = .ok (.invokevirtual 92, 3) := by decide +kernel
theorem dX1_letAsk_35 : decode cX1_letAsk 35 = .ok (.aload_n 0, 1) := by decide +kernel
theorem dX1_letAsk_36 : decode cX1_letAsk 36 = .ok (.invokevirtual 77, 3) := by decide +kernel
theorem dX1_letAsk_39 : decode cX1_letAsk 39 = .ok (.aload_n 0, 1) := by decide +kernel
theorem dX1_letAsk_40 : decode cX1_letAsk 40 = .ok (.iload_n 1, 1) := by decide +kernel
theorem dX1_letAsk_41 : decode cX1_letAsk 41 = .ok (.invokevirtual 95, 3) := by decide +kernel
theorem dX1_letAsk_44 : decode cX1_letAsk 44 = .ok (.iconst 0, 1) := by decide +kernel
theorem dX1_letAsk_45 : decode cX1_letAsk 45 = .ok (.invokestatic 99, 3) := by decide +kernel
theorem dX1_letAsk_48 : decode cX1_letAsk 48 = .ok (.ireturn, 1) := by decide +kernel
theorem dX1_mayQuit_0 : decode cX1_mayQuit 0 = .ok (.aload_n 0, 1) := by decide +kernel
theorem dX1_mayQuit_1 : decode cX1_mayQuit 1 = .ok (.getfield 39, 3) := by decide +kernel
theorem dX1_mayQuit_4 : decode cX1_mayQuit 4 = .ok (.iload_n 1, 1) := by decide +kernel
theorem dX1_mayQuit_5 : decode cX1_mayQuit 5 = .ok (.aaload, 1) := by decide +kernel
theorem dX1_mayQuit_6 : decode cX1_mayQuit 6 = .ok (.getfield 83, 3) := by decide +kernel
theorem dX1_mayQuit_9 : decode cX1_mayQuit 9 = .ok (.istore_n 2, 1) := by decide +kernel
theorem dX1_mayQuit_10 : decode cX1_mayQuit 10 = .ok (.iload_n 2, 1) := by decide +kernel
theorem dX1_mayQuit_11 : decode cX1_mayQuit 11 = .ok (.iconst 1, 1) := by decide +kernel
theorem dX1_mayQuit_12 : decode cX1_mayQuit 12 = .ok (.if_icmp .eq 8, 3) := by decide +kernel
theorem dX1_mayQuit_15 : decode cX1_mayQuit 15 = .ok (.iload_n 2, 1) := by decide +kernel
theorem dX1_mayQuit_16 : decode cX1_mayQuit 16 = .ok (.iconst 2, 1) := by decide +kernel
theorem dX1_mayQuit_17 : decode cX1_mayQuit 17 = .ok (.if_icmp .ne 7, 3) := by decide +kernel
theorem dX1_mayQuit_20 : decode cX1_mayQuit 20 = .ok (.iconst 1, 1) := by decide +kernel
theorem dX1_mayQuit_21 : decode cX1_mayQuit 21 = .ok (.goto 4, 3) := by decide +kernel
theorem dX1_mayQuit_24 : decode cX1_mayQuit 24 = .ok (.iconst 0, 1) := by decide +kernel
theorem dX1_mayQuit_25 : decode cX1_mayQuit 25 = .ok (.ireturn, 1) := by decide +kernel
theorem dX1_letQuit_0 : decode cX1_letQuit 0 = .ok (.aload_n 0, 1) := by decide +kernel
theorem dX1_letQuit_1 : decode cX1_letQuit 1 = .ok (.getfield 39, 3) := by decide +kernel
theorem dX1_letQuit_4 : decode cX1_letQuit 4 = .ok (.iload_n 1, 1) := by decide +kernel
theorem dX1_letQuit_5 : decode cX1_letQuit 5 = .ok (.aaload, 1) := by decide +kernel
theorem dX1_letQuit_6 : decode cX1_letQuit 6 = .ok (.astore_n 2, 1) := by decide +kernel
theorem dX1_letQuit_7 : decode cX1_letQuit 7 = .ok (.aload_n 2, 1) := by decide +kernel
theorem dX1_letQuit_8 : decode cX1_letQuit 8 = .ok (.getfield 86, 3) := by decide +kernel
theorem dX1_letQuit_11 : decode cX1_letQuit 11 = .ok (.istore_n 3, 1) := by decide +kernel
theorem dX1_letQuit_12 : decode cX1_letQuit 12 = .ok (.aload_n 0, 1) := by decide +kernel
theorem dX1_letQuit_13 : decode cX1_letQuit 13 = .ok (.iload_n 1, 1) := by decide +kernel
theorem dX1_letQuit_14 : decode cX1_letQuit 14 = .ok (.invokevirtual 95, 3) := by decide +kernel
theorem dX1_letQuit_17 : decode cX1_letQuit 17 = .ok (.istore 4, 2) := by decide +kernel
theorem dX1_letQuit_19 : decode cX1_letQuit 19 = .ok (.iload 4, 2) := by decide +kernel
theorem dX1_letQuit_21 : decode cX1_letQuit 21 = .ok (.iconst (-1), 1) := by decide +kernel
theorem dX1_letQuit_22 : decode cX1_letQuit 22 = .ok (.if_icmp .eq 31, 3) := by decide +kernel
theorem dX1_letQuit_25 : decode cX1_letQuit 25 = .ok (.aload_n 0, 1) := by decide +kernel
theorem dX1_letQuit_26 : decode cX1_letQuit 26 = .ok (.getfield 34, 3) := by decide +kernel
theorem dX1_letQuit_29 : decode cX1_letQuit 29 = .ok (.iload 4, 2) := by decide +kernel
theorem dX1_letQuit_31 : decode cX1_letQuit 31 = .ok (.iconst (-1), 1) := by decide +kernel
theorem dX1_letQuit_32 : decode cX1_letQuit 32 = .ok (.iastore, 1) := by decide +kernel
theorem dX1_letQuit_33 : decode cX1_letQuit 33 = .ok (.iload 4, 2) := by decide +kernel
theorem dX1_letQuit_35 : decode cX1_letQuit 35 = .ok (.invokestatic 103, 3) := by decide +kernel
theorem dX1_letQuit_38 : decode cX1_letQuit 38 = .ok (.aload_n 0, 1) := by decide +kernel
theorem dX1_letQuit_39 : decode cX1_letQuit 39 = .ok (.getfield 31, 3) := by decide +kernel
theorem dX1_letQuit_42 : decode cX1_letQuit 42 = .ok (.iconst 2, 1) := by decide +kernel
theorem dX1_letQuit_43 : decode cX1_letQuit 43 = .ok (.iaload, 1) := by decide +kernel
theorem dX1_letQuit_44 : decode cX1_letQuit 44 = .ok (.if_icmp .ge 7, 3) := by decide +kernel
theorem dX1_letQuit_47 : decode cX1_letQuit 47 = .ok (.iconst 0, 1) := by decide +kernel
theorem dX1_letQuit_48 : decode cX1_letQuit 48 = .ok (.goto 4, 3) := by decide +kernel
theorem dX1_letQuit_51 : decode cX1_letQuit 51 = .ok (.iload_n 3, 1) := by decide +kernel
theorem dX1_letQuit_52 : decode cX1_letQuit 52 = .ok (.istore_n 3, 1) := by decide +kernel
theorem dX1_letQuit_53 : decode cX1_letQuit 53 = .ok (.aload_n 2, 1) := by decide +kernel
theorem dX1_letQuit_54 : decode cX1_letQuit 54 = .ok (.iconst 0, 1) := by decide +kernel
theorem dX1_letQuit_55 : decode cX1_letQuit 55 = .ok (.putfield 83, 3) := by decide +kernel
theorem dX1_letQuit_58 : decode cX1_letQuit 58 = .ok (.aload_n 2, 1) := by decide +kernel
theorem dX1_letQuit_59 : decode cX1_letQuit 59 = .ok (.dup, 1) := by decide +kernel
theorem dX1_letQuit_60 : decode cX1_letQuit 60 = .ok (.getfield 89, 3) := by decide +kernel
theorem dX1_letQuit_63 : decode cX1_letQuit 63 = .ok (.iload_n 3, 1) := by decide +kernel
theorem dX1_letQuit_64 : decode cX1_letQuit 64 = .ok (.isub, 1) := by decide +kernel
theorem dX1_letQuit_65 : decode cX1_letQuit 65 = .ok (.putfield 89, 3) := by decide +kernel
theorem dX1_letQuit_68 : decode cX1_letQuit 68 = .ok (.aload_n 0, 1) := by decide +kernel
theorem dX1_letQuit_69 : decode cX1_letQuit 69 = .ok (.invokevirtual 77, 3) := by decide +kernel
theorem dX1_letQuit_72 : decode cX1_letQuit 72 = .ok (.iload_n 3, 1) := by decide +kernel
theorem dX1_letQuit_73 : decode cX1_letQuit 73 = .ok (.ireturn, 1) := by decide +kernel
theorem dX1_cancelMorning_0 : decode cX1_cancelMorning 0 = .ok (.iconst 0, 1) := by decide +kernel
theorem dX1_cancelMorning_1 : decode cX1_cancelMorning 1 = .ok (.istore_n 3, 1) := by decide +kernel
theorem dX1_cancelMorning_2 : decode cX1_cancelMorning 2 = .ok (.iconst 0, 1) := by decide +kernel
theorem dX1_cancelMorning_3 : decode cX1_cancelMorning 3 = .ok (.istore 4, 2) := by decide +kernel
theorem dX1_cancelMorning_5 : decode cX1_cancelMorning 5 = .ok (.iload 4, 2) := by decide +kernel
theorem dX1_cancelMorning_7 : decode cX1_cancelMorning 7 = .ok (.iconst 2, 1) := by decide +kernel
theorem dX1_cancelMorning_8 : decode cX1_cancelMorning 8 = .ok (.if_icmp .ge 75, 3) := by decide +kernel
theorem dX1_cancelMorning_11 : decode cX1_cancelMorning 11 = .ok (.iload_n 1, 1) := by decide +kernel
theorem dX1_cancelMorning_12 : decode cX1_cancelMorning 12 = .ok (.iload_n 2, 1) := by decide +kernel
theorem dX1_cancelMorning_13 : decode cX1_cancelMorning 13 = .ok (.iload 4, 2) := by decide +kernel
theorem dX1_cancelMorning_15 : decode cX1_cancelMorning 15 = .ok (.invokestatic 106, 3) := by decide +kernel
theorem dX1_cancelMorning_18 : decode cX1_cancelMorning 18 = .ok (.istore 5, 2) := by decide +kernel
theorem dX1_cancelMorning_20 : decode cX1_cancelMorning 20 = .ok (.aload_n 0, 1) := by decide +kernel
theorem dX1_cancelMorning_21 : decode cX1_cancelMorning 21 = .ok (.getfield 34, 3) := by decide +kernel
theorem dX1_cancelMorning_24 : decode cX1_cancelMorning 24 = .ok (.iload 5, 2) := by decide +kernel
theorem dX1_cancelMorning_26 : decode cX1_cancelMorning 26 = .ok (.iaload, 1) := by decide +kernel
theorem dX1_cancelMorning_27 : decode cX1_cancelMorning 27 = .ok (.istore 6, 2) := by decide +kernel
theorem dX1_cancelMorning_29 : decode cX1_cancelMorning 29 = .ok (.aload_n 0, 1) := by decide +kernel
theorem dX1_cancelMorning_30 : decode cX1_cancelMorning 30 = .ok (.getfield 34, 3) := by decide +kernel
theorem dX1_cancelMorning_33 : decode cX1_cancelMorning 33 = .ok (.iload 5, 2) := by decide +kernel
theorem dX1_cancelMorning_35 : decode cX1_cancelMorning 35 = .ok (.bipush (-2), 2) := by decide +kernel
theorem dX1_cancelMorning_37 : decode cX1_cancelMorning 37 = .ok (.iastore, 1) := by decide +kernel
theorem dX1_cancelMorning_38 : decode cX1_cancelMorning 38 = .ok (.aload_n 0, 1) := by decide +kernel
theorem dX1_cancelMorning_39 : decode cX1_cancelMorning 39 = .ok (.iload 6, 2) := by decide +kernel
theorem dX1_cancelMorning_41 : decode cX1_cancelMorning 41 = .ok (.invokevirtual 110, 3) := by decide +kernel
theorem dX1_cancelMorning_44 : decode cX1_cancelMorning 44 = .ok (.ifCond .eq 33, 3) := by decide +kernel
theorem dX1_cancelMorning_47 : decode cX1_cancelMorning 47 = .ok (.aload_n 0, 1) := by decide +kernel
theorem dX1_cancelMorning_48 : decode cX1_cancelMorning 48 = .ok (.getfield 39, 3) := by decide +kernel
theorem dX1_cancelMorning_51 : decode cX1_cancelMorning 51 = .ok (.iload 6, 2) := by decide +kernel
theorem dX1_cancelMorning_53 : decode cX1_cancelMorning 53 = .ok (.aaload, 1) := by decide +kernel
theorem dX1_cancelMorning_54 : decode cX1_cancelMorning 54 = .ok (.dup, 1) := by decide +kernel
theorem dX1_cancelMorning_55 : decode cX1_cancelMorning 55 = .ok (.getfield 114, 3) := by decide +kernel
theorem dX1_cancelMorning_58 : decode cX1_cancelMorning 58 = .ok (.iconst 1, 1) := by decide +kernel
theorem dX1_cancelMorning_59 : decode cX1_cancelMorning 59 = .ok (.iadd, 1) := by decide +kernel
theorem dX1_cancelMorning_60 : decode cX1_cancelMorning 60 = .ok (.putfield 114, 3) := by decide +kernel
theorem dX1_cancelMorning_63 : decode cX1_cancelMorning 63 = .ok (.aload_n 0, 1) := by decide +kernel
theorem dX1_cancelMorning_64 : decode cX1_cancelMorning 64 = .ok (.aload_n 0, 1) := by decide +kernel
theorem dX1_cancelMorning_65 : decode cX1_cancelMorning 65 = .ok (.getfield 39, 3) := by decide +kernel
theorem dX1_cancelMorning_68 : decode cX1_cancelMorning 68 = .ok (.iload 6, 2) := by decide +kernel
theorem dX1_cancelMorning_70 : decode cX1_cancelMorning 70 = .ok (.aaload, 1) := by decide +kernel
theorem dX1_cancelMorning_71 : decode cX1_cancelMorning 71 = .ok (.invokevirtual 92, 3) := by decide +kernel
theorem dX1_cancelMorning_74 : decode cX1_cancelMorning 74 = .ok (.iinc 3 1, 3) := by decide +kernel
theorem dX1_cancelMorning_77 : decode cX1_cancelMorning 77 = .ok (.iinc 4 1, 3) := by decide +kernel
theorem dX1_cancelMorning_80 : decode cX1_cancelMorning 80 = .ok (.goto (-75), 3) := by decide +kernel
theorem dX1_cancelMorning_83 : decode cX1_cancelMorning 83 = .ok (.aload_n 0, 1) := by decide +kernel
theorem dX1_cancelMorning_84 : decode cX1_cancelMorning 84 = .ok (.getfield 45, 3) := by decide +kernel
theorem dX1_cancelMorning_87 : decode cX1_cancelMorning 87 = .ok (.iload_n 1, 1) := by decide +kernel
theorem dX1_cancelMorning_88 : decode cX1_cancelMorning 88 = .ok (.aaload, 1) := by decide +kernel
theorem dX1_cancelMorning_89 : decode cX1_cancelMorning 89 = .ok (.dup, 1) := by decide +kernel
theorem dX1_cancelMorning_90 : decode cX1_cancelMorning 90 = .ok (.getfield 117, 3) := by decide +kernel
theorem dX1_cancelMorning_93 : decode cX1_cancelMorning 93 = .ok (.iconst 1, 1) := by decide +kernel
theorem dX1_cancelMorning_94 : decode cX1_cancelMorning 94 = .ok (.iadd, 1) := by decide +kernel
theorem dX1_cancelMorning_95 : decode cX1_cancelMorning 95 = .ok (.putfield 117, 3) := by decide +kernel
theorem dX1_cancelMorning_98 : decode cX1_cancelMorning 98 = .ok (.aload_n 0, 1) := by decide +kernel
theorem dX1_cancelMorning_99 : decode cX1_cancelMorning 99 = .ok (.invokevirtual 77, 3) := by decide +kernel
theorem dX1_cancelMorning_102 : decode cX1_cancelMorning 102 = .ok (.iload_n 3, 1) := by decide +kernel
theorem dX1_cancelMorning_103 : decode cX1_cancelMorning 103 = .ok (.ireturn, 1) := by decide +kernel
theorem dX1_mayBeTested_0 : decode cX1_mayBeTested 0 = .ok (.aload_n 0, 1) := by decide +kernel
theorem dX1_mayBeTested_1 : decode cX1_mayBeTested 1 = .ok (.iload_n 1, 1) := by decide +kernel
theorem dX1_mayBeTested_2 : decode cX1_mayBeTested 2 = .ok (.invokevirtual 95, 3) := by decide +kernel
theorem dX1_mayBeTested_5 : decode cX1_mayBeTested 5 = .ok (.iconst 0, 1) := by decide +kernel
theorem dX1_mayBeTested_6 : decode cX1_mayBeTested 6 = .ok (.invokestatic 99, 3) := by decide +kernel
theorem dX1_mayBeTested_9 : decode cX1_mayBeTested 9 = .ok (.ifCond .ne 7, 3) := by decide +kernel
theorem dX1_mayBeTested_12 : decode cX1_mayBeTested 12 = .ok (.iconst 1, 1) := by decide +kernel
theorem dX1_mayBeTested_13 : decode cX1_mayBeTested 13 = .ok (.goto 4, 3) := by decide +kernel
theorem dX1_mayBeTested_16 : decode cX1_mayBeTested 16 = .ok (.iconst 0, 1) := by decide +kernel
theorem dX1_mayBeTested_17 : decode cX1_mayBeTested 17 = .ok (.ireturn, 1) := by decide +kernel
theorem dX1_holdTest_0 : decode cX1_holdTest 0 = .ok (.aload_n 0, 1) := by decide +kernel
theorem dX1_holdTest_1 : decode cX1_holdTest 1 = .ok (.getfield 39, 3) := by decide +kernel
theorem dX1_holdTest_4 : decode cX1_holdTest 4 = .ok (.iload_n 1, 1) := by decide +kernel
theorem dX1_holdTest_5 : decode cX1_holdTest 5 = .ok (.aaload, 1) := by decide +kernel
theorem dX1_holdTest_6 : decode cX1_holdTest 6 = .ok (.astore_n 3, 1) := by decide +kernel
theorem dX1_holdTest_7 : decode cX1_holdTest 7 = .ok (.aload_n 0, 1) := by decide +kernel
theorem dX1_holdTest_8 : decode cX1_holdTest 8 = .ok (.iload_n 1, 1) := by decide +kernel
theorem dX1_holdTest_9 : decode cX1_holdTest 9 = .ok (.invokevirtual 95, 3) := by decide +kernel
theorem dX1_holdTest_12 : decode cX1_holdTest 12 = .ok (.istore 4, 2) := by decide +kernel
theorem dX1_holdTest_14 : decode cX1_holdTest 14 = .ok (.iload 4, 2) := by decide +kernel
theorem dX1_holdTest_16 : decode cX1_holdTest 16 = .ok (.iconst (-1), 1) := by decide +kernel
theorem dX1_holdTest_17 : decode cX1_holdTest 17 = .ok (.if_icmp .ne 5, 3) := by decide +kernel
theorem dX1_holdTest_20 : decode cX1_holdTest 20 = .ok (.iconst (-1), 1) := by decide +kernel
theorem dX1_holdTest_21 : decode cX1_holdTest 21 = .ok (.ireturn, 1) := by decide +kernel
theorem dX1_holdTest_22 : decode cX1_holdTest 22 = .ok (.iload 4, 2) := by decide +kernel
theorem dX1_holdTest_24 : decode cX1_holdTest 24 = .ok (.invokestatic 120, 3) := by decide +kernel
theorem dX1_holdTest_27 : decode cX1_holdTest 27 = .ok (.istore 5, 2) := by decide +kernel
theorem dX1_holdTest_29 : decode cX1_holdTest 29 = .ok (.aload_n 0, 1) := by decide +kernel
theorem dX1_holdTest_30 : decode cX1_holdTest 30 = .ok (.iload_n 1, 1) := by decide +kernel
theorem dX1_holdTest_31 : decode cX1_holdTest 31 = .ok (.iload 5, 2) := by decide +kernel
theorem dX1_holdTest_33 : decode cX1_holdTest 33 = .ok (.invokevirtual 123, 3) := by decide +kernel
theorem dX1_holdTest_36 : decode cX1_holdTest 36 = .ok (.istore 6, 2) := by decide +kernel
theorem dX1_holdTest_38 : decode cX1_holdTest 38 = .ok (.aload_n 0, 1) := by decide +kernel
theorem dX1_holdTest_39 : decode cX1_holdTest 39 = .ok (.getfield 34, 3) := by decide +kernel
theorem dX1_holdTest_42 : decode cX1_holdTest 42 = .ok (.iload 4, 2) := by decide +kernel
theorem dX1_holdTest_44 : decode cX1_holdTest 44 = .ok (.bipush (-2), 2) := by decide +kernel
theorem dX1_holdTest_46 : decode cX1_holdTest 46 = .ok (.iastore, 1) := by decide +kernel
theorem dX1_holdTest_47 : decode cX1_holdTest 47 = .ok (.aload_n 0, 1) := by decide +kernel
theorem dX1_holdTest_48 : decode cX1_holdTest 48 = .ok (.getfield 45, 3) := by decide +kernel
theorem dX1_holdTest_51 : decode cX1_holdTest 51 = .ok (.iload 5, 2) := by decide +kernel
theorem dX1_holdTest_53 : decode cX1_holdTest 53 = .ok (.aaload, 1) := by decide +kernel
theorem dX1_holdTest_54 : decode cX1_holdTest 54 = .ok (.getfield 126, 3) := by decide +kernel
theorem dX1_holdTest_57 : decode cX1_holdTest 57 = .ok (.iload 6, 2) := by decide +kernel
theorem dX1_holdTest_59 : decode cX1_holdTest 59 = .ok (.dup2, 1) := by decide +kernel
theorem dX1_holdTest_60 : decode cX1_holdTest 60 = .ok (.iaload, 1) := by decide +kernel
theorem dX1_holdTest_61 : decode cX1_holdTest 61 = .ok (.iconst 1, 1) := by decide +kernel
theorem dX1_holdTest_62 : decode cX1_holdTest 62 = .ok (.iadd, 1) := by decide +kernel
theorem dX1_holdTest_63 : decode cX1_holdTest 63 = .ok (.iastore, 1) := by decide +kernel
theorem dX1_holdTest_64 : decode cX1_holdTest 64 = .ok (.aload_n 3, 1) := by decide +kernel
theorem dX1_holdTest_65 : decode cX1_holdTest 65 = .ok (.iload 6, 2) := by decide +kernel
theorem dX1_holdTest_67 : decode cX1_holdTest 67 = .ok (.putfield 129, 3) := by decide +kernel
theorem dX1_holdTest_70 : decode cX1_holdTest 70 = .ok (.aload_n 3, 1) := by decide +kernel
theorem dX1_holdTest_71 : decode cX1_holdTest 71 = .ok (.iload 5, 2) := by decide +kernel
theorem dX1_holdTest_73 : decode cX1_holdTest 73 = .ok (.putfield 132, 3) := by decide +kernel
theorem dX1_holdTest_76 : decode cX1_holdTest 76 = .ok (.iload_n 2, 1) := by decide +kernel
theorem dX1_holdTest_77 : decode cX1_holdTest 77 = .ok (.ifCond .eq 27, 3) := by decide +kernel
theorem dX1_holdTest_80 : decode cX1_holdTest 80 = .ok (.aload_n 0, 1) := by decide +kernel
theorem dX1_holdTest_81 : decode cX1_holdTest 81 = .ok (.getfield 45, 3) := by decide +kernel
theorem dX1_holdTest_84 : decode cX1_holdTest 84 = .ok (.iload 5, 2) := by decide +kernel
theorem dX1_holdTest_86 : decode cX1_holdTest 86 = .ok (.aaload, 1) := by decide +kernel
theorem dX1_holdTest_87 : decode cX1_holdTest 87 = .ok (.dup, 1) := by decide +kernel
theorem dX1_holdTest_88 : decode cX1_holdTest 88 = .ok (.getfield 135, 3) := by decide +kernel
theorem dX1_holdTest_91 : decode cX1_holdTest 91 = .ok (.iconst 1, 1) := by decide +kernel
theorem dX1_holdTest_92 : decode cX1_holdTest 92 = .ok (.iadd, 1) := by decide +kernel
theorem dX1_holdTest_93 : decode cX1_holdTest 93 = .ok (.putfield 135, 3) := by decide +kernel
theorem dX1_holdTest_96 : decode cX1_holdTest 96 = .ok (.aload_n 3, 1) := by decide +kernel
theorem dX1_holdTest_97 : decode cX1_holdTest 97 = .ok (.iconst 3, 1) := by decide +kernel
theorem dX1_holdTest_98 : decode cX1_holdTest 98 = .ok (.putfield 83, 3) := by decide +kernel
theorem dX1_holdTest_101 : decode cX1_holdTest 101 = .ok (.goto 43, 3) := by decide +kernel
theorem dX1_holdTest_104 : decode cX1_holdTest 104 = .ok (.aload_n 3, 1) := by decide +kernel
theorem dX1_holdTest_105 : decode cX1_holdTest 105 = .ok (.dup, 1) := by decide +kernel
theorem dX1_holdTest_106 : decode cX1_holdTest 106 = .ok (.getfield 138, 3) := by decide +kernel
theorem dX1_holdTest_109 : decode cX1_holdTest 109 = .ok (.iconst 1, 1) := by decide +kernel
theorem dX1_holdTest_110 : decode cX1_holdTest 110 = .ok (.iadd, 1) := by decide +kernel
theorem dX1_holdTest_111 : decode cX1_holdTest 111 = .ok (.putfield 138, 3) := by decide +kernel
theorem dX1_holdTest_114 : decode cX1_holdTest 114 = .ok (.aload_n 3, 1) := by decide +kernel
theorem dX1_holdTest_115 : decode cX1_holdTest 115 = .ok (.iconst 0, 1) := by decide +kernel
theorem dX1_holdTest_116 : decode cX1_holdTest 116 = .ok (.putfield 83, 3) := by decide +kernel
theorem dX1_holdTest_119 : decode cX1_holdTest 119 = .ok (.aload_n 3, 1) := by decide +kernel
theorem dX1_holdTest_120 : decode cX1_holdTest 120 = .ok (.aload_n 0, 1) := by decide +kernel
theorem dX1_holdTest_121 : decode cX1_holdTest 121 = .ok (.getfield 9, 3) := by decide +kernel
theorem dX1_holdTest_124 : decode cX1_holdTest 124 = .ok (.aload_n 0, 1) := by decide +kernel
theorem dX1_holdTest_125 : decode cX1_holdTest 125 = .ok (.getfield 31, 3) := by decide +kernel
theorem dX1_holdTest_128 : decode cX1_holdTest 128 = .ok (.iconst 0, 1) := by decide +kernel
theorem dX1_holdTest_129 : decode cX1_holdTest 129 = .ok (.iaload, 1) := by decide +kernel
theorem dX1_holdTest_130 : decode cX1_holdTest 130 = .ok (.aload_n 3, 1) := by decide +kernel
theorem dX1_holdTest_131 : decode cX1_holdTest 131 = .ok (.getfield 138, 3) := by decide +kernel
theorem dX1_holdTest_134 : decode cX1_holdTest 134 = .ok (.imul, 1) := by decide +kernel
theorem dX1_holdTest_135 : decode cX1_holdTest 135 = .ok (.bipush 60, 2) := by decide +kernel
theorem dX1_holdTest_137 : decode cX1_holdTest 137 = .ok (.invokestatic 141, 3) := by decide +kernel
theorem dX1_holdTest_140 : decode cX1_holdTest 140 = .ok (.iadd, 1) := by decide +kernel
theorem dX1_holdTest_141 : decode cX1_holdTest 141 = .ok (.putfield 80, 3) := by decide +kernel
theorem dX1_holdTest_144 : decode cX1_holdTest 144 = .ok (.iload 6, 2) := by decide +kernel
theorem dX1_holdTest_146 : decode cX1_holdTest 146 = .ok (.ireturn, 1) := by decide +kernel
theorem dX1_mayGoOn_0 : decode cX1_mayGoOn 0 = .ok (.aload_n 0, 1) := by decide +kernel
theorem dX1_mayGoOn_1 : decode cX1_mayGoOn 1 = .ok (.getfield 9, 3) := by decide +kernel
theorem dX1_mayGoOn_4 : decode cX1_mayGoOn 4 = .ok (.sipush 9999, 3) := by decide +kernel
theorem dX1_mayGoOn_7 : decode cX1_mayGoOn 7 = .ok (.if_icmp .ge 7, 3) := by decide +kernel
theorem dX1_mayGoOn_10 : decode cX1_mayGoOn 10 = .ok (.iconst 1, 1) := by decide +kernel
theorem dX1_mayGoOn_11 : decode cX1_mayGoOn 11 = .ok (.goto 4, 3) := by decide +kernel
theorem dX1_mayGoOn_14 : decode cX1_mayGoOn 14 = .ok (.iconst 0, 1) := by decide +kernel
theorem dX1_mayGoOn_15 : decode cX1_mayGoOn 15 = .ok (.ireturn, 1) := by decide +kernel
theorem dX1_goOn_0 : decode cX1_goOn 0 = .ok (.iconst 0, 1) := by decide +kernel
theorem dX1_goOn_1 : decode cX1_goOn 1 = .ok (.istore_n 1, 1) := by decide +kernel
theorem dX1_goOn_2 : decode cX1_goOn 2 = .ok (.iconst 0, 1) := by decide +kernel
theorem dX1_goOn_3 : decode cX1_goOn 3 = .ok (.istore_n 2, 1) := by decide +kernel
theorem dX1_goOn_4 : decode cX1_goOn 4 = .ok (.iload_n 2, 1) := by decide +kernel
theorem dX1_goOn_5 : decode cX1_goOn 5 = .ok (.bipush 16, 2) := by decide +kernel
theorem dX1_goOn_7 : decode cX1_goOn 7 = .ok (.if_icmp .ge 40, 3) := by decide +kernel
theorem dX1_goOn_10 : decode cX1_goOn 10 = .ok (.aload_n 0, 1) := by decide +kernel
theorem dX1_goOn_11 : decode cX1_goOn 11 = .ok (.aload_n 0, 1) := by decide +kernel
theorem dX1_goOn_12 : decode cX1_goOn 12 = .ok (.getfield 34, 3) := by decide +kernel
theorem dX1_goOn_15 : decode cX1_goOn 15 = .ok (.iload_n 2, 1) := by decide +kernel
theorem dX1_goOn_16 : decode cX1_goOn 16 = .ok (.iaload, 1) := by decide +kernel
theorem dX1_goOn_17 : decode cX1_goOn 17 = .ok (.invokevirtual 110, 3) := by decide +kernel
theorem dX1_goOn_20 : decode cX1_goOn 20 = .ok (.ifCond .eq 21, 3) := by decide +kernel
theorem dX1_goOn_23 : decode cX1_goOn 23 = .ok (.aload_n 0, 1) := by decide +kernel
theorem dX1_goOn_24 : decode cX1_goOn 24 = .ok (.getfield 39, 3) := by decide +kernel
theorem dX1_goOn_27 : decode cX1_goOn 27 = .ok (.aload_n 0, 1) := by decide +kernel
theorem dX1_goOn_28 : decode cX1_goOn 28 = .ok (.getfield 34, 3) := by decide +kernel
theorem dX1_goOn_31 : decode cX1_goOn 31 = .ok (.iload_n 2, 1) := by decide +kernel
theorem dX1_goOn_32 : decode cX1_goOn 32 = .ok (.iaload, 1) := by decide +kernel
theorem dX1_goOn_33 : decode cX1_goOn 33 = .ok (.aaload, 1) := by decide +kernel
theorem dX1_goOn_34 : decode cX1_goOn 34 = .ok (.iconst 0, 1) := by decide +kernel
theorem dX1_goOn_35 : decode cX1_goOn 35 = .ok (.putfield 83, 3) := by decide +kernel
theorem dX1_goOn_38 : decode cX1_goOn 38 = .ok (.iinc 1 1, 3) := by decide +kernel
theorem dX1_goOn_41 : decode cX1_goOn 41 = .ok (.iinc 2 1, 3) := by decide +kernel
theorem dX1_goOn_44 : decode cX1_goOn 44 = .ok (.goto (-40), 3) := by decide +kernel
theorem dX1_goOn_47 : decode cX1_goOn 47 = .ok (.aload_n 0, 1) := by decide +kernel
theorem dX1_goOn_48 : decode cX1_goOn 48 = .ok (.dup, 1) := by decide +kernel
theorem dX1_goOn_49 : decode cX1_goOn 49 = .ok (.getfield 24, 3) := by decide +kernel
theorem dX1_goOn_52 : decode cX1_goOn 52 = .ok (.iload_n 1, 1) := by decide +kernel
theorem dX1_goOn_53 : decode cX1_goOn 53 = .ok (.iadd, 1) := by decide +kernel
theorem dX1_goOn_54 : decode cX1_goOn 54 = .ok (.putfield 24, 3) := by decide +kernel
theorem dX1_goOn_57 : decode cX1_goOn 57 = .ok (.aload_n 0, 1) := by decide +kernel
theorem dX1_goOn_58 : decode cX1_goOn 58 = .ok (.dup, 1) := by decide +kernel
theorem dX1_goOn_59 : decode cX1_goOn 59 = .ok (.getfield 9, 3) := by decide +kernel
theorem dX1_goOn_62 : decode cX1_goOn 62 = .ok (.iconst 1, 1) := by decide +kernel
theorem dX1_goOn_63 : decode cX1_goOn 63 = .ok (.iadd, 1) := by decide +kernel
theorem dX1_goOn_64 : decode cX1_goOn 64 = .ok (.putfield 9, 3) := by decide +kernel
theorem dX1_goOn_67 : decode cX1_goOn 67 = .ok (.aload_n 0, 1) := by decide +kernel
theorem dX1_goOn_68 : decode cX1_goOn 68 = .ok (.getfield 34, 3) := by decide +kernel
theorem dX1_goOn_71 : decode cX1_goOn 71 = .ok (.bipush 16, 2) := by decide +kernel
theorem dX1_goOn_73 : decode cX1_goOn 73 = .ok (.aload_n 0, 1) := by decide +kernel
theorem dX1_goOn_74 : decode cX1_goOn 74 = .ok (.getfield 34, 3) := by decide +kernel
theorem dX1_goOn_77 : decode cX1_goOn 77 = .ok (.iconst 0, 1) := by decide +kernel
theorem dX1_goOn_78 : decode cX1_goOn 78 = .ok (.aload_n 0, 1) := by decide +kernel
theorem dX1_goOn_79 : decode cX1_goOn 79 = .ok (.getfield 34, 3) := by decide +kernel
theorem dX1_goOn_82 : decode cX1_goOn 82 = .ok (.arraylength, 1) := by decide +kernel
theorem dX1_goOn_83 : decode cX1_goOn 83 = .ok (.bipush 16, 2) := by decide +kernel
theorem dX1_goOn_85 : decode cX1_goOn 85 = .ok (.isub, 1) := by decide +kernel
theorem dX1_goOn_86 : decode cX1_goOn 86 = .ok (.invokestatic 52, 3) := by decide +kernel
theorem dX1_goOn_89 : decode cX1_goOn 89 = .ok (.iconst 0, 1) := by decide +kernel
theorem dX1_goOn_90 : decode cX1_goOn 90 = .ok (.istore_n 2, 1) := by decide +kernel
theorem dX1_goOn_91 : decode cX1_goOn 91 = .ok (.iload_n 2, 1) := by decide +kernel
theorem dX1_goOn_92 : decode cX1_goOn 92 = .ok (.aload_n 0, 1) := by decide +kernel
theorem dX1_goOn_93 : decode cX1_goOn 93 = .ok (.getfield 15, 3) := by decide +kernel
theorem dX1_goOn_96 : decode cX1_goOn 96 = .ok (.if_icmp .ge 16, 3) := by decide +kernel
theorem dX1_goOn_99 : decode cX1_goOn 99 = .ok (.aload_n 0, 1) := by decide +kernel
theorem dX1_goOn_100 : decode cX1_goOn 100 = .ok (.iload_n 2, 1) := by decide +kernel
theorem dX1_goOn_101 : decode cX1_goOn 101 = .ok (.bipush 9, 2) := by decide +kernel
theorem dX1_goOn_103 : decode cX1_goOn 103 = .ok (.invokevirtual 73, 3) := by decide +kernel
theorem dX1_goOn_106 : decode cX1_goOn 106 = .ok (.iinc 2 1, 3) := by decide +kernel
theorem dX1_goOn_109 : decode cX1_goOn 109 = .ok (.goto (-18), 3) := by decide +kernel
theorem dX1_goOn_112 : decode cX1_goOn 112 = .ok (.aload_n 0, 1) := by decide +kernel
theorem dX1_goOn_113 : decode cX1_goOn 113 = .ok (.invokevirtual 77, 3) := by decide +kernel
theorem dX1_goOn_116 : decode cX1_goOn 116 = .ok (.iload_n 1, 1) := by decide +kernel
theorem dX1_goOn_117 : decode cX1_goOn 117 = .ok (.ireturn, 1) := by decide +kernel
theorem dX1_freeSlotsOf_0 : decode cX1_freeSlotsOf 0 = .ok (.iconst 0, 1) := by decide +kernel
theorem dX1_freeSlotsOf_1 : decode cX1_freeSlotsOf 1 = .ok (.istore_n 3, 1) := by decide +kernel
theorem dX1_freeSlotsOf_2 : decode cX1_freeSlotsOf 2 = .ok (.iload_n 3, 1) := by decide +kernel
theorem dX1_freeSlotsOf_3 : decode cX1_freeSlotsOf 3 = .ok (.iconst 4, 1) := by decide +kernel
theorem dX1_freeSlotsOf_4 : decode cX1_freeSlotsOf 4 = .ok (.if_icmp .ge 21, 3) := by decide +kernel
theorem dX1_freeSlotsOf_7 : decode cX1_freeSlotsOf 7 = .ok (.aload_n 0, 1) := by decide +kernel
theorem dX1_freeSlotsOf_8 : decode cX1_freeSlotsOf 8 = .ok (.getfield 34, 3) := by decide +kernel
theorem dX1_freeSlotsOf_11 : decode cX1_freeSlotsOf 11 = .ok (.iload_n 1, 1) := by decide +kernel
theorem dX1_freeSlotsOf_12 : decode cX1_freeSlotsOf 12 = .ok (.iload_n 2, 1) := by decide +kernel
theorem dX1_freeSlotsOf_13 : decode cX1_freeSlotsOf 13 = .ok (.iload_n 3, 1) := by decide +kernel
theorem dX1_freeSlotsOf_14 : decode cX1_freeSlotsOf 14 = .ok (.invokestatic 106, 3) := by decide +kernel
theorem dX1_freeSlotsOf_17 : decode cX1_freeSlotsOf 17 = .ok (.iconst (-1), 1) := by decide +kernel
theorem dX1_freeSlotsOf_18 : decode cX1_freeSlotsOf 18 = .ok (.iastore, 1) := by decide +kernel
theorem dX1_freeSlotsOf_19 : decode cX1_freeSlotsOf 19 = .ok (.iinc 3 1, 3) := by decide +kernel
theorem dX1_freeSlotsOf_22 : decode cX1_freeSlotsOf 22 = .ok (.goto (-20), 3) := by decide +kernel
theorem dX1_freeSlotsOf_25 : decode cX1_freeSlotsOf 25 = .ok (.return_, 1) := by decide +kernel
theorem dX1_beginToWait_0 : decode cX1_beginToWait 0 = .ok (.aload_n 1, 1) := by decide +kernel
theorem dX1_beginToWait_1 : decode cX1_beginToWait 1 = .ok (.iconst 1, 1) := by decide +kernel
theorem dX1_beginToWait_2 : decode cX1_beginToWait 2 = .ok (.putfield 83, 3) := by decide +kernel
theorem dX1_beginToWait_5 : decode cX1_beginToWait 5 = .ok (.aload_n 1, 1) := by decide +kernel
theorem dX1_beginToWait_6 : decode cX1_beginToWait 6 = .ok (.aload_n 0, 1) := by decide +kernel
theorem dX1_beginToWait_7 : decode cX1_beginToWait 7 = .ok (.getfield 21, 3) := by decide +kernel
theorem dX1_beginToWait_10 : decode cX1_beginToWait 10 = .ok (.putfield 146, 3) := by decide +kernel
theorem dX1_beginToWait_13 : decode cX1_beginToWait 13 = .ok (.aload_n 0, 1) := by decide +kernel
theorem dX1_beginToWait_14 : decode cX1_beginToWait 14 = .ok (.dup, 1) := by decide +kernel
theorem dX1_beginToWait_15 : decode cX1_beginToWait 15 = .ok (.getfield 21, 3) := by decide +kernel
theorem dX1_beginToWait_18 : decode cX1_beginToWait 18 = .ok (.iconst 1, 1) := by decide +kernel
theorem dX1_beginToWait_19 : decode cX1_beginToWait 19 = .ok (.iadd, 1) := by decide +kernel
theorem dX1_beginToWait_20 : decode cX1_beginToWait 20 = .ok (.putfield 21, 3) := by decide +kernel
theorem dX1_beginToWait_23 : decode cX1_beginToWait 23 = .ok (.return_, 1) := by decide +kernel
theorem dX1_giveSlotsOut_0 : decode cX1_giveSlotsOut 0 = .ok (.aload_n 0, 1) := by decide +kernel
theorem dX1_giveSlotsOut_1 : decode cX1_giveSlotsOut 1 = .ok (.getfield 49, 3) := by decide +kernel
theorem dX1_giveSlotsOut_4 : decode cX1_giveSlotsOut 4 = .ok (.iconst (-1), 1) := by decide +kernel
theorem dX1_giveSlotsOut_5 : decode cX1_giveSlotsOut 5 = .ok (.invokestatic 58, 3) := by decide +kernel
theorem dX1_giveSlotsOut_8 : decode cX1_giveSlotsOut 8 = .ok (.iconst 0, 1) := by decide +kernel
theorem dX1_giveSlotsOut_9 : decode cX1_giveSlotsOut 9 = .ok (.istore_n 1, 1) := by decide +kernel
theorem dX1_giveSlotsOut_10 : decode cX1_giveSlotsOut 10 = .ok (.iload_n 1, 1) := by decide +kernel
theorem dX1_giveSlotsOut_11 : decode cX1_giveSlotsOut 11 = .ok (.aload_n 0, 1) := by decide +kernel
theorem dX1_giveSlotsOut_12 : decode cX1_giveSlotsOut 12 = .ok (.getfield 18, 3) := by decide +kernel
theorem dX1_giveSlotsOut_15 : decode cX1_giveSlotsOut 15 = .ok (.if_icmp .ge 35, 3) := by decide +kernel
theorem dX1_giveSlotsOut_18 : decode cX1_giveSlotsOut 18 = .ok (.aload_n 0, 1) := by decide +kernel
theorem dX1_giveSlotsOut_19 : decode cX1_giveSlotsOut 19 = .ok (.iload_n 1, 1) := by decide +kernel
theorem dX1_giveSlotsOut_20 : decode cX1_giveSlotsOut 20 = .ok (.invokevirtual 149, 3) := by decide +kernel
theorem dX1_giveSlotsOut_23 : decode cX1_giveSlotsOut 23 = .ok (.istore_n 2, 1) := by decide +kernel
theorem dX1_giveSlotsOut_24 : decode cX1_giveSlotsOut 24 = .ok (.iload_n 2, 1) := by decide +kernel
theorem dX1_giveSlotsOut_25 : decode cX1_giveSlotsOut 25 = .ok (.ifCond .lt 19, 3) := by decide +kernel
theorem dX1_giveSlotsOut_28 : decode cX1_giveSlotsOut 28 = .ok (.iload_n 2, 1) := by decide +kernel
theorem dX1_giveSlotsOut_29 : decode cX1_giveSlotsOut 29 = .ok (.aload_n 0, 1) := by decide +kernel
theorem dX1_giveSlotsOut_30 : decode cX1_giveSlotsOut 30 = .ok (.getfield 49, 3) := by decide +kernel
theorem dX1_giveSlotsOut_33 : decode cX1_giveSlotsOut 33 = .ok (.arraylength, 1) := by decide +kernel
theorem dX1_giveSlotsOut_34 : decode cX1_giveSlotsOut 34 = .ok (.if_icmp .ge 10, 3) := by decide +kernel
theorem dX1_giveSlotsOut_37 : decode cX1_giveSlotsOut 37 = .ok (.aload_n 0, 1) := by decide +kernel
theorem dX1_giveSlotsOut_38 : decode cX1_giveSlotsOut 38 = .ok (.getfield 49, 3) := by decide +kernel
theorem dX1_giveSlotsOut_41 : decode cX1_giveSlotsOut 41 = .ok (.iload_n 2, 1) := by decide +kernel
theorem dX1_giveSlotsOut_42 : decode cX1_giveSlotsOut 42 = .ok (.iload_n 1, 1) := by decide +kernel
theorem dX1_giveSlotsOut_43 : decode cX1_giveSlotsOut 43 = .ok (.iastore, 1) := by decide +kernel
theorem dX1_giveSlotsOut_44 : decode cX1_giveSlotsOut 44 = .ok (.iinc 1 1, 3) := by decide +kernel
theorem dX1_giveSlotsOut_47 : decode cX1_giveSlotsOut 47 = .ok (.goto (-37), 3) := by decide +kernel
theorem dX1_giveSlotsOut_50 : decode cX1_giveSlotsOut 50 = .ok (.iconst 0, 1) := by decide +kernel
theorem dX1_giveSlotsOut_51 : decode cX1_giveSlotsOut 51 = .ok (.istore_n 1, 1) := by decide +kernel
theorem dX1_giveSlotsOut_52 : decode cX1_giveSlotsOut 52 = .ok (.iload_n 1, 1) := by decide +kernel
theorem dX1_giveSlotsOut_53 : decode cX1_giveSlotsOut 53 = .ok (.aload_n 0, 1) := by decide +kernel
theorem dX1_giveSlotsOut_54 : decode cX1_giveSlotsOut 54 = .ok (.getfield 49, 3) := by decide +kernel
theorem dX1_giveSlotsOut_57 : decode cX1_giveSlotsOut 57 = .ok (.arraylength, 1) := by decide +kernel
theorem dX1_giveSlotsOut_58 : decode cX1_giveSlotsOut 58 = .ok (.if_icmp .ge 57, 3) := by decide +kernel
theorem dX1_giveSlotsOut_61 : decode cX1_giveSlotsOut 61 = .ok (.aload_n 0, 1) := by decide +kernel
theorem dX1_giveSlotsOut_62 : decode cX1_giveSlotsOut 62 = .ok (.aload_n 0, 1) := by decide +kernel
theorem dX1_giveSlotsOut_63 : decode cX1_giveSlotsOut 63 = .ok (.getfield 49, 3) := by decide +kernel
theorem dX1_giveSlotsOut_66 : decode cX1_giveSlotsOut 66 = .ok (.iload_n 1, 1) := by decide +kernel
theorem dX1_giveSlotsOut_67 : decode cX1_giveSlotsOut 67 = .ok (.iaload, 1) := by decide +kernel
theorem dX1_giveSlotsOut_68 : decode cX1_giveSlotsOut 68 = .ok (.invokevirtual 110, 3) := by decide +kernel
theorem dX1_giveSlotsOut_71 : decode cX1_giveSlotsOut 71 = .ok (.ifCond .eq 44, 3) := by decide +kernel
theorem dX1_giveSlotsOut_74 : decode cX1_giveSlotsOut 74 = .ok (.aload_n 0, 1) := by decide +kernel
theorem dX1_giveSlotsOut_75 : decode cX1_giveSlotsOut 75 = .ok (.getfield 49, 3) := by decide +kernel
theorem dX1_giveSlotsOut_78 : decode cX1_giveSlotsOut 78 = .ok (.iload_n 1, 1) := by decide +kernel
theorem dX1_giveSlotsOut_79 : decode cX1_giveSlotsOut 79 = .ok (.iaload, 1) := by decide +kernel
theorem dX1_giveSlotsOut_80 : decode cX1_giveSlotsOut 80 = .ok (.istore_n 2, 1) := by decide +kernel
theorem dX1_giveSlotsOut_81 : decode cX1_giveSlotsOut 81 = .ok (.aload_n 0, 1) := by decide +kernel
theorem dX1_giveSlotsOut_82 : decode cX1_giveSlotsOut 82 = .ok (.iload_n 2, 1) := by decide +kernel
theorem dX1_giveSlotsOut_83 : decode cX1_giveSlotsOut 83 = .ok (.invokevirtual 152, 3) := by decide +kernel
theorem dX1_giveSlotsOut_86 : decode cX1_giveSlotsOut 86 = .ok (.istore_n 3, 1) := by decide +kernel
theorem dX1_giveSlotsOut_87 : decode cX1_giveSlotsOut 87 = .ok (.iload_n 3, 1) := by decide +kernel
theorem dX1_giveSlotsOut_88 : decode cX1_giveSlotsOut 88 = .ok (.iconst (-1), 1) := by decide +kernel
theorem dX1_giveSlotsOut_89 : decode cX1_giveSlotsOut 89 = .ok (.if_icmp .eq 20, 3) := by decide +kernel
theorem dX1_giveSlotsOut_92 : decode cX1_giveSlotsOut 92 = .ok (.aload_n 0, 1) := by decide +kernel
theorem dX1_giveSlotsOut_93 : decode cX1_giveSlotsOut 93 = .ok (.getfield 34, 3) := by decide +kernel
theorem dX1_giveSlotsOut_96 : decode cX1_giveSlotsOut 96 = .ok (.iload_n 3, 1) := by decide +kernel
theorem dX1_giveSlotsOut_97 : decode cX1_giveSlotsOut 97 = .ok (.iload_n 2, 1) := by decide +kernel
theorem dX1_giveSlotsOut_98 : decode cX1_giveSlotsOut 98 = .ok (.iastore, 1) := by decide +kernel
theorem dX1_giveSlotsOut_99 : decode cX1_giveSlotsOut 99 = .ok (.aload_n 0, 1) := by decide +kernel
theorem dX1_giveSlotsOut_100 : decode cX1_giveSlotsOut 100 = .ok (.getfield 39, 3) := by decide +kernel
theorem dX1_giveSlotsOut_103 : decode cX1_giveSlotsOut 103 = .ok (.iload_n 2, 1) := by decide +kernel
theorem dX1_giveSlotsOut_104 : decode cX1_giveSlotsOut 104 = .ok (.aaload, 1) := by decide +kernel
theorem dX1_giveSlotsOut_105 : decode cX1_giveSlotsOut 105 = .ok (.iconst 2, 1) := by decide +kernel
theorem dX1_giveSlotsOut_106 : decode cX1_giveSlotsOut 106 = .ok (.putfield 83, 3) := by decide +kernel
theorem dX1_giveSlotsOut_109 : decode cX1_giveSlotsOut 109 = .ok (.iinc 1 1, 3) := by decide +kernel
theorem dX1_giveSlotsOut_112 : decode cX1_giveSlotsOut 112 = .ok (.goto (-60), 3) := by decide +kernel
theorem dX1_giveSlotsOut_115 : decode cX1_giveSlotsOut 115 = .ok (.return_, 1) := by decide +kernel
theorem dX1_placeInQueue_0 : decode cX1_placeInQueue 0 = .ok (.aload_n 0, 1) := by decide +kernel
theorem dX1_placeInQueue_1 : decode cX1_placeInQueue 1 = .ok (.getfield 39, 3) := by decide +kernel
theorem dX1_placeInQueue_4 : decode cX1_placeInQueue 4 = .ok (.iload_n 1, 1) := by decide +kernel
theorem dX1_placeInQueue_5 : decode cX1_placeInQueue 5 = .ok (.aaload, 1) := by decide +kernel
theorem dX1_placeInQueue_6 : decode cX1_placeInQueue 6 = .ok (.astore_n 2, 1) := by decide +kernel
theorem dX1_placeInQueue_7 : decode cX1_placeInQueue 7 = .ok (.aload_n 2, 1) := by decide +kernel
theorem dX1_placeInQueue_8 : decode cX1_placeInQueue 8 = .ok (.getfield 83, 3) := by decide +kernel
theorem dX1_placeInQueue_11 : decode cX1_placeInQueue 11 = .ok (.iconst 1, 1) := by decide +kernel
theorem dX1_placeInQueue_12 : decode cX1_placeInQueue 12 = .ok (.if_icmp .eq 5, 3) := by decide +kernel
theorem dX1_placeInQueue_15 : decode cX1_placeInQueue 15 = .ok (.iconst (-1), 1) := by decide +kernel
theorem dX1_placeInQueue_16 : decode cX1_placeInQueue 16 = .ok (.ireturn, 1) := by decide +kernel
theorem dX1_placeInQueue_17 : decode cX1_placeInQueue 17 = .ok (.iconst 0, 1) := by decide +kernel
theorem dX1_placeInQueue_18 : decode cX1_placeInQueue 18 = .ok (.istore_n 3, 1) := by decide +kernel
theorem dX1_placeInQueue_19 : decode cX1_placeInQueue 19 = .ok (.iconst 0, 1) := by decide +kernel
theorem dX1_placeInQueue_20 : decode cX1_placeInQueue 20 = .ok (.istore 4, 2) := by decide +kernel
theorem dX1_placeInQueue_22 : decode cX1_placeInQueue 22 = .ok (.iload 4, 2) := by decide +kernel
theorem dX1_placeInQueue_24 : decode cX1_placeInQueue 24 = .ok (.aload_n 0, 1) := by decide +kernel
theorem dX1_placeInQueue_25 : decode cX1_placeInQueue 25 = .ok (.getfield 18, 3) := by decide +kernel
theorem dX1_placeInQueue_28 : decode cX1_placeInQueue 28 = .ok (.if_icmp .ge 40, 3) := by decide +kernel
theorem dX1_placeInQueue_31 : decode cX1_placeInQueue 31 = .ok (.aload_n 0, 1) := by decide +kernel
theorem dX1_placeInQueue_32 : decode cX1_placeInQueue 32 = .ok (.getfield 39, 3) := by decide +kernel
theorem dX1_placeInQueue_35 : decode cX1_placeInQueue 35 = .ok (.iload 4, 2) := by decide +kernel
theorem dX1_placeInQueue_37 : decode cX1_placeInQueue 37 = .ok (.aaload, 1) := by decide +kernel
theorem dX1_placeInQueue_38 : decode cX1_placeInQueue 38 = .ok (.getfield 83, 3) := by decide +kernel
theorem dX1_placeInQueue_41 : decode cX1_placeInQueue 41 = .ok (.iconst 1, 1) := by decide +kernel
theorem dX1_placeInQueue_42 : decode cX1_placeInQueue 42 = .ok (.if_icmp .ne 20, 3) := by decide +kernel
theorem dX1_placeInQueue_45 : decode cX1_placeInQueue 45 = .ok (.aload_n 0, 1) := by decide +kernel
theorem dX1_placeInQueue_46 : decode cX1_placeInQueue 46 = .ok (.getfield 39, 3) := by decide +kernel
theorem dX1_placeInQueue_49 : decode cX1_placeInQueue 49 = .ok (.iload 4, 2) := by decide +kernel
theorem dX1_placeInQueue_51 : decode cX1_placeInQueue 51 = .ok (.aaload, 1) := by decide +kernel
theorem dX1_placeInQueue_52 : decode cX1_placeInQueue 52 = .ok (.aload_n 2, 1) := by decide +kernel
theorem dX1_placeInQueue_53 : decode cX1_placeInQueue 53 = .ok (.invokevirtual 155, 3) := by decide +kernel
theorem dX1_placeInQueue_56 : decode cX1_placeInQueue 56 = .ok (.ifCond .eq 6, 3) := by decide +kernel
theorem dX1_placeInQueue_59 : decode cX1_placeInQueue 59 = .ok (.iinc 3 1, 3) := by decide +kernel
theorem dX1_placeInQueue_62 : decode cX1_placeInQueue 62 = .ok (.iinc 4 1, 3) := by decide +kernel
theorem dX1_placeInQueue_65 : decode cX1_placeInQueue 65 = .ok (.goto (-43), 3) := by decide +kernel
theorem dX1_placeInQueue_68 : decode cX1_placeInQueue 68 = .ok (.iload_n 3, 1) := by decide +kernel
theorem dX1_placeInQueue_69 : decode cX1_placeInQueue 69 = .ok (.ireturn, 1) := by decide +kernel
theorem dX1_cellOf_0 : decode cX1_cellOf 0 = .ok (.iconst 0, 1) := by decide +kernel
theorem dX1_cellOf_1 : decode cX1_cellOf 1 = .ok (.istore_n 2, 1) := by decide +kernel
theorem dX1_cellOf_2 : decode cX1_cellOf 2 = .ok (.iload_n 2, 1) := by decide +kernel
theorem dX1_cellOf_3 : decode cX1_cellOf 3 = .ok (.aload_n 0, 1) := by decide +kernel
theorem dX1_cellOf_4 : decode cX1_cellOf 4 = .ok (.getfield 34, 3) := by decide +kernel
theorem dX1_cellOf_7 : decode cX1_cellOf 7 = .ok (.arraylength, 1) := by decide +kernel
theorem dX1_cellOf_8 : decode cX1_cellOf 8 = .ok (.if_icmp .ge 21, 3) := by decide +kernel
theorem dX1_cellOf_11 : decode cX1_cellOf 11 = .ok (.aload_n 0, 1) := by decide +kernel
theorem dX1_cellOf_12 : decode cX1_cellOf 12 = .ok (.getfield 34, 3) := by decide +kernel
theorem dX1_cellOf_15 : decode cX1_cellOf 15 = .ok (.iload_n 2, 1) := by decide +kernel
theorem dX1_cellOf_16 : decode cX1_cellOf 16 = .ok (.iaload, 1) := by decide +kernel
theorem dX1_cellOf_17 : decode cX1_cellOf 17 = .ok (.iload_n 1, 1) := by decide +kernel
theorem dX1_cellOf_18 : decode cX1_cellOf 18 = .ok (.if_icmp .ne 5, 3) := by decide +kernel
theorem dX1_cellOf_21 : decode cX1_cellOf 21 = .ok (.iload_n 2, 1) := by decide +kernel
theorem dX1_cellOf_22 : decode cX1_cellOf 22 = .ok (.ireturn, 1) := by decide +kernel
theorem dX1_cellOf_23 : decode cX1_cellOf 23 = .ok (.iinc 2 1, 3) := by decide +kernel
theorem dX1_cellOf_26 : decode cX1_cellOf 26 = .ok (.goto (-24), 3) := by decide +kernel
theorem dX1_cellOf_29 : decode cX1_cellOf 29 = .ok (.iconst (-1), 1) := by decide +kernel
theorem dX1_cellOf_30 : decode cX1_cellOf 30 = .ok (.ireturn, 1) := by decide +kernel
theorem dX1_earliestCell_0 : decode cX1_earliestCell 0 = .ok (.iconst 0, 1) := by decide +kernel
theorem dX1_earliestCell_1 : decode cX1_earliestCell 1 = .ok (.istore_n 2, 1) := by decide +kernel
theorem dX1_earliestCell_2 : decode cX1_earliestCell 2 = .ok (.iload_n 2, 1) := by decide +kernel
theorem dX1_earliestCell_3 : decode cX1_earliestCell 3 = .ok (.aload_n 0, 1) := by decide +kernel
theorem dX1_earliestCell_4 : decode cX1_earliestCell 4 = .ok (.getfield 34, 3) := by decide +kernel
theorem dX1_earliestCell_7 : decode cX1_earliestCell 7 = .ok (.arraylength, 1) := by decide +kernel
theorem dX1_earliestCell_8 : decode cX1_earliestCell 8 = .ok (.if_icmp .ge 45, 3) := by decide +kernel
theorem dX1_earliestCell_11 : decode cX1_earliestCell 11 = .ok (.aload_n 0, 1) := by decide +kernel
theorem dX1_earliestCell_12 : decode cX1_earliestCell 12 = .ok (.getfield 34, 3) := by decide +kernel
theorem dX1_earliestCell_15 : decode cX1_earliestCell 15 = .ok (.iload_n 2, 1) := by decide +kernel
theorem dX1_earliestCell_16 : decode cX1_earliestCell 16 = .ok (.iaload, 1) := by decide +kernel
theorem dX1_earliestCell_17 : decode cX1_earliestCell 17 = .ok (.iconst (-1), 1) := by decide +kernel
theorem dX1_earliestCell_18 : decode cX1_earliestCell 18 = .ok (.if_icmp .ne 29, 3) := by decide +kernel
theorem dX1_earliestCell_21 : decode cX1_earliestCell 21 = .ok (.aload_n 0, 1) := by decide +kernel
theorem dX1_earliestCell_22 : decode cX1_earliestCell 22 = .ok (.iload_n 1, 1) := by decide +kernel
theorem dX1_earliestCell_23 : decode cX1_earliestCell 23 = .ok (.iload_n 2, 1) := by decide +kernel
theorem dX1_earliestCell_24 : decode cX1_earliestCell 24 = .ok (.invokestatic 103, 3) := by decide +kernel
theorem dX1_earliestCell_27 : decode cX1_earliestCell 27 = .ok (.invokevirtual 159, 3) := by decide +kernel
theorem dX1_earliestCell_30 : decode cX1_earliestCell 30 = .ok (.ifCond .eq 17, 3) := by decide +kernel
theorem dX1_earliestCell_33 : decode cX1_earliestCell 33 = .ok (.aload_n 0, 1) := by decide +kernel
theorem dX1_earliestCell_34 : decode cX1_earliestCell 34 = .ok (.iload_n 1, 1) := by decide +kernel
theorem dX1_earliestCell_35 : decode cX1_earliestCell 35 = .ok (.iload_n 2, 1) := by decide +kernel
theorem dX1_earliestCell_36 : decode cX1_earliestCell 36 = .ok (.invokestatic 120, 3) := by decide +kernel
theorem dX1_earliestCell_39 : decode cX1_earliestCell 39 = .ok (.invokevirtual 163, 3) := by decide +kernel
theorem dX1_earliestCell_42 : decode cX1_earliestCell 42 = .ok (.ifCond .eq 5, 3) := by decide +kernel
theorem dX1_earliestCell_45 : decode cX1_earliestCell 45 = .ok (.iload_n 2, 1) := by decide +kernel
theorem dX1_earliestCell_46 : decode cX1_earliestCell 46 = .ok (.ireturn, 1) := by decide +kernel
theorem dX1_earliestCell_47 : decode cX1_earliestCell 47 = .ok (.iinc 2 1, 3) := by decide +kernel
theorem dX1_earliestCell_50 : decode cX1_earliestCell 50 = .ok (.goto (-48), 3) := by decide +kernel
theorem dX1_earliestCell_53 : decode cX1_earliestCell 53 = .ok (.iconst (-1), 1) := by decide +kernel
theorem dX1_earliestCell_54 : decode cX1_earliestCell 54 = .ok (.ireturn, 1) := by decide +kernel
theorem dX1_couldCome_0 : decode cX1_couldCome 0 = .ok (.aload_n 0, 1) := by decide +kernel
theorem dX1_couldCome_1 : decode cX1_couldCome 1 = .ok (.getfield 9, 3) := by decide +kernel
theorem dX1_couldCome_4 : decode cX1_couldCome 4 = .ok (.iload_n 2, 1) := by decide +kernel
theorem dX1_couldCome_5 : decode cX1_couldCome 5 = .ok (.iadd, 1) := by decide +kernel
theorem dX1_couldCome_6 : decode cX1_couldCome 6 = .ok (.aload_n 0, 1) := by decide +kernel
theorem dX1_couldCome_7 : decode cX1_couldCome 7 = .ok (.getfield 39, 3) := by decide +kernel
theorem dX1_couldCome_10 : decode cX1_couldCome 10 = .ok (.iload_n 1, 1) := by decide +kernel
theorem dX1_couldCome_11 : decode cX1_couldCome 11 = .ok (.aaload, 1) := by decide +kernel
theorem dX1_couldCome_12 : decode cX1_couldCome 12 = .ok (.getfield 80, 3) := by decide +kernel
theorem dX1_couldCome_15 : decode cX1_couldCome 15 = .ok (.if_icmp .lt 7, 3) := by decide +kernel
theorem dX1_couldCome_18 : decode cX1_couldCome 18 = .ok (.iconst 1, 1) := by decide +kernel
theorem dX1_couldCome_19 : decode cX1_couldCome 19 = .ok (.goto 4, 3) := by decide +kernel
theorem dX1_couldCome_22 : decode cX1_couldCome 22 = .ok (.iconst 0, 1) := by decide +kernel
theorem dX1_couldCome_23 : decode cX1_couldCome 23 = .ok (.ireturn, 1) := by decide +kernel
theorem dX1_mayMeet_0 : decode cX1_mayMeet 0 = .ok (.aload_n 0, 1) := by decide +kernel
theorem dX1_mayMeet_1 : decode cX1_mayMeet 1 = .ok (.getfield 31, 3) := by decide +kernel
theorem dX1_mayMeet_4 : decode cX1_mayMeet 4 = .ok (.iconst 1, 1) := by decide +kernel
theorem dX1_mayMeet_5 : decode cX1_mayMeet 5 = .ok (.iaload, 1) := by decide +kernel
theorem dX1_mayMeet_6 : decode cX1_mayMeet 6 = .ok (.ifCond .eq 16, 3) := by decide +kernel
theorem dX1_mayMeet_9 : decode cX1_mayMeet 9 = .ok (.aload_n 0, 1) := by decide +kernel
theorem dX1_mayMeet_10 : decode cX1_mayMeet 10 = .ok (.getfield 39, 3) := by decide +kernel
theorem dX1_mayMeet_13 : decode cX1_mayMeet 13 = .ok (.iload_n 1, 1) := by decide +kernel
theorem dX1_mayMeet_14 : decode cX1_mayMeet 14 = .ok (.aaload, 1) := by decide +kernel
theorem dX1_mayMeet_15 : decode cX1_mayMeet 15 = .ok (.getfield 132, 3) := by decide +kernel
theorem dX1_mayMeet_18 : decode cX1_mayMeet 18 = .ok (.iload_n 2, 1) := by decide +kernel
theorem dX1_mayMeet_19 : decode cX1_mayMeet 19 = .ok (.if_icmp .eq 7, 3) := by decide +kernel
theorem dX1_mayMeet_22 : decode cX1_mayMeet 22 = .ok (.iconst 1, 1) := by decide +kernel
theorem dX1_mayMeet_23 : decode cX1_mayMeet 23 = .ok (.goto 4, 3) := by decide +kernel
theorem dX1_mayMeet_26 : decode cX1_mayMeet 26 = .ok (.iconst 0, 1) := by decide +kernel
theorem dX1_mayMeet_27 : decode cX1_mayMeet 27 = .ok (.ireturn, 1) := by decide +kernel
theorem dX1_routeFor_0 : decode cX1_routeFor 0 = .ok (.aload_n 0, 1) := by decide +kernel
theorem dX1_routeFor_1 : decode cX1_routeFor 1 = .ok (.getfield 45, 3) := by decide +kernel
theorem dX1_routeFor_4 : decode cX1_routeFor 4 = .ok (.iload_n 2, 1) := by decide +kernel
theorem dX1_routeFor_5 : decode cX1_routeFor 5 = .ok (.aaload, 1) := by decide +kernel
theorem dX1_routeFor_6 : decode cX1_routeFor 6 = .ok (.aload_n 0, 1) := by decide +kernel
theorem dX1_routeFor_7 : decode cX1_routeFor 7 = .ok (.getfield 39, 3) := by decide +kernel
theorem dX1_routeFor_10 : decode cX1_routeFor 10 = .ok (.iload_n 1, 1) := by decide +kernel
theorem dX1_routeFor_11 : decode cX1_routeFor 11 = .ok (.aaload, 1) := by decide +kernel
theorem dX1_routeFor_12 : decode cX1_routeFor 12 = .ok (.getfield 129, 3) := by decide +kernel
theorem dX1_routeFor_15 : decode cX1_routeFor 15 = .ok (.invokevirtual 166, 3) := by decide +kernel
theorem dX1_routeFor_18 : decode cX1_routeFor 18 = .ok (.ireturn, 1) := by decide +kernel
theorem dX1_mostWithSlotsOf_0 : decode cX1_mostWithSlotsOf 0 = .ok (.bipush 12, 2) := by decide +kernel
theorem dX1_mostWithSlotsOf_2 : decode cX1_mostWithSlotsOf 2 = .ok (.istore_n 2, 1) := by decide +kernel
theorem dX1_mostWithSlotsOf_3 : decode cX1_mostWithSlotsOf 3 = .ok (.iconst 0, 1) := by decide +kernel
theorem dX1_mostWithSlotsOf_4 : decode cX1_mostWithSlotsOf 4 = .ok (.istore_n 3, 1) := by decide +kernel
theorem dX1_mostWithSlotsOf_5 : decode cX1_mostWithSlotsOf 5 = .ok (.iload_n 3, 1) := by decide +kernel
theorem dX1_mostWithSlotsOf_6 : decode cX1_mostWithSlotsOf 6 = .ok (.bipush 16, 2) := by decide +kernel
theorem dX1_mostWithSlotsOf_8 : decode cX1_mostWithSlotsOf 8 = .ok (.if_icmp .ge 31, 3) := by decide +kernel
theorem dX1_mostWithSlotsOf_11 : decode cX1_mostWithSlotsOf 11 = .ok (.aload_n 0, 1) := by decide +kernel
theorem dX1_mostWithSlotsOf_12 : decode cX1_mostWithSlotsOf 12 = .ok (.iload_n 3, 1) := by decide +kernel
theorem dX1_mostWithSlotsOf_13 : decode cX1_mostWithSlotsOf 13 = .ok (.iload_n 1, 1) := by decide +kernel
theorem dX1_mostWithSlotsOf_14 : decode cX1_mostWithSlotsOf 14 = .ok (.invokevirtual 169, 3) := by decide +kernel
theorem dX1_mostWithSlotsOf_17 : decode cX1_mostWithSlotsOf 17 = .ok (.aload_n 0, 1) := by decide +kernel
theorem dX1_mostWithSlotsOf_18 : decode cX1_mostWithSlotsOf 18 = .ok (.iload_n 3, 1) := by decide +kernel
theorem dX1_mostWithSlotsOf_19 : decode cX1_mostWithSlotsOf 19 = .ok (.iload_n 1, 1) := by decide +kernel
theorem dX1_mostWithSlotsOf_20 : decode cX1_mostWithSlotsOf 20 = .ok (.invokevirtual 172, 3) := by decide +kernel
theorem dX1_mostWithSlotsOf_23 : decode cX1_mostWithSlotsOf 23 = .ok (.iadd, 1) := by decide +kernel
theorem dX1_mostWithSlotsOf_24 : decode cX1_mostWithSlotsOf 24 = .ok (.istore 4, 2) := by decide +kernel
theorem dX1_mostWithSlotsOf_26 : decode cX1_mostWithSlotsOf 26 = .ok (.iload_n 2, 1) := by decide +kernel
theorem dX1_mostWithSlotsOf_27 : decode cX1_mostWithSlotsOf 27 = .ok (.iload 4, 2) := by decide +kernel
theorem dX1_mostWithSlotsOf_29 : decode cX1_mostWithSlotsOf 29 = .ok (.invokestatic 141, 3) := by decide +kernel
theorem dX1_mostWithSlotsOf_32 : decode cX1_mostWithSlotsOf 32 = .ok (.istore_n 2, 1) := by decide +kernel
theorem dX1_mostWithSlotsOf_33 : decode cX1_mostWithSlotsOf 33 = .ok (.iinc 3 1, 3) := by decide +kernel
theorem dX1_mostWithSlotsOf_36 : decode cX1_mostWithSlotsOf 36 = .ok (.goto (-31), 3) := by decide +kernel
theorem dX1_mostWithSlotsOf_39 : decode cX1_mostWithSlotsOf 39 = .ok (.iload_n 2, 1) := by decide +kernel
theorem dX1_mostWithSlotsOf_40 : decode cX1_mostWithSlotsOf 40 = .ok (.ireturn, 1) := by decide +kernel
theorem dX1_freeSlotsOfGroup_0 : decode cX1_freeSlotsOfGroup 0 = .ok (.iconst 0, 1) := by decide +kernel
theorem dX1_freeSlotsOfGroup_1 : decode cX1_freeSlotsOfGroup 1 = .ok (.istore_n 3, 1) := by decide +kernel
theorem dX1_freeSlotsOfGroup_2 : decode cX1_freeSlotsOfGroup 2 = .ok (.iconst 0, 1) := by decide +kernel
theorem dX1_freeSlotsOfGroup_3 : decode cX1_freeSlotsOfGroup 3 = .ok (.istore 4, 2) := by decide +kernel
theorem dX1_freeSlotsOfGroup_5 : decode cX1_freeSlotsOfGroup 5 = .ok (.iload 4, 2) := by decide +kernel
theorem dX1_freeSlotsOfGroup_7 : decode cX1_freeSlotsOfGroup 7 = .ok (.bipush 16, 2) := by decide +kernel
theorem dX1_freeSlotsOfGroup_9 : decode cX1_freeSlotsOfGroup 9 = .ok (.if_icmp .ge 40, 3) := by decide +kernel
theorem dX1_freeSlotsOfGroup_12 : decode cX1_freeSlotsOfGroup 12 = .ok (.aload_n 0, 1) := by decide +kernel
theorem dX1_freeSlotsOfGroup_13 : decode cX1_freeSlotsOfGroup 13 = .ok (.getfield 34, 3) := by decide +kernel
theorem dX1_freeSlotsOfGroup_16 : decode cX1_freeSlotsOfGroup 16 = .ok (.iload_n 2, 1) := by decide +kernel
theorem dX1_freeSlotsOfGroup_17 : decode cX1_freeSlotsOfGroup 17 = .ok (.bipush 16, 2) := by decide +kernel
theorem dX1_freeSlotsOfGroup_19 : decode cX1_freeSlotsOfGroup 19 = .ok (.imul, 1) := by decide +kernel
theorem dX1_freeSlotsOfGroup_20 : decode cX1_freeSlotsOfGroup 20 = .ok (.iload 4, 2) := by decide +kernel
theorem dX1_freeSlotsOfGroup_22 : decode cX1_freeSlotsOfGroup 22 = .ok (.iadd, 1) := by decide +kernel
theorem dX1_freeSlotsOfGroup_23 : decode cX1_freeSlotsOfGroup 23 = .ok (.iaload, 1) := by decide +kernel
theorem dX1_freeSlotsOfGroup_24 : decode cX1_freeSlotsOfGroup 24 = .ok (.iconst (-1), 1) := by decide +kernel
theorem dX1_freeSlotsOfGroup_25 : decode cX1_freeSlotsOfGroup 25 = .ok (.if_icmp .ne 18, 3) := by decide +kernel
theorem dX1_freeSlotsOfGroup_28 : decode cX1_freeSlotsOfGroup 28 = .ok (.iload_n 1, 1) := by decide +kernel
theorem dX1_freeSlotsOfGroup_29 : decode cX1_freeSlotsOfGroup 29 = .ok (.iload 4, 2) := by decide +kernel
theorem dX1_freeSlotsOfGroup_31 : decode cX1_freeSlotsOfGroup 31 = .ok (.invokestatic 120, 3) := by decide +kernel
theorem dX1_freeSlotsOfGroup_34 : decode cX1_freeSlotsOfGroup 34 = .ok (.invokestatic 175, 3) := by decide +kernel
theorem dX1_freeSlotsOfGroup_37 : decode cX1_freeSlotsOfGroup 37 = .ok (.ifCond .eq 6, 3) := by decide +kernel
theorem dX1_freeSlotsOfGroup_40 : decode cX1_freeSlotsOfGroup 40 = .ok (.iinc 3 1, 3) := by decide +kernel
theorem dX1_freeSlotsOfGroup_43 : decode cX1_freeSlotsOfGroup 43 = .ok (.iinc 4 1, 3) := by decide +kernel
theorem dX1_freeSlotsOfGroup_46 : decode cX1_freeSlotsOfGroup 46 = .ok (.goto (-41), 3) := by decide +kernel
theorem dX1_freeSlotsOfGroup_49 : decode cX1_freeSlotsOfGroup 49 = .ok (.iload_n 3, 1) := by decide +kernel
theorem dX1_freeSlotsOfGroup_50 : decode cX1_freeSlotsOfGroup 50 = .ok (.ireturn, 1) := by decide +kernel
theorem dX1_pupilsNotKeptTo_0 : decode cX1_pupilsNotKeptTo 0 = .ok (.iconst 0, 1) := by decide +kernel
theorem dX1_pupilsNotKeptTo_1 : decode cX1_pupilsNotKeptTo 1 = .ok (.istore_n 3, 1) := by decide +kernel
theorem dX1_pupilsNotKeptTo_2 : decode cX1_pupilsNotKeptTo 2 = .ok (.iconst 0, 1) := by decide +kernel
theorem dX1_pupilsNotKeptTo_3 : decode cX1_pupilsNotKeptTo 3 = .ok (.istore 4, 2) := by decide +kernel
theorem dX1_pupilsNotKeptTo_5 : decode cX1_pupilsNotKeptTo 5 = .ok (.iload 4, 2) := by decide +kernel
theorem dX1_pupilsNotKeptTo_7 : decode cX1_pupilsNotKeptTo 7 = .ok (.aload_n 0, 1) := by decide +kernel
theorem dX1_pupilsNotKeptTo_8 : decode cX1_pupilsNotKeptTo 8 = .ok (.getfield 18, 3) := by decide +kernel
theorem dX1_pupilsNotKeptTo_11 : decode cX1_pupilsNotKeptTo 11 = .ok (.if_icmp .ge 67, 3) := by decide +kernel
theorem dX1_pupilsNotKeptTo_14 : decode cX1_pupilsNotKeptTo 14 = .ok (.aload_n 0, 1) := by decide +kernel
theorem dX1_pupilsNotKeptTo_15 : decode cX1_pupilsNotKeptTo 15 = .ok (.getfield 39, 3) := by decide +kernel
theorem dX1_pupilsNotKeptTo_18 : decode cX1_pupilsNotKeptTo 18 = .ok (.iload 4, 2) := by decide +kernel
theorem dX1_pupilsNotKeptTo_20 : decode cX1_pupilsNotKeptTo 20 = .ok (.aaload, 1) := by decide +kernel
theorem dX1_pupilsNotKeptTo_21 : decode cX1_pupilsNotKeptTo 21 = .ok (.getfield 83, 3) := by decide +kernel
theorem dX1_pupilsNotKeptTo_24 : decode cX1_pupilsNotKeptTo 24 = .ok (.istore 5, 2) := by decide +kernel
theorem dX1_pupilsNotKeptTo_26 : decode cX1_pupilsNotKeptTo 26 = .ok (.iload 5, 2) := by decide +kernel
theorem dX1_pupilsNotKeptTo_28 : decode cX1_pupilsNotKeptTo 28 = .ok (.ifCond .eq 9, 3) := by decide +kernel
theorem dX1_pupilsNotKeptTo_31 : decode cX1_pupilsNotKeptTo 31 = .ok (.iload 5, 2) := by decide +kernel
theorem dX1_pupilsNotKeptTo_33 : decode cX1_pupilsNotKeptTo 33 = .ok (.iconst 1, 1) := by decide +kernel
theorem dX1_pupilsNotKeptTo_34 : decode cX1_pupilsNotKeptTo 34 = .ok (.if_icmp .ne 7, 3) := by decide +kernel
theorem dX1_pupilsNotKeptTo_37 : decode cX1_pupilsNotKeptTo 37 = .ok (.iconst 1, 1) := by decide +kernel
theorem dX1_pupilsNotKeptTo_38 : decode cX1_pupilsNotKeptTo 38 = .ok (.goto 4, 3) := by decide +kernel
theorem dX1_pupilsNotKeptTo_41 : decode cX1_pupilsNotKeptTo 41 = .ok (.iconst 0, 1) := by decide +kernel
theorem dX1_pupilsNotKeptTo_42 : decode cX1_pupilsNotKeptTo 42 = .ok (.istore 6, 2) := by decide +kernel
theorem dX1_pupilsNotKeptTo_44 : decode cX1_pupilsNotKeptTo 44 = .ok (.iload 6, 2) := by decide +kernel
theorem dX1_pupilsNotKeptTo_46 : decode cX1_pupilsNotKeptTo 46 = .ok (.ifCond .eq 26, 3) := by decide +kernel
theorem dX1_pupilsNotKeptTo_49 : decode cX1_pupilsNotKeptTo 49 = .ok (.aload_n 0, 1) := by decide +kernel
theorem dX1_pupilsNotKeptTo_50 : decode cX1_pupilsNotKeptTo 50 = .ok (.iload 4, 2) := by decide +kernel
theorem dX1_pupilsNotKeptTo_52 : decode cX1_pupilsNotKeptTo 52 = .ok (.iload_n 2, 1) := by decide +kernel
theorem dX1_pupilsNotKeptTo_53 : decode cX1_pupilsNotKeptTo 53 = .ok (.invokevirtual 159, 3) := by decide +kernel
theorem dX1_pupilsNotKeptTo_56 : decode cX1_pupilsNotKeptTo 56 = .ok (.ifCond .eq 16, 3) := by decide +kernel
theorem dX1_pupilsNotKeptTo_59 : decode cX1_pupilsNotKeptTo 59 = .ok (.aload_n 0, 1) := by decide +kernel
theorem dX1_pupilsNotKeptTo_60 : decode cX1_pupilsNotKeptTo 60 = .ok (.iload 4, 2) := by decide +kernel
theorem dX1_pupilsNotKeptTo_62 : decode cX1_pupilsNotKeptTo 62 = .ok (.iload_n 1, 1) := by decide +kernel
theorem dX1_pupilsNotKeptTo_63 : decode cX1_pupilsNotKeptTo 63 = .ok (.invokevirtual 178, 3) := by decide +kernel
theorem dX1_pupilsNotKeptTo_66 : decode cX1_pupilsNotKeptTo 66 = .ok (.ifCond .eq 6, 3) := by decide +kernel
theorem dX1_pupilsNotKeptTo_69 : decode cX1_pupilsNotKeptTo 69 = .ok (.iinc 3 1, 3) := by decide +kernel
theorem dX1_pupilsNotKeptTo_72 : decode cX1_pupilsNotKeptTo 72 = .ok (.iinc 4 1, 3) := by decide +kernel
theorem dX1_pupilsNotKeptTo_75 : decode cX1_pupilsNotKeptTo 75 = .ok (.goto (-70), 3) := by decide +kernel
theorem dX1_pupilsNotKeptTo_78 : decode cX1_pupilsNotKeptTo 78 = .ok (.iload_n 3, 1) := by decide +kernel
theorem dX1_pupilsNotKeptTo_79 : decode cX1_pupilsNotKeptTo 79 = .ok (.ireturn, 1) := by decide +kernel
theorem dX1_mayMeetOutside_0 : decode cX1_mayMeetOutside 0 = .ok (.iconst 0, 1) := by decide +kernel
theorem dX1_mayMeetOutside_1 : decode cX1_mayMeetOutside 1 = .ok (.istore_n 3, 1) := by decide +kernel
theorem dX1_mayMeetOutside_2 : decode cX1_mayMeetOutside 2 = .ok (.iload_n 3, 1) := by decide +kernel
theorem dX1_mayMeetOutside_3 : decode cX1_mayMeetOutside 3 = .ok (.aload_n 0, 1) := by decide +kernel
theorem dX1_mayMeetOutside_4 : decode cX1_mayMeetOutside 4 = .ok (.getfield 15, 3) := by decide +kernel
theorem dX1_mayMeetOutside_7 : decode cX1_mayMeetOutside 7 = .ok (.if_icmp .ge 28, 3) := by decide +kernel
theorem dX1_mayMeetOutside_10 : decode cX1_mayMeetOutside 10 = .ok (.iload_n 2, 1) := by decide +kernel
theorem dX1_mayMeetOutside_11 : decode cX1_mayMeetOutside 11 = .ok (.iload_n 3, 1) := by decide +kernel
theorem dX1_mayMeetOutside_12 : decode cX1_mayMeetOutside 12 = .ok (.invokestatic 175, 3) := by decide +kernel
theorem dX1_mayMeetOutside_15 : decode cX1_mayMeetOutside 15 = .ok (.ifCond .ne 14, 3) := by decide +kernel
theorem dX1_mayMeetOutside_18 : decode cX1_mayMeetOutside 18 = .ok (.aload_n 0, 1) := by decide +kernel
theorem dX1_mayMeetOutside_19 : decode cX1_mayMeetOutside 19 = .ok (.iload_n 1, 1) := by decide +kernel
theorem dX1_mayMeetOutside_20 : decode cX1_mayMeetOutside 20 = .ok (.iload_n 3, 1) := by decide +kernel
theorem dX1_mayMeetOutside_21 : decode cX1_mayMeetOutside 21 = .ok (.invokevirtual 163, 3) := by decide +kernel
theorem dX1_mayMeetOutside_24 : decode cX1_mayMeetOutside 24 = .ok (.ifCond .eq 5, 3) := by decide +kernel
theorem dX1_mayMeetOutside_27 : decode cX1_mayMeetOutside 27 = .ok (.iconst 1, 1) := by decide +kernel
theorem dX1_mayMeetOutside_28 : decode cX1_mayMeetOutside 28 = .ok (.ireturn, 1) := by decide +kernel
theorem dX1_mayMeetOutside_29 : decode cX1_mayMeetOutside 29 = .ok (.iinc 3 1, 3) := by decide +kernel
theorem dX1_mayMeetOutside_32 : decode cX1_mayMeetOutside 32 = .ok (.goto (-30), 3) := by decide +kernel
theorem dX1_mayMeetOutside_35 : decode cX1_mayMeetOutside 35 = .ok (.iconst 0, 1) := by decide +kernel
theorem dX1_mayMeetOutside_36 : decode cX1_mayMeetOutside 36 = .ok (.ireturn, 1) := by decide +kernel
theorem dX1_isInGroup_0 : decode cX1_isInGroup 0 = .ok (.iload_n 0, 1) := by decide +kernel
theorem dX1_isInGroup_1 : decode cX1_isInGroup 1 = .ok (.iload_n 1, 1) := by decide +kernel
theorem dX1_isInGroup_2 : decode cX1_isInGroup 2 = .ok (.ishr, 1) := by decide +kernel
theorem dX1_isInGroup_3 : decode cX1_isInGroup 3 = .ok (.iconst 1, 1) := by decide +kernel
theorem dX1_isInGroup_4 : decode cX1_isInGroup 4 = .ok (.iand, 1) := by decide +kernel
theorem dX1_isInGroup_5 : decode cX1_isInGroup 5 = .ok (.iconst 1, 1) := by decide +kernel
theorem dX1_isInGroup_6 : decode cX1_isInGroup 6 = .ok (.if_icmp .ne 7, 3) := by decide +kernel
theorem dX1_isInGroup_9 : decode cX1_isInGroup 9 = .ok (.iconst 1, 1) := by decide +kernel
theorem dX1_isInGroup_10 : decode cX1_isInGroup 10 = .ok (.goto 4, 3) := by decide +kernel
theorem dX1_isInGroup_13 : decode cX1_isInGroup 13 = .ok (.iconst 0, 1) := by decide +kernel
theorem dX1_isInGroup_14 : decode cX1_isInGroup 14 = .ok (.ireturn, 1) := by decide +kernel
theorem dX1_pupilProperty_0 : decode cX1_pupilProperty 0 = .ok (.aload_n 0, 1) := by decide +kernel
theorem dX1_pupilProperty_1 : decode cX1_pupilProperty 1 = .ok (.getfield 39, 3) := by decide +kernel
theorem dX1_pupilProperty_4 : decode cX1_pupilProperty 4 = .ok (.iload_n 1, 1) := by decide +kernel
theorem dX1_pupilProperty_5 : decode cX1_pupilProperty 5 = .ok (.aaload, 1) := by decide +kernel
theorem dX1_pupilProperty_6 : decode cX1_pupilProperty 6 = .ok (.astore_n 3, 1) := by decide +kernel
theorem dX1_pupilProperty_7 : decode cX1_pupilProperty 7 = .ok (.iload_n 2, 1) := by decide +kernel
theorem dX1_pupilProperty_8 : decode cX1_pupilProperty 8 = .ok (.tableswitch 101 0 10 #[60, 65, 70, 75, 80, 101, 101, 101, 85, 90, 96], 60) := by decide +kernel
theorem dX1_pupilProperty_68 : decode cX1_pupilProperty 68 = .ok (.aload_n 3, 1) := by decide +kernel
theorem dX1_pupilProperty_69 : decode cX1_pupilProperty 69 = .ok (.getfield 83, 3) := by decide +kernel
theorem dX1_pupilProperty_72 : decode cX1_pupilProperty 72 = .ok (.ireturn, 1) := by decide +kernel
theorem dX1_pupilProperty_73 : decode cX1_pupilProperty 73 = .ok (.aload_n 3, 1) := by decide +kernel
theorem dX1_pupilProperty_74 : decode cX1_pupilProperty 74 = .ok (.getfield 138, 3) := by decide +kernel
theorem dX1_pupilProperty_77 : decode cX1_pupilProperty 77 = .ok (.ireturn, 1) := by decide +kernel
theorem dX1_pupilProperty_78 : decode cX1_pupilProperty 78 = .ok (.aload_n 3, 1) := by decide +kernel
theorem dX1_pupilProperty_79 : decode cX1_pupilProperty 79 = .ok (.getfield 80, 3) := by decide +kernel
theorem dX1_pupilProperty_82 : decode cX1_pupilProperty 82 = .ok (.ireturn, 1) := by decide +kernel
theorem dX1_pupilProperty_83 : decode cX1_pupilProperty 83 = .ok (.aload_n 3, 1) := by decide +kernel
theorem dX1_pupilProperty_84 : decode cX1_pupilProperty 84 = .ok (.getfield 129, 3) := by decide +kernel
theorem dX1_pupilProperty_87 : decode cX1_pupilProperty 87 = .ok (.ireturn, 1) := by decide +kernel
theorem dX1_pupilProperty_88 : decode cX1_pupilProperty 88 = .ok (.aload_n 3, 1) := by decide +kernel
theorem dX1_pupilProperty_89 : decode cX1_pupilProperty 89 = .ok (.getfield 132, 3) := by decide +kernel
theorem dX1_pupilProperty_92 : decode cX1_pupilProperty 92 = .ok (.ireturn, 1) := by decide +kernel
theorem dX1_pupilProperty_93 : decode cX1_pupilProperty 93 = .ok (.aload_n 3, 1) := by decide +kernel
theorem dX1_pupilProperty_94 : decode cX1_pupilProperty 94 = .ok (.getfield 114, 3) := by decide +kernel
theorem dX1_pupilProperty_97 : decode cX1_pupilProperty 97 = .ok (.ireturn, 1) := by decide +kernel
theorem dX1_pupilProperty_98 : decode cX1_pupilProperty 98 = .ok (.aload_n 0, 1) := by decide +kernel
theorem dX1_pupilProperty_99 : decode cX1_pupilProperty 99 = .ok (.iload_n 1, 1) := by decide +kernel
theorem dX1_pupilProperty_100 : decode cX1_pupilProperty 100 = .ok (.invokevirtual 149, 3) := by decide +kernel
theorem dX1_pupilProperty_103 : decode cX1_pupilProperty 103 = .ok (.ireturn, 1) := by decide +kernel
theorem dX1_pupilProperty_104 : decode cX1_pupilProperty 104 = .ok (.aload_n 3, 1) := by decide +kernel
theorem dX1_pupilProperty_105 : decode cX1_pupilProperty 105 = .ok (.getfield 89, 3) := by decide +kernel
theorem dX1_pupilProperty_108 : decode cX1_pupilProperty 108 = .ok (.ireturn, 1) := by decide +kernel
theorem dX1_pupilProperty_109 : decode cX1_pupilProperty 109 = .ok (.aload_n 0, 1) := by decide +kernel
theorem dX1_pupilProperty_110 : decode cX1_pupilProperty 110 = .ok (.iload_n 1, 1) := by decide +kernel
theorem dX1_pupilProperty_111 : decode cX1_pupilProperty 111 = .ok (.invokevirtual 95, 3) := by decide +kernel
theorem dX1_pupilProperty_114 : decode cX1_pupilProperty 114 = .ok (.iload_n 2, 1) := by decide +kernel
theorem dX1_pupilProperty_115 : decode cX1_pupilProperty 115 = .ok (.iconst 5, 1) := by decide +kernel
theorem dX1_pupilProperty_116 : decode cX1_pupilProperty 116 = .ok (.isub, 1) := by decide +kernel
theorem dX1_pupilProperty_117 : decode cX1_pupilProperty 117 = .ok (.invokestatic 99, 3) := by decide +kernel
theorem dX1_pupilProperty_120 : decode cX1_pupilProperty 120 = .ok (.ireturn, 1) := by decide +kernel
theorem dX1_examinerProperty_0 : decode cX1_examinerProperty 0 = .ok (.aload_n 0, 1) := by decide +kernel
theorem dX1_examinerProperty_1 : decode cX1_examinerProperty 1 = .ok (.getfield 45, 3) := by decide +kernel
theorem dX1_examinerProperty_4 : decode cX1_examinerProperty 4 = .ok (.iload_n 1, 1) := by decide +kernel
theorem dX1_examinerProperty_5 : decode cX1_examinerProperty 5 = .ok (.aaload, 1) := by decide +kernel
theorem dX1_examinerProperty_6 : decode cX1_examinerProperty 6 = .ok (.astore_n 3, 1) := by decide +kernel
theorem dX1_examinerProperty_7 : decode cX1_examinerProperty 7 = .ok (.iload_n 2, 1) := by decide +kernel
theorem dX1_examinerProperty_8 : decode cX1_examinerProperty 8 = .ok (.tableswitch 66 0 4 #[36, 41, 46, 53, 61], 36) := by decide +kernel
theorem dX1_examinerProperty_44 : decode cX1_examinerProperty 44 = .ok (.aload_n 3, 1) := by decide +kernel
theorem dX1_examinerProperty_45 : decode cX1_examinerProperty 45 = .ok (.invokevirtual 181, 3) := by decide +kernel
theorem dX1_examinerProperty_48 : decode cX1_examinerProperty 48 = .ok (.ireturn, 1) := by decide +kernel
theorem dX1_examinerProperty_49 : decode cX1_examinerProperty 49 = .ok (.aload_n 3, 1) := by decide +kernel
theorem dX1_examinerProperty_50 : decode cX1_examinerProperty 50 = .ok (.getfield 135, 3) := by decide +kernel
theorem dX1_examinerProperty_53 : decode cX1_examinerProperty 53 = .ok (.ireturn, 1) := by decide +kernel
theorem dX1_examinerProperty_54 : decode cX1_examinerProperty 54 = .ok (.aload_n 0, 1) := by decide +kernel
theorem dX1_examinerProperty_55 : decode cX1_examinerProperty 55 = .ok (.iload_n 1, 1) := by decide +kernel
theorem dX1_examinerProperty_56 : decode cX1_examinerProperty 56 = .ok (.iconst (-1), 1) := by decide +kernel
theorem dX1_examinerProperty_57 : decode cX1_examinerProperty 57 = .ok (.invokevirtual 185, 3) := by decide +kernel
theorem dX1_examinerProperty_60 : decode cX1_examinerProperty 60 = .ok (.ireturn, 1) := by decide +kernel
theorem dX1_examinerProperty_61 : decode cX1_examinerProperty 61 = .ok (.aload_n 0, 1) := by decide +kernel
theorem dX1_examinerProperty_62 : decode cX1_examinerProperty 62 = .ok (.iload_n 1, 1) := by decide +kernel
theorem dX1_examinerProperty_63 : decode cX1_examinerProperty 63 = .ok (.bipush (-2), 2) := by decide +kernel
theorem dX1_examinerProperty_65 : decode cX1_examinerProperty 65 = .ok (.invokevirtual 185, 3) := by decide +kernel
theorem dX1_examinerProperty_68 : decode cX1_examinerProperty 68 = .ok (.ireturn, 1) := by decide +kernel
theorem dX1_examinerProperty_69 : decode cX1_examinerProperty 69 = .ok (.aload_n 3, 1) := by decide +kernel
theorem dX1_examinerProperty_70 : decode cX1_examinerProperty 70 = .ok (.getfield 117, 3) := by decide +kernel
theorem dX1_examinerProperty_73 : decode cX1_examinerProperty 73 = .ok (.ireturn, 1) := by decide +kernel
theorem dX1_examinerProperty_74 : decode cX1_examinerProperty 74 = .ok (.aload_n 3, 1) := by decide +kernel
theorem dX1_examinerProperty_75 : decode cX1_examinerProperty 75 = .ok (.getfield 126, 3) := by decide +kernel
theorem dX1_examinerProperty_78 : decode cX1_examinerProperty 78 = .ok (.iload_n 2, 1) := by decide +kernel
theorem dX1_examinerProperty_79 : decode cX1_examinerProperty 79 = .ok (.iconst 5, 1) := by decide +kernel
theorem dX1_examinerProperty_80 : decode cX1_examinerProperty 80 = .ok (.isub, 1) := by decide +kernel
theorem dX1_examinerProperty_81 : decode cX1_examinerProperty 81 = .ok (.iaload, 1) := by decide +kernel
theorem dX1_examinerProperty_82 : decode cX1_examinerProperty 82 = .ok (.ireturn, 1) := by decide +kernel
theorem dX1_cellsOfExaminer_0 : decode cX1_cellsOfExaminer 0 = .ok (.iconst 0, 1) := by decide +kernel
theorem dX1_cellsOfExaminer_1 : decode cX1_cellsOfExaminer 1 = .ok (.istore_n 3, 1) := by decide +kernel
theorem dX1_cellsOfExaminer_2 : decode cX1_cellsOfExaminer 2 = .ok (.iload_n 1, 1) := by decide +kernel
theorem dX1_cellsOfExaminer_3 : decode cX1_cellsOfExaminer 3 = .ok (.istore 4, 2) := by decide +kernel
theorem dX1_cellsOfExaminer_5 : decode cX1_cellsOfExaminer 5 = .ok (.iload 4, 2) := by decide +kernel
theorem dX1_cellsOfExaminer_7 : decode cX1_cellsOfExaminer 7 = .ok (.aload_n 0, 1) := by decide +kernel
theorem dX1_cellsOfExaminer_8 : decode cX1_cellsOfExaminer 8 = .ok (.getfield 34, 3) := by decide +kernel
theorem dX1_cellsOfExaminer_11 : decode cX1_cellsOfExaminer 11 = .ok (.arraylength, 1) := by decide +kernel
theorem dX1_cellsOfExaminer_12 : decode cX1_cellsOfExaminer 12 = .ok (.if_icmp .ge 23, 3) := by decide +kernel
theorem dX1_cellsOfExaminer_15 : decode cX1_cellsOfExaminer 15 = .ok (.aload_n 0, 1) := by decide +kernel
theorem dX1_cellsOfExaminer_16 : decode cX1_cellsOfExaminer 16 = .ok (.getfield 34, 3) := by decide +kernel
theorem dX1_cellsOfExaminer_19 : decode cX1_cellsOfExaminer 19 = .ok (.iload 4, 2) := by decide +kernel
theorem dX1_cellsOfExaminer_21 : decode cX1_cellsOfExaminer 21 = .ok (.iaload, 1) := by decide +kernel
theorem dX1_cellsOfExaminer_22 : decode cX1_cellsOfExaminer 22 = .ok (.iload_n 2, 1) := by decide +kernel
theorem dX1_cellsOfExaminer_23 : decode cX1_cellsOfExaminer 23 = .ok (.if_icmp .ne 6, 3) := by decide +kernel
theorem dX1_cellsOfExaminer_26 : decode cX1_cellsOfExaminer 26 = .ok (.iinc 3 1, 3) := by decide +kernel
theorem dX1_cellsOfExaminer_29 : decode cX1_cellsOfExaminer 29 = .ok (.iinc 4 4, 3) := by decide +kernel
theorem dX1_cellsOfExaminer_32 : decode cX1_cellsOfExaminer 32 = .ok (.goto (-27), 3) := by decide +kernel
theorem dX1_cellsOfExaminer_35 : decode cX1_cellsOfExaminer 35 = .ok (.iload_n 3, 1) := by decide +kernel
theorem dX1_cellsOfExaminer_36 : decode cX1_cellsOfExaminer 36 = .ok (.ireturn, 1) := by decide +kernel
theorem dX1_number_0 : decode cX1_number 0 = .ok (.iload_n 1, 1) := by decide +kernel
theorem dX1_number_1 : decode cX1_number 1 = .ok (.tableswitch 121 0 13 #[71, 76, 81, 121, 121, 121, 121, 86, 91, 96, 101, 106, 111, 116], 71) := by decide +kernel
theorem dX1_number_72 : decode cX1_number 72 = .ok (.aload_n 0, 1) := by decide +kernel
theorem dX1_number_73 : decode cX1_number 73 = .ok (.getfield 9, 3) := by decide +kernel
theorem dX1_number_76 : decode cX1_number 76 = .ok (.ireturn, 1) := by decide +kernel
theorem dX1_number_77 : decode cX1_number 77 = .ok (.aload_n 0, 1) := by decide +kernel
theorem dX1_number_78 : decode cX1_number 78 = .ok (.getfield 15, 3) := by decide +kernel
theorem dX1_number_81 : decode cX1_number 81 = .ok (.ireturn, 1) := by decide +kernel
theorem dX1_number_82 : decode cX1_number 82 = .ok (.aload_n 0, 1) := by decide +kernel
theorem dX1_number_83 : decode cX1_number 83 = .ok (.getfield 18, 3) := by decide +kernel
theorem dX1_number_86 : decode cX1_number 86 = .ok (.ireturn, 1) := by decide +kernel
theorem dX1_number_87 : decode cX1_number 87 = .ok (.aload_n 0, 1) := by decide +kernel
theorem dX1_number_88 : decode cX1_number 88 = .ok (.invokevirtual 188, 3) := by decide +kernel
theorem dX1_number_91 : decode cX1_number 91 = .ok (.ireturn, 1) := by decide +kernel
theorem dX1_number_92 : decode cX1_number 92 = .ok (.aload_n 0, 1) := by decide +kernel
theorem dX1_number_93 : decode cX1_number 93 = .ok (.invokevirtual 191, 3) := by decide +kernel
theorem dX1_number_96 : decode cX1_number 96 = .ok (.ireturn, 1) := by decide +kernel
theorem dX1_number_97 : decode cX1_number 97 = .ok (.aload_n 0, 1) := by decide +kernel
theorem dX1_number_98 : decode cX1_number 98 = .ok (.invokevirtual 194, 3) := by decide +kernel
theorem dX1_number_101 : decode cX1_number 101 = .ok (.ireturn, 1) := by decide +kernel
theorem dX1_number_102 : decode cX1_number 102 = .ok (.aload_n 0, 1) := by decide +kernel
theorem dX1_number_103 : decode cX1_number 103 = .ok (.getfield 24, 3) := by decide +kernel
theorem dX1_number_106 : decode cX1_number 106 = .ok (.ireturn, 1) := by decide +kernel
theorem dX1_number_107 : decode cX1_number 107 = .ok (.aload_n 0, 1) := by decide +kernel
theorem dX1_number_108 : decode cX1_number 108 = .ok (.invokevirtual 197, 3) := by decide +kernel
theorem dX1_number_111 : decode cX1_number 111 = .ok (.ireturn, 1) := by decide +kernel
theorem dX1_number_112 : decode cX1_number 112 = .ok (.aload_n 0, 1) := by decide +kernel
theorem dX1_number_113 : decode cX1_number 113 = .ok (.invokevirtual 200, 3) := by decide +kernel
theorem dX1_number_116 : decode cX1_number 116 = .ok (.ireturn, 1) := by decide +kernel
theorem dX1_number_117 : decode cX1_number 117 = .ok (.aload_n 0, 1) := by decide +kernel
theorem dX1_number_118 : decode cX1_number 118 = .ok (.invokevirtual 203, 3) := by decide +kernel
theorem dX1_number_121 : decode cX1_number 121 = .ok (.ireturn, 1) := by decide +kernel
theorem dX1_number_122 : decode cX1_number 122 = .ok (.aload_n 0, 1) := by decide +kernel
theorem dX1_number_123 : decode cX1_number 123 = .ok (.iload_n 1, 1) := by decide +kernel
theorem dX1_number_124 : decode cX1_number 124 = .ok (.iconst 3, 1) := by decide +kernel
theorem dX1_number_125 : decode cX1_number 125 = .ok (.isub, 1) := by decide +kernel
theorem dX1_number_126 : decode cX1_number 126 = .ok (.invokevirtual 206, 3) := by decide +kernel
theorem dX1_number_129 : decode cX1_number 129 = .ok (.ireturn, 1) := by decide +kernel
theorem dX1_pupilsWho_0 : decode cX1_pupilsWho 0 = .ok (.iconst 0, 1) := by decide +kernel
theorem dX1_pupilsWho_1 : decode cX1_pupilsWho 1 = .ok (.istore_n 2, 1) := by decide +kernel
theorem dX1_pupilsWho_2 : decode cX1_pupilsWho 2 = .ok (.iconst 0, 1) := by decide +kernel
theorem dX1_pupilsWho_3 : decode cX1_pupilsWho 3 = .ok (.istore_n 3, 1) := by decide +kernel
theorem dX1_pupilsWho_4 : decode cX1_pupilsWho 4 = .ok (.iload_n 3, 1) := by decide +kernel
theorem dX1_pupilsWho_5 : decode cX1_pupilsWho 5 = .ok (.aload_n 0, 1) := by decide +kernel
theorem dX1_pupilsWho_6 : decode cX1_pupilsWho 6 = .ok (.getfield 18, 3) := by decide +kernel
theorem dX1_pupilsWho_9 : decode cX1_pupilsWho 9 = .ok (.if_icmp .ge 25, 3) := by decide +kernel
theorem dX1_pupilsWho_12 : decode cX1_pupilsWho 12 = .ok (.aload_n 0, 1) := by decide +kernel
theorem dX1_pupilsWho_13 : decode cX1_pupilsWho 13 = .ok (.getfield 39, 3) := by decide +kernel
theorem dX1_pupilsWho_16 : decode cX1_pupilsWho 16 = .ok (.iload_n 3, 1) := by decide +kernel
theorem dX1_pupilsWho_17 : decode cX1_pupilsWho 17 = .ok (.aaload, 1) := by decide +kernel
theorem dX1_pupilsWho_18 : decode cX1_pupilsWho 18 = .ok (.getfield 83, 3) := by decide +kernel
theorem dX1_pupilsWho_21 : decode cX1_pupilsWho 21 = .ok (.iload_n 1, 1) := by decide +kernel
theorem dX1_pupilsWho_22 : decode cX1_pupilsWho 22 = .ok (.if_icmp .ne 6, 3) := by decide +kernel
theorem dX1_pupilsWho_25 : decode cX1_pupilsWho 25 = .ok (.iinc 2 1, 3) := by decide +kernel
theorem dX1_pupilsWho_28 : decode cX1_pupilsWho 28 = .ok (.iinc 3 1, 3) := by decide +kernel
theorem dX1_pupilsWho_31 : decode cX1_pupilsWho 31 = .ok (.goto (-27), 3) := by decide +kernel
theorem dX1_pupilsWho_34 : decode cX1_pupilsWho 34 = .ok (.iload_n 2, 1) := by decide +kernel
theorem dX1_pupilsWho_35 : decode cX1_pupilsWho 35 = .ok (.ireturn, 1) := by decide +kernel
theorem dX1_testsSoFar_0 : decode cX1_testsSoFar 0 = .ok (.iconst 0, 1) := by decide +kernel
theorem dX1_testsSoFar_1 : decode cX1_testsSoFar 1 = .ok (.istore_n 1, 1) := by decide +kernel
theorem dX1_testsSoFar_2 : decode cX1_testsSoFar 2 = .ok (.iconst 0, 1) := by decide +kernel
theorem dX1_testsSoFar_3 : decode cX1_testsSoFar 3 = .ok (.istore_n 2, 1) := by decide +kernel
theorem dX1_testsSoFar_4 : decode cX1_testsSoFar 4 = .ok (.iload_n 2, 1) := by decide +kernel
theorem dX1_testsSoFar_5 : decode cX1_testsSoFar 5 = .ok (.aload_n 0, 1) := by decide +kernel
theorem dX1_testsSoFar_6 : decode cX1_testsSoFar 6 = .ok (.getfield 15, 3) := by decide +kernel
theorem dX1_testsSoFar_9 : decode cX1_testsSoFar 9 = .ok (.if_icmp .ge 21, 3) := by decide +kernel
theorem dX1_testsSoFar_12 : decode cX1_testsSoFar 12 = .ok (.iload_n 1, 1) := by decide +kernel
theorem dX1_testsSoFar_13 : decode cX1_testsSoFar 13 = .ok (.aload_n 0, 1) := by decide +kernel
theorem dX1_testsSoFar_14 : decode cX1_testsSoFar 14 = .ok (.getfield 45, 3) := by decide +kernel
theorem dX1_testsSoFar_17 : decode cX1_testsSoFar 17 = .ok (.iload_n 2, 1) := by decide +kernel
theorem dX1_testsSoFar_18 : decode cX1_testsSoFar 18 = .ok (.aaload, 1) := by decide +kernel
theorem dX1_testsSoFar_19 : decode cX1_testsSoFar 19 = .ok (.invokevirtual 181, 3) := by decide +kernel
theorem dX1_testsSoFar_22 : decode cX1_testsSoFar 22 = .ok (.iadd, 1) := by decide +kernel
theorem dX1_testsSoFar_23 : decode cX1_testsSoFar 23 = .ok (.istore_n 1, 1) := by decide +kernel
theorem dX1_testsSoFar_24 : decode cX1_testsSoFar 24 = .ok (.iinc 2 1, 3) := by decide +kernel
theorem dX1_testsSoFar_27 : decode cX1_testsSoFar 27 = .ok (.goto (-23), 3) := by decide +kernel
theorem dX1_testsSoFar_30 : decode cX1_testsSoFar 30 = .ok (.iload_n 1, 1) := by decide +kernel
theorem dX1_testsSoFar_31 : decode cX1_testsSoFar 31 = .ok (.ireturn, 1) := by decide +kernel
theorem dX1_passedSoFar_0 : decode cX1_passedSoFar 0 = .ok (.iconst 0, 1) := by decide +kernel
theorem dX1_passedSoFar_1 : decode cX1_passedSoFar 1 = .ok (.istore_n 1, 1) := by decide +kernel
theorem dX1_passedSoFar_2 : decode cX1_passedSoFar 2 = .ok (.iconst 0, 1) := by decide +kernel
theorem dX1_passedSoFar_3 : decode cX1_passedSoFar 3 = .ok (.istore_n 2, 1) := by decide +kernel
theorem dX1_passedSoFar_4 : decode cX1_passedSoFar 4 = .ok (.iload_n 2, 1) := by decide +kernel
theorem dX1_passedSoFar_5 : decode cX1_passedSoFar 5 = .ok (.aload_n 0, 1) := by decide +kernel
theorem dX1_passedSoFar_6 : decode cX1_passedSoFar 6 = .ok (.getfield 15, 3) := by decide +kernel
theorem dX1_passedSoFar_9 : decode cX1_passedSoFar 9 = .ok (.if_icmp .ge 21, 3) := by decide +kernel
theorem dX1_passedSoFar_12 : decode cX1_passedSoFar 12 = .ok (.iload_n 1, 1) := by decide +kernel
theorem dX1_passedSoFar_13 : decode cX1_passedSoFar 13 = .ok (.aload_n 0, 1) := by decide +kernel
theorem dX1_passedSoFar_14 : decode cX1_passedSoFar 14 = .ok (.getfield 45, 3) := by decide +kernel
theorem dX1_passedSoFar_17 : decode cX1_passedSoFar 17 = .ok (.iload_n 2, 1) := by decide +kernel
theorem dX1_passedSoFar_18 : decode cX1_passedSoFar 18 = .ok (.aaload, 1) := by decide +kernel
theorem dX1_passedSoFar_19 : decode cX1_passedSoFar 19 = .ok (.getfield 135, 3) := by decide +kernel
theorem dX1_passedSoFar_22 : decode cX1_passedSoFar 22 = .ok (.iadd, 1) := by decide +kernel
theorem dX1_passedSoFar_23 : decode cX1_passedSoFar 23 = .ok (.istore_n 1, 1) := by decide +kernel
theorem dX1_passedSoFar_24 : decode cX1_passedSoFar 24 = .ok (.iinc 2 1, 3) := by decide +kernel
theorem dX1_passedSoFar_27 : decode cX1_passedSoFar 27 = .ok (.goto (-23), 3) := by decide +kernel
theorem dX1_passedSoFar_30 : decode cX1_passedSoFar 30 = .ok (.iload_n 1, 1) := by decide +kernel
theorem dX1_passedSoFar_31 : decode cX1_passedSoFar 31 = .ok (.ireturn, 1) := by decide +kernel
theorem dX1_movedSoFar_0 : decode cX1_movedSoFar 0 = .ok (.iconst 0, 1) := by decide +kernel
theorem dX1_movedSoFar_1 : decode cX1_movedSoFar 1 = .ok (.istore_n 1, 1) := by decide +kernel
theorem dX1_movedSoFar_2 : decode cX1_movedSoFar 2 = .ok (.iconst 0, 1) := by decide +kernel
theorem dX1_movedSoFar_3 : decode cX1_movedSoFar 3 = .ok (.istore_n 2, 1) := by decide +kernel
theorem dX1_movedSoFar_4 : decode cX1_movedSoFar 4 = .ok (.iload_n 2, 1) := by decide +kernel
theorem dX1_movedSoFar_5 : decode cX1_movedSoFar 5 = .ok (.aload_n 0, 1) := by decide +kernel
theorem dX1_movedSoFar_6 : decode cX1_movedSoFar 6 = .ok (.getfield 18, 3) := by decide +kernel
theorem dX1_movedSoFar_9 : decode cX1_movedSoFar 9 = .ok (.if_icmp .ge 21, 3) := by decide +kernel
theorem dX1_movedSoFar_12 : decode cX1_movedSoFar 12 = .ok (.iload_n 1, 1) := by decide +kernel
theorem dX1_movedSoFar_13 : decode cX1_movedSoFar 13 = .ok (.aload_n 0, 1) := by decide +kernel
theorem dX1_movedSoFar_14 : decode cX1_movedSoFar 14 = .ok (.getfield 39, 3) := by decide +kernel
theorem dX1_movedSoFar_17 : decode cX1_movedSoFar 17 = .ok (.iload_n 2, 1) := by decide +kernel
theorem dX1_movedSoFar_18 : decode cX1_movedSoFar 18 = .ok (.aaload, 1) := by decide +kernel
theorem dX1_movedSoFar_19 : decode cX1_movedSoFar 19 = .ok (.getfield 114, 3) := by decide +kernel
theorem dX1_movedSoFar_22 : decode cX1_movedSoFar 22 = .ok (.iadd, 1) := by decide +kernel
theorem dX1_movedSoFar_23 : decode cX1_movedSoFar 23 = .ok (.istore_n 1, 1) := by decide +kernel
theorem dX1_movedSoFar_24 : decode cX1_movedSoFar 24 = .ok (.iinc 2 1, 3) := by decide +kernel
theorem dX1_movedSoFar_27 : decode cX1_movedSoFar 27 = .ok (.goto (-23), 3) := by decide +kernel
theorem dX1_movedSoFar_30 : decode cX1_movedSoFar 30 = .ok (.iload_n 1, 1) := by decide +kernel
theorem dX1_movedSoFar_31 : decode cX1_movedSoFar 31 = .ok (.ireturn, 1) := by decide +kernel
theorem dX1_moneyTaken_0 : decode cX1_moneyTaken 0 = .ok (.iconst 0, 1) := by decide +kernel
theorem dX1_moneyTaken_1 : decode cX1_moneyTaken 1 = .ok (.istore_n 1, 1) := by decide +kernel
theorem dX1_moneyTaken_2 : decode cX1_moneyTaken 2 = .ok (.iconst 0, 1) := by decide +kernel
theorem dX1_moneyTaken_3 : decode cX1_moneyTaken 3 = .ok (.istore_n 2, 1) := by decide +kernel
theorem dX1_moneyTaken_4 : decode cX1_moneyTaken 4 = .ok (.iload_n 2, 1) := by decide +kernel
theorem dX1_moneyTaken_5 : decode cX1_moneyTaken 5 = .ok (.aload_n 0, 1) := by decide +kernel
theorem dX1_moneyTaken_6 : decode cX1_moneyTaken 6 = .ok (.getfield 18, 3) := by decide +kernel
theorem dX1_moneyTaken_9 : decode cX1_moneyTaken 9 = .ok (.if_icmp .ge 21, 3) := by decide +kernel
theorem dX1_moneyTaken_12 : decode cX1_moneyTaken 12 = .ok (.iload_n 1, 1) := by decide +kernel
theorem dX1_moneyTaken_13 : decode cX1_moneyTaken 13 = .ok (.aload_n 0, 1) := by decide +kernel
theorem dX1_moneyTaken_14 : decode cX1_moneyTaken 14 = .ok (.getfield 39, 3) := by decide +kernel
theorem dX1_moneyTaken_17 : decode cX1_moneyTaken 17 = .ok (.iload_n 2, 1) := by decide +kernel
theorem dX1_moneyTaken_18 : decode cX1_moneyTaken 18 = .ok (.aaload, 1) := by decide +kernel
theorem dX1_moneyTaken_19 : decode cX1_moneyTaken 19 = .ok (.getfield 89, 3) := by decide +kernel
theorem dX1_moneyTaken_22 : decode cX1_moneyTaken 22 = .ok (.iadd, 1) := by decide +kernel
theorem dX1_moneyTaken_23 : decode cX1_moneyTaken 23 = .ok (.istore_n 1, 1) := by decide +kernel
theorem dX1_moneyTaken_24 : decode cX1_moneyTaken 24 = .ok (.iinc 2 1, 3) := by decide +kernel
theorem dX1_moneyTaken_27 : decode cX1_moneyTaken 27 = .ok (.goto (-23), 3) := by decide +kernel
theorem dX1_moneyTaken_30 : decode cX1_moneyTaken 30 = .ok (.iload_n 1, 1) := by decide +kernel
theorem dX1_moneyTaken_31 : decode cX1_moneyTaken 31 = .ok (.ireturn, 1) := by decide +kernel
theorem dX1_freeSlots_0 : decode cX1_freeSlots 0 = .ok (.iconst 0, 1) := by decide +kernel
theorem dX1_freeSlots_1 : decode cX1_freeSlots 1 = .ok (.istore_n 1, 1) := by decide +kernel
theorem dX1_freeSlots_2 : decode cX1_freeSlots 2 = .ok (.iconst 0, 1) := by decide +kernel
theorem dX1_freeSlots_3 : decode cX1_freeSlots 3 = .ok (.istore_n 2, 1) := by decide +kernel
theorem dX1_freeSlots_4 : decode cX1_freeSlots 4 = .ok (.iload_n 2, 1) := by decide +kernel
theorem dX1_freeSlots_5 : decode cX1_freeSlots 5 = .ok (.aload_n 0, 1) := by decide +kernel
theorem dX1_freeSlots_6 : decode cX1_freeSlots 6 = .ok (.getfield 15, 3) := by decide +kernel
theorem dX1_freeSlots_9 : decode cX1_freeSlots 9 = .ok (.if_icmp .ge 18, 3) := by decide +kernel
theorem dX1_freeSlots_12 : decode cX1_freeSlots 12 = .ok (.iload_n 1, 1) := by decide +kernel
theorem dX1_freeSlots_13 : decode cX1_freeSlots 13 = .ok (.aload_n 0, 1) := by decide +kernel
theorem dX1_freeSlots_14 : decode cX1_freeSlots 14 = .ok (.iload_n 2, 1) := by decide +kernel
theorem dX1_freeSlots_15 : decode cX1_freeSlots 15 = .ok (.iconst (-1), 1) := by decide +kernel
theorem dX1_freeSlots_16 : decode cX1_freeSlots 16 = .ok (.invokevirtual 185, 3) := by decide +kernel
theorem dX1_freeSlots_19 : decode cX1_freeSlots 19 = .ok (.iadd, 1) := by decide +kernel
theorem dX1_freeSlots_20 : decode cX1_freeSlots 20 = .ok (.istore_n 1, 1) := by decide +kernel
theorem dX1_freeSlots_21 : decode cX1_freeSlots 21 = .ok (.iinc 2 1, 3) := by decide +kernel
theorem dX1_freeSlots_24 : decode cX1_freeSlots 24 = .ok (.goto (-20), 3) := by decide +kernel
theorem dX1_freeSlots_27 : decode cX1_freeSlots 27 = .ok (.iload_n 1, 1) := by decide +kernel
theorem dX1_freeSlots_28 : decode cX1_freeSlots 28 = .ok (.ireturn, 1) := by decide +kernel
theorem dX1_daysToAllSlots_0 : decode cX1_daysToAllSlots 0 = .ok (.iconst 0, 1) := by decide +kernel
theorem dX1_daysToAllSlots_1 : decode cX1_daysToAllSlots 1 = .ok (.istore_n 1, 1) := by decide +kernel
theorem dX1_daysToAllSlots_2 : decode cX1_daysToAllSlots 2 = .ok (.iconst 0, 1) := by decide +kernel
theorem dX1_daysToAllSlots_3 : decode cX1_daysToAllSlots 3 = .ok (.istore_n 2, 1) := by decide +kernel
theorem dX1_daysToAllSlots_4 : decode cX1_daysToAllSlots 4 = .ok (.iload_n 2, 1) := by decide +kernel
theorem dX1_daysToAllSlots_5 : decode cX1_daysToAllSlots 5 = .ok (.aload_n 0, 1) := by decide +kernel
theorem dX1_daysToAllSlots_6 : decode cX1_daysToAllSlots 6 = .ok (.getfield 34, 3) := by decide +kernel
theorem dX1_daysToAllSlots_9 : decode cX1_daysToAllSlots 9 = .ok (.arraylength, 1) := by decide +kernel
theorem dX1_daysToAllSlots_10 : decode cX1_daysToAllSlots 10 = .ok (.if_icmp .ge 29, 3) := by decide +kernel
theorem dX1_daysToAllSlots_13 : decode cX1_daysToAllSlots 13 = .ok (.aload_n 0, 1) := by decide +kernel
theorem dX1_daysToAllSlots_14 : decode cX1_daysToAllSlots 14 = .ok (.aload_n 0, 1) := by decide +kernel
theorem dX1_daysToAllSlots_15 : decode cX1_daysToAllSlots 15 = .ok (.getfield 34, 3) := by decide +kernel
theorem dX1_daysToAllSlots_18 : decode cX1_daysToAllSlots 18 = .ok (.iload_n 2, 1) := by decide +kernel
theorem dX1_daysToAllSlots_19 : decode cX1_daysToAllSlots 19 = .ok (.iaload, 1) := by decide +kernel
theorem dX1_daysToAllSlots_20 : decode cX1_daysToAllSlots 20 = .ok (.invokevirtual 110, 3) := by decide +kernel
theorem dX1_daysToAllSlots_23 : decode cX1_daysToAllSlots 23 = .ok (.ifCond .eq 10, 3) := by decide +kernel
theorem dX1_daysToAllSlots_26 : decode cX1_daysToAllSlots 26 = .ok (.iload_n 1, 1) := by decide +kernel
theorem dX1_daysToAllSlots_27 : decode cX1_daysToAllSlots 27 = .ok (.iload_n 2, 1) := by decide +kernel
theorem dX1_daysToAllSlots_28 : decode cX1_daysToAllSlots 28 = .ok (.invokestatic 103, 3) := by decide +kernel
theorem dX1_daysToAllSlots_31 : decode cX1_daysToAllSlots 31 = .ok (.iadd, 1) := by decide +kernel
theorem dX1_daysToAllSlots_32 : decode cX1_daysToAllSlots 32 = .ok (.istore_n 1, 1) := by decide +kernel
theorem dX1_daysToAllSlots_33 : decode cX1_daysToAllSlots 33 = .ok (.iinc 2 1, 3) := by decide +kernel
theorem dX1_daysToAllSlots_36 : decode cX1_daysToAllSlots 36 = .ok (.goto (-32), 3) := by decide +kernel
theorem dX1_daysToAllSlots_39 : decode cX1_daysToAllSlots 39 = .ok (.iload_n 1, 1) := by decide +kernel
theorem dX1_daysToAllSlots_40 : decode cX1_daysToAllSlots 40 = .ok (.ireturn, 1) := by decide +kernel
theorem dX2_init_0 : decode cX2_init 0 = .ok (.aload_n 0, 1) := by decide +kernel
theorem dX2_init_1 : decode cX2_init 1 = .ok (.invokespecial 3, 3) := by decide +kernel
theorem dX2_init_4 : decode cX2_init 4 = .ok (.aload_n 0, 1) := by decide +kernel
theorem dX2_init_5 : decode cX2_init 5 = .ok (.bipush 60, 2) := by decide +kernel
theorem dX2_init_7 : decode cX2_init 7 = .ok (.newarray .int, 2) := by decide +kernel
theorem dX2_init_9 : decode cX2_init 9 = .ok (.putfield 9, 3) := by decide +kernel
theorem dX2_init_12 : decode cX2_init 12 = .ok (.aload_n 0, 1) := by decide +kernel
theorem dX2_init_13 : decode cX2_init 13 = .ok (.iconst 0, 1) := by decide +kernel
theorem dX2_init_14 : decode cX2_init 14 = .ok (.putfield 15, 3) := by decide +kernel
theorem dX2_init_17 : decode cX2_init 17 = .ok (.aload_n 0, 1) := by decide +kernel
theorem dX2_init_18 : decode cX2_init 18 = .ok (.iconst 0, 1) := by decide +kernel
theorem dX2_init_19 : decode cX2_init 19 = .ok (.putfield 19, 3) := by decide +kernel
theorem dX2_init_22 : decode cX2_init 22 = .ok (.aload_n 0, 1) := by decide +kernel
theorem dX2_init_23 : decode cX2_init 23 = .ok (.iconst 0, 1) := by decide +kernel
theorem dX2_init_24 : decode cX2_init 24 = .ok (.putfield 22, 3) := by decide +kernel
theorem dX2_init_27 : decode cX2_init 27 = .ok (.aload_n 0, 1) := by decide +kernel
theorem dX2_init_28 : decode cX2_init 28 = .ok (.bipush 60, 2) := by decide +kernel
theorem dX2_init_30 : decode cX2_init 30 = .ok (.newarray .int, 2) := by decide +kernel
theorem dX2_init_32 : decode cX2_init 32 = .ok (.putfield 25, 3) := by decide +kernel
theorem dX2_init_35 : decode cX2_init 35 = .ok (.aload_n 0, 1) := by decide +kernel
theorem dX2_init_36 : decode cX2_init 36 = .ok (.bipush 60, 2) := by decide +kernel
theorem dX2_init_38 : decode cX2_init 38 = .ok (.newarray .int, 2) := by decide +kernel
theorem dX2_init_40 : decode cX2_init 40 = .ok (.putfield 28, 3) := by decide +kernel
theorem dX2_init_43 : decode cX2_init 43 = .ok (.aload_n 0, 1) := by decide +kernel
theorem dX2_init_44 : decode cX2_init 44 = .ok (.bipush 60, 2) := by decide +kernel
theorem dX2_init_46 : decode cX2_init 46 = .ok (.newarray .int, 2) := by decide +kernel
theorem dX2_init_48 : decode cX2_init 48 = .ok (.putfield 31, 3) := by decide +kernel
theorem dX2_init_51 : decode cX2_init 51 = .ok (.return_, 1) := by decide +kernel
theorem dX2_hasRoom_0 : decode cX2_hasRoom 0 = .ok (.aload_n 0, 1) := by decide +kernel
theorem dX2_hasRoom_1 : decode cX2_hasRoom 1 = .ok (.getfield 15, 3) := by decide +kernel
theorem dX2_hasRoom_4 : decode cX2_hasRoom 4 = .ok (.aload_n 0, 1) := by decide +kernel
theorem dX2_hasRoom_5 : decode cX2_hasRoom 5 = .ok (.getfield 9, 3) := by decide +kernel
theorem dX2_hasRoom_8 : decode cX2_hasRoom 8 = .ok (.arraylength, 1) := by decide +kernel
theorem dX2_hasRoom_9 : decode cX2_hasRoom 9 = .ok (.if_icmp .ge 7, 3) := by decide +kernel
theorem dX2_hasRoom_12 : decode cX2_hasRoom 12 = .ok (.iconst 1, 1) := by decide +kernel
theorem dX2_hasRoom_13 : decode cX2_hasRoom 13 = .ok (.goto 4, 3) := by decide +kernel
theorem dX2_hasRoom_16 : decode cX2_hasRoom 16 = .ok (.iconst 0, 1) := by decide +kernel
theorem dX2_hasRoom_17 : decode cX2_hasRoom 17 = .ok (.ireturn, 1) := by decide +kernel
theorem dX2_write_0 : decode cX2_write 0 = .ok (.aload_n 0, 1) := by decide +kernel
theorem dX2_write_1 : decode cX2_write 1 = .ok (.getfield 9, 3) := by decide +kernel
theorem dX2_write_4 : decode cX2_write 4 = .ok (.aload_n 0, 1) := by decide +kernel
theorem dX2_write_5 : decode cX2_write 5 = .ok (.getfield 15, 3) := by decide +kernel
theorem dX2_write_8 : decode cX2_write 8 = .ok (.iload_n 1, 1) := by decide +kernel
theorem dX2_write_9 : decode cX2_write 9 = .ok (.iastore, 1) := by decide +kernel
theorem dX2_write_10 : decode cX2_write 10 = .ok (.aload_n 0, 1) := by decide +kernel
theorem dX2_write_11 : decode cX2_write 11 = .ok (.dup, 1) := by decide +kernel
theorem dX2_write_12 : decode cX2_write 12 = .ok (.getfield 15, 3) := by decide +kernel
theorem dX2_write_15 : decode cX2_write 15 = .ok (.iconst 1, 1) := by decide +kernel
theorem dX2_write_16 : decode cX2_write 16 = .ok (.iadd, 1) := by decide +kernel
theorem dX2_write_17 : decode cX2_write 17 = .ok (.putfield 15, 3) := by decide +kernel
theorem dX2_write_20 : decode cX2_write 20 = .ok (.return_, 1) := by decide +kernel
theorem dX2_read_0 : decode cX2_read 0 = .ok (.aload_n 0, 1) := by decide +kernel
theorem dX2_read_1 : decode cX2_read 1 = .ok (.iconst 0, 1) := by decide +kernel
theorem dX2_read_2 : decode cX2_read 2 = .ok (.putfield 19, 3) := by decide +kernel
theorem dX2_read_5 : decode cX2_read 5 = .ok (.aload_n 0, 1) := by decide +kernel
theorem dX2_read_6 : decode cX2_read 6 = .ok (.iconst 0, 1) := by decide +kernel
theorem dX2_read_7 : decode cX2_read 7 = .ok (.putfield 22, 3) := by decide +kernel
theorem dX2_read_10 : decode cX2_read 10 = .ok (.aload_n 0, 1) := by decide +kernel
theorem dX2_read_11 : decode cX2_read 11 = .ok (.getfield 22, 3) := by decide +kernel
theorem dX2_read_14 : decode cX2_read 14 = .ok (.aload_n 0, 1) := by decide +kernel
theorem dX2_read_15 : decode cX2_read 15 = .ok (.getfield 25, 3) := by decide +kernel
theorem dX2_read_18 : decode cX2_read 18 = .ok (.arraylength, 1) := by decide +kernel
theorem dX2_read_19 : decode cX2_read 19 = .ok (.if_icmp .ge 46, 3) := by decide +kernel
theorem dX2_read_22 : decode cX2_read 22 = .ok (.aload_n 0, 1) := by decide +kernel
theorem dX2_read_23 : decode cX2_read 23 = .ok (.invokevirtual 34, 3) := by decide +kernel
theorem dX2_read_26 : decode cX2_read 26 = .ok (.ifCond .ne 5, 3) := by decide +kernel
theorem dX2_read_29 : decode cX2_read 29 = .ok (.iconst 0, 1) := by decide +kernel
theorem dX2_read_30 : decode cX2_read 30 = .ok (.ireturn, 1) := by decide +kernel
theorem dX2_read_31 : decode cX2_read 31 = .ok (.aload_n 0, 1) := by decide +kernel
theorem dX2_read_32 : decode cX2_read 32 = .ok (.dup, 1) := by decide +kernel
theorem dX2_read_33 : decode cX2_read 33 = .ok (.getfield 22, 3) := by decide +kernel
theorem dX2_read_36 : decode cX2_read 36 = .ok (.iconst 1, 1) := by decide +kernel
theorem dX2_read_37 : decode cX2_read 37 = .ok (.iadd, 1) := by decide +kernel
theorem dX2_read_38 : decode cX2_read 38 = .ok (.putfield 22, 3) := by decide +kernel
theorem dX2_read_41 : decode cX2_read 41 = .ok (.aload_n 0, 1) := by decide +kernel
theorem dX2_read_42 : decode cX2_read 42 = .ok (.getfield 19, 3) := by decide +kernel
theorem dX2_read_45 : decode cX2_read 45 = .ok (.aload_n 0, 1) := by decide +kernel
theorem dX2_read_46 : decode cX2_read 46 = .ok (.getfield 15, 3) := by decide +kernel
theorem dX2_read_49 : decode cX2_read 49 = .ok (.if_icmp .lt 5, 3) := by decide +kernel
theorem dX2_read_52 : decode cX2_read 52 = .ok (.iconst 1, 1) := by decide +kernel
theorem dX2_read_53 : decode cX2_read 53 = .ok (.ireturn, 1) := by decide +kernel
theorem dX2_read_54 : decode cX2_read 54 = .ok (.aload_n 0, 1) := by decide +kernel
theorem dX2_read_55 : decode cX2_read 55 = .ok (.bipush 59, 2) := by decide +kernel
theorem dX2_read_57 : decode cX2_read 57 = .ok (.invokevirtual 38, 3) := by decide +kernel
theorem dX2_read_60 : decode cX2_read 60 = .ok (.ifCond .ne (-50), 3) := by decide +kernel
theorem dX2_read_63 : decode cX2_read 63 = .ok (.iconst 0, 1) := by decide +kernel
theorem dX2_read_64 : decode cX2_read 64 = .ok (.ireturn, 1) := by decide +kernel
theorem dX2_read_65 : decode cX2_read 65 = .ok (.iconst 0, 1) := by decide +kernel
theorem dX2_read_66 : decode cX2_read 66 = .ok (.ireturn, 1) := by decide +kernel
theorem dX2_readOrder_0 : decode cX2_readOrder 0 = .ok (.aload_n 0, 1) := by decide +kernel
theorem dX2_readOrder_1 : decode cX2_readOrder 1 = .ok (.invokevirtual 42, 3) := by decide +kernel
theorem dX2_readOrder_4 : decode cX2_readOrder 4 = .ok (.istore_n 1, 1) := by decide +kernel
theorem dX2_readOrder_5 : decode cX2_readOrder 5 = .ok (.iload_n 1, 1) := by decide +kernel
theorem dX2_readOrder_6 : decode cX2_readOrder 6 = .ok (.iconst (-1), 1) := by decide +kernel
theorem dX2_readOrder_7 : decode cX2_readOrder 7 = .ok (.if_icmp .eq 14, 3) := by decide +kernel
theorem dX2_readOrder_10 : decode cX2_readOrder 10 = .ok (.aload_n 0, 1) := by decide +kernel
theorem dX2_readOrder_11 : decode cX2_readOrder 11 = .ok (.iload_n 1, 1) := by decide +kernel
theorem dX2_readOrder_12 : decode cX2_readOrder 12 = .ok (.invokestatic 46, 3) := by decide +kernel
theorem dX2_readOrder_15 : decode cX2_readOrder 15 = .ok (.invokevirtual 50, 3) := by decide +kernel
theorem dX2_readOrder_18 : decode cX2_readOrder 18 = .ok (.ifCond .ne 5, 3) := by decide +kernel
theorem dX2_readOrder_21 : decode cX2_readOrder 21 = .ok (.iconst 0, 1) := by decide +kernel
theorem dX2_readOrder_22 : decode cX2_readOrder 22 = .ok (.ireturn, 1) := by decide +kernel
theorem dX2_readOrder_23 : decode cX2_readOrder 23 = .ok (.aload_n 0, 1) := by decide +kernel
theorem dX2_readOrder_24 : decode cX2_readOrder 24 = .ok (.getfield 25, 3) := by decide +kernel
theorem dX2_readOrder_27 : decode cX2_readOrder 27 = .ok (.aload_n 0, 1) := by decide +kernel
theorem dX2_readOrder_28 : decode cX2_readOrder 28 = .ok (.getfield 22, 3) := by decide +kernel
theorem dX2_readOrder_31 : decode cX2_readOrder 31 = .ok (.iload_n 1, 1) := by decide +kernel
theorem dX2_readOrder_32 : decode cX2_readOrder 32 = .ok (.iastore, 1) := by decide +kernel
theorem dX2_readOrder_33 : decode cX2_readOrder 33 = .ok (.iload_n 1, 1) := by decide +kernel
theorem dX2_readOrder_34 : decode cX2_readOrder 34 = .ok (.iconst 5, 1) := by decide +kernel
theorem dX2_readOrder_35 : decode cX2_readOrder 35 = .ok (.if_icmp .ne 5, 3) := by decide +kernel
theorem dX2_readOrder_38 : decode cX2_readOrder 38 = .ok (.iconst 1, 1) := by decide +kernel
theorem dX2_readOrder_39 : decode cX2_readOrder 39 = .ok (.ireturn, 1) := by decide +kernel
theorem dX2_readOrder_40 : decode cX2_readOrder 40 = .ok (.aload_n 0, 1) := by decide +kernel
theorem dX2_readOrder_41 : decode cX2_readOrder 41 = .ok (.getfield 28, 3) := by decide +kernel
theorem dX2_readOrder_44 : decode cX2_readOrder 44 = .ok (.aload_n 0, 1) := by decide +kernel
theorem dX2_readOrder_45 : decode cX2_readOrder 45 = .ok (.getfield 22, 3) := by decide +kernel
theorem dX2_readOrder_48 : decode cX2_readOrder 48 = .ok (.aload_n 0, 1) := by decide +kernel
theorem dX2_readOrder_49 : decode cX2_readOrder 49 = .ok (.iload_n 1, 1) := by decide +kernel
theorem dX2_readOrder_50 : decode cX2_readOrder 50 = .ok (.iconst 4, 1) := by decide +kernel
theorem dX2_readOrder_51 : decode cX2_readOrder 51 = .ok (.if_icmp .ne 7, 3) := by decide +kernel
theorem dX2_readOrder_54 : decode cX2_readOrder 54 = .ok (.iconst 3, 1) := by decide +kernel
theorem dX2_readOrder_55 : decode cX2_readOrder 55 = .ok (.goto 5, 3) := by decide +kernel
theorem dX2_readOrder_58 : decode cX2_readOrder 58 = .ok (.bipush 11, 2) := by decide +kernel
theorem dX2_readOrder_60 : decode cX2_readOrder 60 = .ok (.invokevirtual 54, 3) := by decide +kernel
theorem dX2_readOrder_63 : decode cX2_readOrder 63 = .ok (.iastore, 1) := by decide +kernel
theorem dX2_readOrder_64 : decode cX2_readOrder 64 = .ok (.aload_n 0, 1) := by decide +kernel
theorem dX2_readOrder_65 : decode cX2_readOrder 65 = .ok (.getfield 28, 3) := by decide +kernel
theorem dX2_readOrder_68 : decode cX2_readOrder 68 = .ok (.aload_n 0, 1) := by decide +kernel
theorem dX2_readOrder_69 : decode cX2_readOrder 69 = .ok (.getfield 22, 3) := by decide +kernel
theorem dX2_readOrder_72 : decode cX2_readOrder 72 = .ok (.iaload, 1) := by decide +kernel
theorem dX2_readOrder_73 : decode cX2_readOrder 73 = .ok (.iconst (-1), 1) := by decide +kernel
theorem dX2_readOrder_74 : decode cX2_readOrder 74 = .ok (.if_icmp .eq 8, 3) := by decide +kernel
theorem dX2_readOrder_77 : decode cX2_readOrder 77 = .ok (.iload_n 1, 1) := by decide +kernel
theorem dX2_readOrder_78 : decode cX2_readOrder 78 = .ok (.iconst 4, 1) := by decide +kernel
theorem dX2_readOrder_79 : decode cX2_readOrder 79 = .ok (.if_icmp .eq 22, 3) := by decide +kernel
theorem dX2_readOrder_82 : decode cX2_readOrder 82 = .ok (.aload_n 0, 1) := by decide +kernel
theorem dX2_readOrder_83 : decode cX2_readOrder 83 = .ok (.getfield 28, 3) := by decide +kernel
theorem dX2_readOrder_86 : decode cX2_readOrder 86 = .ok (.aload_n 0, 1) := by decide +kernel
theorem dX2_readOrder_87 : decode cX2_readOrder 87 = .ok (.getfield 22, 3) := by decide +kernel
theorem dX2_readOrder_90 : decode cX2_readOrder 90 = .ok (.iaload, 1) := by decide +kernel
theorem dX2_readOrder_91 : decode cX2_readOrder 91 = .ok (.iconst (-1), 1) := by decide +kernel
theorem dX2_readOrder_92 : decode cX2_readOrder 92 = .ok (.if_icmp .eq 7, 3) := by decide +kernel
theorem dX2_readOrder_95 : decode cX2_readOrder 95 = .ok (.iconst 1, 1) := by decide +kernel
theorem dX2_readOrder_96 : decode cX2_readOrder 96 = .ok (.goto 4, 3) := by decide +kernel
theorem dX2_readOrder_99 : decode cX2_readOrder 99 = .ok (.iconst 0, 1) := by decide +kernel
theorem dX2_readOrder_100 : decode cX2_readOrder 100 = .ok (.ireturn, 1) := by decide +kernel
theorem dX2_readOrder_101 : decode cX2_readOrder 101 = .ok (.aload_n 0, 1) := by decide +kernel
theorem dX2_readOrder_102 : decode cX2_readOrder 102 = .ok (.bipush 64, 2) := by decide +kernel
theorem dX2_readOrder_104 : decode cX2_readOrder 104 = .ok (.invokevirtual 38, 3) := by decide +kernel
theorem dX2_readOrder_107 : decode cX2_readOrder 107 = .ok (.ifCond .ne 5, 3) := by decide +kernel
theorem dX2_readOrder_110 : decode cX2_readOrder 110 = .ok (.iconst 0, 1) := by decide +kernel
theorem dX2_readOrder_111 : decode cX2_readOrder 111 = .ok (.ireturn, 1) := by decide +kernel
theorem dX2_readOrder_112 : decode cX2_readOrder 112 = .ok (.aload_n 0, 1) := by decide +kernel
theorem dX2_readOrder_113 : decode cX2_readOrder 113 = .ok (.getfield 31, 3) := by decide +kernel
theorem dX2_readOrder_116 : decode cX2_readOrder 116 = .ok (.aload_n 0, 1) := by decide +kernel
theorem dX2_readOrder_117 : decode cX2_readOrder 117 = .ok (.getfield 22, 3) := by decide +kernel
theorem dX2_readOrder_120 : decode cX2_readOrder 120 = .ok (.aload_n 0, 1) := by decide +kernel
theorem dX2_readOrder_121 : decode cX2_readOrder 121 = .ok (.bipush 9, 2) := by decide +kernel
theorem dX2_readOrder_123 : decode cX2_readOrder 123 = .ok (.invokevirtual 54, 3) := by decide +kernel
theorem dX2_readOrder_126 : decode cX2_readOrder 126 = .ok (.iastore, 1) := by decide +kernel
theorem dX2_readOrder_127 : decode cX2_readOrder 127 = .ok (.aload_n 0, 1) := by decide +kernel
theorem dX2_readOrder_128 : decode cX2_readOrder 128 = .ok (.getfield 31, 3) := by decide +kernel
theorem dX2_readOrder_131 : decode cX2_readOrder 131 = .ok (.aload_n 0, 1) := by decide +kernel
theorem dX2_readOrder_132 : decode cX2_readOrder 132 = .ok (.getfield 22, 3) := by decide +kernel
theorem dX2_readOrder_135 : decode cX2_readOrder 135 = .ok (.iaload, 1) := by decide +kernel
theorem dX2_readOrder_136 : decode cX2_readOrder 136 = .ok (.iconst (-1), 1) := by decide +kernel
theorem dX2_readOrder_137 : decode cX2_readOrder 137 = .ok (.if_icmp .eq 7, 3) := by decide +kernel
theorem dX2_readOrder_140 : decode cX2_readOrder 140 = .ok (.iconst 1, 1) := by decide +kernel
theorem dX2_readOrder_141 : decode cX2_readOrder 141 = .ok (.goto 4, 3) := by decide +kernel
theorem dX2_readOrder_144 : decode cX2_readOrder 144 = .ok (.iconst 0, 1) := by decide +kernel
theorem dX2_readOrder_145 : decode cX2_readOrder 145 = .ok (.ireturn, 1) := by decide +kernel
theorem dX2_kindAhead_0 : decode cX2_kindAhead 0 = .ok (.iconst 0, 1) := by decide +kernel
theorem dX2_kindAhead_1 : decode cX2_kindAhead 1 = .ok (.istore_n 1, 1) := by decide +kernel
theorem dX2_kindAhead_2 : decode cX2_kindAhead 2 = .ok (.iload_n 1, 1) := by decide +kernel
theorem dX2_kindAhead_3 : decode cX2_kindAhead 3 = .ok (.iconst 5, 1) := by decide +kernel
theorem dX2_kindAhead_4 : decode cX2_kindAhead 4 = .ok (.if_icmp .gt 42, 3) := by decide +kernel
theorem dX2_kindAhead_7 : decode cX2_kindAhead 7 = .ok (.aload_n 0, 1) := by decide +kernel
theorem dX2_kindAhead_8 : decode cX2_kindAhead 8 = .ok (.getfield 19, 3) := by decide +kernel
theorem dX2_kindAhead_11 : decode cX2_kindAhead 11 = .ok (.aload_n 0, 1) := by decide +kernel
theorem dX2_kindAhead_12 : decode cX2_kindAhead 12 = .ok (.getfield 15, 3) := by decide +kernel
theorem dX2_kindAhead_15 : decode cX2_kindAhead 15 = .ok (.if_icmp .ge 25, 3) := by decide +kernel
theorem dX2_kindAhead_18 : decode cX2_kindAhead 18 = .ok (.aload_n 0, 1) := by decide +kernel
theorem dX2_kindAhead_19 : decode cX2_kindAhead 19 = .ok (.getfield 9, 3) := by decide +kernel
theorem dX2_kindAhead_22 : decode cX2_kindAhead 22 = .ok (.aload_n 0, 1) := by decide +kernel
theorem dX2_kindAhead_23 : decode cX2_kindAhead 23 = .ok (.getfield 19, 3) := by decide +kernel
theorem dX2_kindAhead_26 : decode cX2_kindAhead 26 = .ok (.iaload, 1) := by decide +kernel
theorem dX2_kindAhead_27 : decode cX2_kindAhead 27 = .ok (.iload_n 1, 1) := by decide +kernel
theorem dX2_kindAhead_28 : decode cX2_kindAhead 28 = .ok (.invokestatic 46, 3) := by decide +kernel
theorem dX2_kindAhead_31 : decode cX2_kindAhead 31 = .ok (.iconst 0, 1) := by decide +kernel
theorem dX2_kindAhead_32 : decode cX2_kindAhead 32 = .ok (.invokevirtual 58, 3) := by decide +kernel
theorem dX2_kindAhead_35 : decode cX2_kindAhead 35 = .ok (.if_icmp .ne 5, 3) := by decide +kernel
theorem dX2_kindAhead_38 : decode cX2_kindAhead 38 = .ok (.iload_n 1, 1) := by decide +kernel
theorem dX2_kindAhead_39 : decode cX2_kindAhead 39 = .ok (.ireturn, 1) := by decide +kernel
theorem dX2_kindAhead_40 : decode cX2_kindAhead 40 = .ok (.iinc 1 1, 3) := by decide +kernel
theorem dX2_kindAhead_43 : decode cX2_kindAhead 43 = .ok (.goto (-41), 3) := by decide +kernel
theorem dX2_kindAhead_46 : decode cX2_kindAhead 46 = .ok (.iconst (-1), 1) := by decide +kernel
theorem dX2_kindAhead_47 : decode cX2_kindAhead 47 = .ok (.ireturn, 1) := by decide +kernel
theorem dX2_wordOf_0 : decode cX2_wordOf 0 = .ok (.iload_n 0, 1) := by decide +kernel
theorem dX2_wordOf_1 : decode cX2_wordOf 1 = .ok (.tableswitch 50 0 4 #[35, 38, 41, 44, 47], 35) := by decide +kernel
theorem dX2_wordOf_36 : decode cX2_wordOf 36 = .ok (.ldc 64, 2) := by decide +kernel
theorem dX2_wordOf_38 : decode cX2_wordOf 38 = .ok (.areturn, 1) := by decide +kernel
theorem dX2_wordOf_39 : decode cX2_wordOf 39 = .ok (.ldc 66, 2) := by decide +kernel
theorem dX2_wordOf_41 : decode cX2_wordOf 41 = .ok (.areturn, 1) := by decide +kernel
theorem dX2_wordOf_42 : decode cX2_wordOf 42 = .ok (.ldc 68, 2) := by decide +kernel
theorem dX2_wordOf_44 : decode cX2_wordOf 44 = .ok (.areturn, 1) := by decide +kernel
theorem dX2_wordOf_45 : decode cX2_wordOf 45 = .ok (.ldc 70, 2) := by decide +kernel
theorem dX2_wordOf_47 : decode cX2_wordOf 47 = .ok (.areturn, 1) := by decide +kernel
theorem dX2_wordOf_48 : decode cX2_wordOf 48 = .ok (.ldc 72, 2) := by decide +kernel
theorem dX2_wordOf_50 : decode cX2_wordOf 50 = .ok (.areturn, 1) := by decide +kernel
theorem dX2_wordOf_51 : decode cX2_wordOf 51 = .ok (.ldc 74, 2) := by decide +kernel
theorem dX2_wordOf_53 : decode cX2_wordOf 53 = .ok (.areturn, 1) := by decide +kernel
theorem dX2_take_0 : decode cX2_take 0 = .ok (.aload_n 0, 1) := by decide +kernel
theorem dX2_take_1 : decode cX2_take 1 = .ok (.getfield 19, 3) := by decide +kernel
theorem dX2_take_4 : decode cX2_take 4 = .ok (.aload_n 0, 1) := by decide +kernel
theorem dX2_take_5 : decode cX2_take 5 = .ok (.getfield 15, 3) := by decide +kernel
theorem dX2_take_8 : decode cX2_take 8 = .ok (.if_icmp .ge 16, 3) := by decide +kernel
theorem dX2_take_11 : decode cX2_take 11 = .ok (.aload_n 0, 1) := by decide +kernel
theorem dX2_take_12 : decode cX2_take 12 = .ok (.getfield 9, 3) := by decide +kernel
theorem dX2_take_15 : decode cX2_take 15 = .ok (.aload_n 0, 1) := by decide +kernel
theorem dX2_take_16 : decode cX2_take 16 = .ok (.getfield 19, 3) := by decide +kernel
theorem dX2_take_19 : decode cX2_take 19 = .ok (.iaload, 1) := by decide +kernel
theorem dX2_take_20 : decode cX2_take 20 = .ok (.iload_n 1, 1) := by decide +kernel
theorem dX2_take_21 : decode cX2_take 21 = .ok (.if_icmp .eq 5, 3) := by decide +kernel
theorem dX2_take_24 : decode cX2_take 24 = .ok (.iconst 0, 1) := by decide +kernel
theorem dX2_take_25 : decode cX2_take 25 = .ok (.ireturn, 1) := by decide +kernel
theorem dX2_take_26 : decode cX2_take 26 = .ok (.aload_n 0, 1) := by decide +kernel
theorem dX2_take_27 : decode cX2_take 27 = .ok (.dup, 1) := by decide +kernel
theorem dX2_take_28 : decode cX2_take 28 = .ok (.getfield 19, 3) := by decide +kernel
theorem dX2_take_31 : decode cX2_take 31 = .ok (.iconst 1, 1) := by decide +kernel
theorem dX2_take_32 : decode cX2_take 32 = .ok (.iadd, 1) := by decide +kernel
theorem dX2_take_33 : decode cX2_take 33 = .ok (.putfield 19, 3) := by decide +kernel
theorem dX2_take_36 : decode cX2_take 36 = .ok (.iconst 1, 1) := by decide +kernel
theorem dX2_take_37 : decode cX2_take 37 = .ok (.ireturn, 1) := by decide +kernel
theorem dX2_takeWord_0 : decode cX2_takeWord 0 = .ok (.iconst 0, 1) := by decide +kernel
theorem dX2_takeWord_1 : decode cX2_takeWord 1 = .ok (.istore_n 2, 1) := by decide +kernel
theorem dX2_takeWord_2 : decode cX2_takeWord 2 = .ok (.iload_n 2, 1) := by decide +kernel
theorem dX2_takeWord_3 : decode cX2_takeWord 3 = .ok (.aload_n 1, 1) := by decide +kernel
theorem dX2_takeWord_4 : decode cX2_takeWord 4 = .ok (.invokevirtual 76, 3) := by decide +kernel
theorem dX2_takeWord_7 : decode cX2_takeWord 7 = .ok (.if_icmp .ge 23, 3) := by decide +kernel
theorem dX2_takeWord_10 : decode cX2_takeWord 10 = .ok (.aload_n 0, 1) := by decide +kernel
theorem dX2_takeWord_11 : decode cX2_takeWord 11 = .ok (.aload_n 1, 1) := by decide +kernel
theorem dX2_takeWord_12 : decode cX2_takeWord 12 = .ok (.iload_n 2, 1) := by decide +kernel
theorem dX2_takeWord_13 : decode cX2_takeWord 13 = .ok (.invokevirtual 58, 3) := by decide +kernel
theorem dX2_takeWord_16 : decode cX2_takeWord 16 = .ok (.invokevirtual 38, 3) := by decide +kernel
theorem dX2_takeWord_19 : decode cX2_takeWord 19 = .ok (.ifCond .ne 5, 3) := by decide +kernel
theorem dX2_takeWord_22 : decode cX2_takeWord 22 = .ok (.iconst 0, 1) := by decide +kernel
theorem dX2_takeWord_23 : decode cX2_takeWord 23 = .ok (.ireturn, 1) := by decide +kernel
theorem dX2_takeWord_24 : decode cX2_takeWord 24 = .ok (.iinc 2 1, 3) := by decide +kernel
theorem dX2_takeWord_27 : decode cX2_takeWord 27 = .ok (.goto (-25), 3) := by decide +kernel
theorem dX2_takeWord_30 : decode cX2_takeWord 30 = .ok (.iconst 1, 1) := by decide +kernel
theorem dX2_takeWord_31 : decode cX2_takeWord 31 = .ok (.ireturn, 1) := by decide +kernel
theorem dX2_takeNumber_0 : decode cX2_takeNumber 0 = .ok (.aload_n 0, 1) := by decide +kernel
theorem dX2_takeNumber_1 : decode cX2_takeNumber 1 = .ok (.invokevirtual 78, 3) := by decide +kernel
theorem dX2_takeNumber_4 : decode cX2_takeNumber 4 = .ok (.istore_n 2, 1) := by decide +kernel
theorem dX2_takeNumber_5 : decode cX2_takeNumber 5 = .ok (.iload_n 2, 1) := by decide +kernel
theorem dX2_takeNumber_6 : decode cX2_takeNumber 6 = .ok (.iconst (-1), 1) := by decide +kernel
theorem dX2_takeNumber_7 : decode cX2_takeNumber 7 = .ok (.if_icmp .eq 8, 3) := by decide +kernel
theorem dX2_takeNumber_10 : decode cX2_takeNumber 10 = .ok (.iload_n 2, 1) := by decide +kernel
theorem dX2_takeNumber_11 : decode cX2_takeNumber 11 = .ok (.iload_n 1, 1) := by decide +kernel
theorem dX2_takeNumber_12 : decode cX2_takeNumber 12 = .ok (.if_icmp .le 5, 3) := by decide +kernel
theorem dX2_takeNumber_15 : decode cX2_takeNumber 15 = .ok (.iconst (-1), 1) := by decide +kernel
theorem dX2_takeNumber_16 : decode cX2_takeNumber 16 = .ok (.ireturn, 1) := by decide +kernel
theorem dX2_takeNumber_17 : decode cX2_takeNumber 17 = .ok (.aload_n 0, 1) := by decide +kernel
theorem dX2_takeNumber_18 : decode cX2_takeNumber 18 = .ok (.dup, 1) := by decide +kernel
theorem dX2_takeNumber_19 : decode cX2_takeNumber 19 = .ok (.getfield 19, 3) := by decide +kernel
theorem dX2_takeNumber_22 : decode cX2_takeNumber 22 = .ok (.iconst 1, 1) := by decide +kernel
theorem dX2_takeNumber_23 : decode cX2_takeNumber 23 = .ok (.iadd, 1) := by decide +kernel
theorem dX2_takeNumber_24 : decode cX2_takeNumber 24 = .ok (.putfield 19, 3) := by decide +kernel
theorem dX2_takeNumber_27 : decode cX2_takeNumber 27 = .ok (.aload_n 0, 1) := by decide +kernel
theorem dX2_takeNumber_28 : decode cX2_takeNumber 28 = .ok (.invokevirtual 78, 3) := by decide +kernel
theorem dX2_takeNumber_31 : decode cX2_takeNumber 31 = .ok (.istore_n 3, 1) := by decide +kernel
theorem dX2_takeNumber_32 : decode cX2_takeNumber 32 = .ok (.iload_n 2, 1) := by decide +kernel
theorem dX2_takeNumber_33 : decode cX2_takeNumber 33 = .ok (.ifCond .eq 18, 3) := by decide +kernel
theorem dX2_takeNumber_36 : decode cX2_takeNumber 36 = .ok (.iload_n 3, 1) := by decide +kernel
theorem dX2_takeNumber_37 : decode cX2_takeNumber 37 = .ok (.iconst (-1), 1) := by decide +kernel
theorem dX2_takeNumber_38 : decode cX2_takeNumber 38 = .ok (.if_icmp .eq 13, 3) := by decide +kernel
theorem dX2_takeNumber_41 : decode cX2_takeNumber 41 = .ok (.bipush 10, 2) := by decide +kernel
theorem dX2_takeNumber_43 : decode cX2_takeNumber 43 = .ok (.iload_n 2, 1) := by decide +kernel
theorem dX2_takeNumber_44 : decode cX2_takeNumber 44 = .ok (.imul, 1) := by decide +kernel
theorem dX2_takeNumber_45 : decode cX2_takeNumber 45 = .ok (.iload_n 3, 1) := by decide +kernel
theorem dX2_takeNumber_46 : decode cX2_takeNumber 46 = .ok (.iadd, 1) := by decide +kernel
theorem dX2_takeNumber_47 : decode cX2_takeNumber 47 = .ok (.iload_n 1, 1) := by decide +kernel
theorem dX2_takeNumber_48 : decode cX2_takeNumber 48 = .ok (.if_icmp .le 5, 3) := by decide +kernel
theorem dX2_takeNumber_51 : decode cX2_takeNumber 51 = .ok (.iload_n 2, 1) := by decide +kernel
theorem dX2_takeNumber_52 : decode cX2_takeNumber 52 = .ok (.ireturn, 1) := by decide +kernel
theorem dX2_takeNumber_53 : decode cX2_takeNumber 53 = .ok (.aload_n 0, 1) := by decide +kernel
theorem dX2_takeNumber_54 : decode cX2_takeNumber 54 = .ok (.dup, 1) := by decide +kernel
theorem dX2_takeNumber_55 : decode cX2_takeNumber 55 = .ok (.getfield 19, 3) := by decide +kernel
theorem dX2_takeNumber_58 : decode cX2_takeNumber 58 = .ok (.iconst 1, 1) := by decide +kernel
theorem dX2_takeNumber_59 : decode cX2_takeNumber 59 = .ok (.iadd, 1) := by decide +kernel
theorem dX2_takeNumber_60 : decode cX2_takeNumber 60 = .ok (.putfield 19, 3) := by decide +kernel
theorem dX2_takeNumber_63 : decode cX2_takeNumber 63 = .ok (.bipush 10, 2) := by decide +kernel
theorem dX2_takeNumber_65 : decode cX2_takeNumber 65 = .ok (.iload_n 2, 1) := by decide +kernel
theorem dX2_takeNumber_66 : decode cX2_takeNumber 66 = .ok (.imul, 1) := by decide +kernel
theorem dX2_takeNumber_67 : decode cX2_takeNumber 67 = .ok (.iload_n 3, 1) := by decide +kernel
theorem dX2_takeNumber_68 : decode cX2_takeNumber 68 = .ok (.iadd, 1) := by decide +kernel
theorem dX2_takeNumber_69 : decode cX2_takeNumber 69 = .ok (.ireturn, 1) := by decide +kernel
theorem dX2_digitAhead_0 : decode cX2_digitAhead 0 = .ok (.aload_n 0, 1) := by decide +kernel
theorem dX2_digitAhead_1 : decode cX2_digitAhead 1 = .ok (.getfield 19, 3) := by decide +kernel
theorem dX2_digitAhead_4 : decode cX2_digitAhead 4 = .ok (.aload_n 0, 1) := by decide +kernel
theorem dX2_digitAhead_5 : decode cX2_digitAhead 5 = .ok (.getfield 15, 3) := by decide +kernel
theorem dX2_digitAhead_8 : decode cX2_digitAhead 8 = .ok (.if_icmp .ge 31, 3) := by decide +kernel
theorem dX2_digitAhead_11 : decode cX2_digitAhead 11 = .ok (.aload_n 0, 1) := by decide +kernel
theorem dX2_digitAhead_12 : decode cX2_digitAhead 12 = .ok (.getfield 9, 3) := by decide +kernel
theorem dX2_digitAhead_15 : decode cX2_digitAhead 15 = .ok (.aload_n 0, 1) := by decide +kernel
theorem dX2_digitAhead_16 : decode cX2_digitAhead 16 = .ok (.getfield 19, 3) := by decide +kernel
theorem dX2_digitAhead_19 : decode cX2_digitAhead 19 = .ok (.iaload, 1) := by decide +kernel
theorem dX2_digitAhead_20 : decode cX2_digitAhead 20 = .ok (.bipush 48, 2) := by decide +kernel
theorem dX2_digitAhead_22 : decode cX2_digitAhead 22 = .ok (.if_icmp .lt 17, 3) := by decide +kernel
theorem dX2_digitAhead_25 : decode cX2_digitAhead 25 = .ok (.aload_n 0, 1) := by decide +kernel
theorem dX2_digitAhead_26 : decode cX2_digitAhead 26 = .ok (.getfield 9, 3) := by decide +kernel
theorem dX2_digitAhead_29 : decode cX2_digitAhead 29 = .ok (.aload_n 0, 1) := by decide +kernel
theorem dX2_digitAhead_30 : decode cX2_digitAhead 30 = .ok (.getfield 19, 3) := by decide +kernel
theorem dX2_digitAhead_33 : decode cX2_digitAhead 33 = .ok (.iaload, 1) := by decide +kernel
theorem dX2_digitAhead_34 : decode cX2_digitAhead 34 = .ok (.bipush 57, 2) := by decide +kernel
theorem dX2_digitAhead_36 : decode cX2_digitAhead 36 = .ok (.if_icmp .le 5, 3) := by decide +kernel
theorem dX2_digitAhead_39 : decode cX2_digitAhead 39 = .ok (.iconst (-1), 1) := by decide +kernel
theorem dX2_digitAhead_40 : decode cX2_digitAhead 40 = .ok (.ireturn, 1) := by decide +kernel
theorem dX2_digitAhead_41 : decode cX2_digitAhead 41 = .ok (.aload_n 0, 1) := by decide +kernel
theorem dX2_digitAhead_42 : decode cX2_digitAhead 42 = .ok (.getfield 9, 3) := by decide +kernel
theorem dX2_digitAhead_45 : decode cX2_digitAhead 45 = .ok (.aload_n 0, 1) := by decide +kernel
theorem dX2_digitAhead_46 : decode cX2_digitAhead 46 = .ok (.getfield 19, 3) := by decide +kernel
theorem dX2_digitAhead_49 : decode cX2_digitAhead 49 = .ok (.iaload, 1) := by decide +kernel
theorem dX2_digitAhead_50 : decode cX2_digitAhead 50 = .ok (.bipush 48, 2) := by decide +kernel
theorem dX2_digitAhead_52 : decode cX2_digitAhead 52 = .ok (.isub, 1) := by decide +kernel
theorem dX2_digitAhead_53 : decode cX2_digitAhead 53 = .ok (.ireturn, 1) := by decide +kernel
theorem dX3_init_0 : decode cX3_init 0 = .ok (.aload_n 0, 1) := by decide +kernel
theorem dX3_init_1 : decode cX3_init 1 = .ok (.invokespecial 3, 3) := by decide +kernel
theorem dX3_init_4 : decode cX3_init 4 = .ok (.aload_n 0, 1) := by decide +kernel
theorem dX3_init_5 : decode cX3_init 5 = .ok (.iconst 0, 1) := by decide +kernel
theorem dX3_init_6 : decode cX3_init 6 = .ok (.putfield 9, 3) := by decide +kernel
theorem dX3_init_9 : decode cX3_init 9 = .ok (.aload_n 0, 1) := by decide +kernel
theorem dX3_init_10 : decode cX3_init 10 = .ok (.iconst 0, 1) := by decide +kernel
theorem dX3_init_11 : decode cX3_init 11 = .ok (.putfield 15, 3) := by decide +kernel
theorem dX3_init_14 : decode cX3_init 14 = .ok (.aload_n 0, 1) := by decide +kernel
theorem dX3_init_15 : decode cX3_init 15 = .ok (.iconst 0, 1) := by decide +kernel
theorem dX3_init_16 : decode cX3_init 16 = .ok (.putfield 18, 3) := by decide +kernel
theorem dX3_init_19 : decode cX3_init 19 = .ok (.aload_n 0, 1) := by decide +kernel
theorem dX3_init_20 : decode cX3_init 20 = .ok (.iconst (-1), 1) := by decide +kernel
theorem dX3_init_21 : decode cX3_init 21 = .ok (.putfield 21, 3) := by decide +kernel
theorem dX3_init_24 : decode cX3_init 24 = .ok (.aload_n 0, 1) := by decide +kernel
theorem dX3_init_25 : decode cX3_init 25 = .ok (.iconst (-1), 1) := by decide +kernel
theorem dX3_init_26 : decode cX3_init 26 = .ok (.putfield 24, 3) := by decide +kernel
theorem dX3_init_29 : decode cX3_init 29 = .ok (.aload_n 0, 1) := by decide +kernel
theorem dX3_init_30 : decode cX3_init 30 = .ok (.iconst 0, 1) := by decide +kernel
theorem dX3_init_31 : decode cX3_init 31 = .ok (.putfield 27, 3) := by decide +kernel
theorem dX3_init_34 : decode cX3_init 34 = .ok (.aload_n 0, 1) := by decide +kernel
theorem dX3_init_35 : decode cX3_init 35 = .ok (.iconst 0, 1) := by decide +kernel
theorem dX3_init_36 : decode cX3_init 36 = .ok (.putfield 30, 3) := by decide +kernel
theorem dX3_init_39 : decode cX3_init 39 = .ok (.aload_n 0, 1) := by decide +kernel
theorem dX3_init_40 : decode cX3_init 40 = .ok (.iconst 0, 1) := by decide +kernel
theorem dX3_init_41 : decode cX3_init 41 = .ok (.putfield 33, 3) := by decide +kernel
theorem dX3_init_44 : decode cX3_init 44 = .ok (.aload_n 0, 1) := by decide +kernel
theorem dX3_init_45 : decode cX3_init 45 = .ok (.iconst 0, 1) := by decide +kernel
theorem dX3_init_46 : decode cX3_init 46 = .ok (.putfield 36, 3) := by decide +kernel
theorem dX3_init_49 : decode cX3_init 49 = .ok (.return_, 1) := by decide +kernel
theorem dX3_copyFrom_0 : decode cX3_copyFrom 0 = .ok (.aload_n 0, 1) := by decide +kernel
theorem dX3_copyFrom_1 : decode cX3_copyFrom 1 = .ok (.aload_n 1, 1) := by decide +kernel
theorem dX3_copyFrom_2 : decode cX3_copyFrom 2 = .ok (.getfield 9, 3) := by decide +kernel
theorem dX3_copyFrom_5 : decode cX3_copyFrom 5 = .ok (.putfield 9, 3) := by decide +kernel
theorem dX3_copyFrom_8 : decode cX3_copyFrom 8 = .ok (.aload_n 0, 1) := by decide +kernel
theorem dX3_copyFrom_9 : decode cX3_copyFrom 9 = .ok (.aload_n 1, 1) := by decide +kernel
theorem dX3_copyFrom_10 : decode cX3_copyFrom 10 = .ok (.getfield 15, 3) := by decide +kernel
theorem dX3_copyFrom_13 : decode cX3_copyFrom 13 = .ok (.putfield 15, 3) := by decide +kernel
theorem dX3_copyFrom_16 : decode cX3_copyFrom 16 = .ok (.aload_n 0, 1) := by decide +kernel
theorem dX3_copyFrom_17 : decode cX3_copyFrom 17 = .ok (.aload_n 1, 1) := by decide +kernel
theorem dX3_copyFrom_18 : decode cX3_copyFrom 18 = .ok (.getfield 18, 3) := by decide +kernel
theorem dX3_copyFrom_21 : decode cX3_copyFrom 21 = .ok (.putfield 18, 3) := by decide +kernel
theorem dX3_copyFrom_24 : decode cX3_copyFrom 24 = .ok (.aload_n 0, 1) := by decide +kernel
theorem dX3_copyFrom_25 : decode cX3_copyFrom 25 = .ok (.aload_n 1, 1) := by decide +kernel
theorem dX3_copyFrom_26 : decode cX3_copyFrom 26 = .ok (.getfield 21, 3) := by decide +kernel
theorem dX3_copyFrom_29 : decode cX3_copyFrom 29 = .ok (.putfield 21, 3) := by decide +kernel
theorem dX3_copyFrom_32 : decode cX3_copyFrom 32 = .ok (.aload_n 0, 1) := by decide +kernel
theorem dX3_copyFrom_33 : decode cX3_copyFrom 33 = .ok (.aload_n 1, 1) := by decide +kernel
theorem dX3_copyFrom_34 : decode cX3_copyFrom 34 = .ok (.getfield 24, 3) := by decide +kernel
theorem dX3_copyFrom_37 : decode cX3_copyFrom 37 = .ok (.putfield 24, 3) := by decide +kernel
theorem dX3_copyFrom_40 : decode cX3_copyFrom 40 = .ok (.aload_n 0, 1) := by decide +kernel
theorem dX3_copyFrom_41 : decode cX3_copyFrom 41 = .ok (.aload_n 1, 1) := by decide +kernel
theorem dX3_copyFrom_42 : decode cX3_copyFrom 42 = .ok (.getfield 27, 3) := by decide +kernel
theorem dX3_copyFrom_45 : decode cX3_copyFrom 45 = .ok (.putfield 27, 3) := by decide +kernel
theorem dX3_copyFrom_48 : decode cX3_copyFrom 48 = .ok (.aload_n 0, 1) := by decide +kernel
theorem dX3_copyFrom_49 : decode cX3_copyFrom 49 = .ok (.aload_n 1, 1) := by decide +kernel
theorem dX3_copyFrom_50 : decode cX3_copyFrom 50 = .ok (.getfield 30, 3) := by decide +kernel
theorem dX3_copyFrom_53 : decode cX3_copyFrom 53 = .ok (.putfield 30, 3) := by decide +kernel
theorem dX3_copyFrom_56 : decode cX3_copyFrom 56 = .ok (.aload_n 0, 1) := by decide +kernel
theorem dX3_copyFrom_57 : decode cX3_copyFrom 57 = .ok (.aload_n 1, 1) := by decide +kernel
theorem dX3_copyFrom_58 : decode cX3_copyFrom 58 = .ok (.getfield 33, 3) := by decide +kernel
theorem dX3_copyFrom_61 : decode cX3_copyFrom 61 = .ok (.putfield 33, 3) := by decide +kernel
theorem dX3_copyFrom_64 : decode cX3_copyFrom 64 = .ok (.aload_n 0, 1) := by decide +kernel
theorem dX3_copyFrom_65 : decode cX3_copyFrom 65 = .ok (.aload_n 1, 1) := by decide +kernel
theorem dX3_copyFrom_66 : decode cX3_copyFrom 66 = .ok (.getfield 36, 3) := by decide +kernel
theorem dX3_copyFrom_69 : decode cX3_copyFrom 69 = .ok (.putfield 36, 3) := by decide +kernel
theorem dX3_copyFrom_72 : decode cX3_copyFrom 72 = .ok (.return_, 1) := by decide +kernel
theorem dX3_comesAheadOf_0 : decode cX3_comesAheadOf 0 = .ok (.aload_n 0, 1) := by decide +kernel
theorem dX3_comesAheadOf_1 : decode cX3_comesAheadOf 1 = .ok (.getfield 27, 3) := by decide +kernel
theorem dX3_comesAheadOf_4 : decode cX3_comesAheadOf 4 = .ok (.aload_n 1, 1) := by decide +kernel
theorem dX3_comesAheadOf_5 : decode cX3_comesAheadOf 5 = .ok (.getfield 27, 3) := by decide +kernel
theorem dX3_comesAheadOf_8 : decode cX3_comesAheadOf 8 = .ok (.if_icmp .gt 25, 3) := by decide +kernel
theorem dX3_comesAheadOf_11 : decode cX3_comesAheadOf 11 = .ok (.aload_n 0, 1) := by decide +kernel
theorem dX3_comesAheadOf_12 : decode cX3_comesAheadOf 12 = .ok (.getfield 27, 3) := by decide +kernel
theorem dX3_comesAheadOf_15 : decode cX3_comesAheadOf 15 = .ok (.aload_n 1, 1) := by decide +kernel
theorem dX3_comesAheadOf_16 : decode cX3_comesAheadOf 16 = .ok (.getfield 27, 3) := by decide +kernel
theorem dX3_comesAheadOf_19 : decode cX3_comesAheadOf 19 = .ok (.if_icmp .ne 18, 3) := by decide +kernel
theorem dX3_comesAheadOf_22 : decode cX3_comesAheadOf 22 = .ok (.aload_n 0, 1) := by decide +kernel
theorem dX3_comesAheadOf_23 : decode cX3_comesAheadOf 23 = .ok (.getfield 30, 3) := by decide +kernel
theorem dX3_comesAheadOf_26 : decode cX3_comesAheadOf 26 = .ok (.aload_n 1, 1) := by decide +kernel
theorem dX3_comesAheadOf_27 : decode cX3_comesAheadOf 27 = .ok (.getfield 30, 3) := by decide +kernel
theorem dX3_comesAheadOf_30 : decode cX3_comesAheadOf 30 = .ok (.if_icmp .ge 7, 3) := by decide +kernel
theorem dX3_comesAheadOf_33 : decode cX3_comesAheadOf 33 = .ok (.iconst 1, 1) := by decide +kernel
theorem dX3_comesAheadOf_34 : decode cX3_comesAheadOf 34 = .ok (.goto 4, 3) := by decide +kernel
theorem dX3_comesAheadOf_37 : decode cX3_comesAheadOf 37 = .ok (.iconst 0, 1) := by decide +kernel
theorem dX3_comesAheadOf_38 : decode cX3_comesAheadOf 38 = .ok (.ireturn, 1) := by decide +kernel
theorem dX4_init_0 : decode cX4_init 0 = .ok (.aload_n 0, 1) := by decide +kernel
theorem dX4_init_1 : decode cX4_init 1 = .ok (.invokespecial 3, 3) := by decide +kernel
theorem dX4_init_4 : decode cX4_init 4 = .ok (.aload_n 0, 1) := by decide +kernel
theorem dX4_init_5 : decode cX4_init 5 = .ok (.new 9, 3) := by decide +kernel
theorem dX4_init_8 : decode cX4_init 8 = .ok (.dup, 1) := by decide +kernel
theorem dX4_init_9 : decode cX4_init 9 = .ok (.invokespecial 11, 3) := by decide +kernel
theorem dX4_init_12 : decode cX4_init 12 = .ok (.putfield 12, 3) := by decide +kernel
theorem dX4_init_15 : decode cX4_init 15 = .ok (.aload_n 0, 1) := by decide +kernel
theorem dX4_init_16 : decode cX4_init 16 = .ok (.new 9, 3) := by decide +kernel
theorem dX4_init_19 : decode cX4_init 19 = .ok (.dup, 1) := by decide +kernel
theorem dX4_init_20 : decode cX4_init 20 = .ok (.invokespecial 11, 3) := by decide +kernel
theorem dX4_init_23 : decode cX4_init 23 = .ok (.putfield 16, 3) := by decide +kernel
theorem dX4_init_26 : decode cX4_init 26 = .ok (.aload_n 0, 1) := by decide +kernel
theorem dX4_init_27 : decode cX4_init 27 = .ok (.bipush 6, 2) := by decide +kernel
theorem dX4_init_29 : decode cX4_init 29 = .ok (.anewarray 9, 3) := by decide +kernel
theorem dX4_init_32 : decode cX4_init 32 = .ok (.putfield 19, 3) := by decide +kernel
theorem dX4_init_35 : decode cX4_init 35 = .ok (.aload_n 0, 1) := by decide +kernel
theorem dX4_init_36 : decode cX4_init 36 = .ok (.iconst 0, 1) := by decide +kernel
theorem dX4_init_37 : decode cX4_init 37 = .ok (.putfield 23, 3) := by decide +kernel
theorem dX4_init_40 : decode cX4_init 40 = .ok (.aload_n 0, 1) := by decide +kernel
theorem dX4_init_41 : decode cX4_init 41 = .ok (.new 27, 3) := by decide +kernel
theorem dX4_init_44 : decode cX4_init 44 = .ok (.dup, 1) := by decide +kernel
theorem dX4_init_45 : decode cX4_init 45 = .ok (.invokespecial 29, 3) := by decide +kernel
theorem dX4_init_48 : decode cX4_init 48 = .ok (.putfield 30, 3) := by decide +kernel
theorem dX4_init_51 : decode cX4_init 51 = .ok (.iconst 0, 1) := by decide +kernel
theorem dX4_init_52 : decode cX4_init 52 = .ok (.istore_n 1, 1) := by decide +kernel
theorem dX4_init_53 : decode cX4_init 53 = .ok (.iload_n 1, 1) := by decide +kernel
theorem dX4_init_54 : decode cX4_init 54 = .ok (.aload_n 0, 1) := by decide +kernel
theorem dX4_init_55 : decode cX4_init 55 = .ok (.getfield 19, 3) := by decide +kernel
theorem dX4_init_58 : decode cX4_init 58 = .ok (.arraylength, 1) := by decide +kernel
theorem dX4_init_59 : decode cX4_init 59 = .ok (.if_icmp .ge 22, 3) := by decide +kernel
theorem dX4_init_62 : decode cX4_init 62 = .ok (.aload_n 0, 1) := by decide +kernel
theorem dX4_init_63 : decode cX4_init 63 = .ok (.getfield 19, 3) := by decide +kernel
theorem dX4_init_66 : decode cX4_init 66 = .ok (.iload_n 1, 1) := by decide +kernel
theorem dX4_init_67 : decode cX4_init 67 = .ok (.new 9, 3) := by decide +kernel
theorem dX4_init_70 : decode cX4_init 70 = .ok (.dup, 1) := by decide +kernel
theorem dX4_init_71 : decode cX4_init 71 = .ok (.invokespecial 11, 3) := by decide +kernel
theorem dX4_init_74 : decode cX4_init 74 = .ok (.aastore, 1) := by decide +kernel
theorem dX4_init_75 : decode cX4_init 75 = .ok (.iinc 1 1, 3) := by decide +kernel
theorem dX4_init_78 : decode cX4_init 78 = .ok (.goto (-25), 3) := by decide +kernel
theorem dX4_init_81 : decode cX4_init 81 = .ok (.return_, 1) := by decide +kernel
theorem dX4_addExaminer_0 : decode cX4_addExaminer 0 = .ok (.aload_n 0, 1) := by decide +kernel
theorem dX4_addExaminer_1 : decode cX4_addExaminer 1 = .ok (.getfield 12, 3) := by decide +kernel
theorem dX4_addExaminer_4 : decode cX4_addExaminer 4 = .ok (.getfield 34, 3) := by decide +kernel
theorem dX4_addExaminer_7 : decode cX4_addExaminer 7 = .ok (.iconst 4, 1) := by decide +kernel
theorem dX4_addExaminer_8 : decode cX4_addExaminer 8 = .ok (.if_icmp .lt 13, 3) := by decide +kernel
theorem dX4_addExaminer_11 : decode cX4_addExaminer 11 = .ok (.new 37, 3) := by decide +kernel
theorem dX4_addExaminer_14 : decode cX4_addExaminer 14 = .ok (.dup, 1) := by decide +kernel
theorem dX4_addExaminer_15 : decode cX4_addExaminer 15 = .ok (.ldc 39, 2) := by decide +kernel
theorem dX4_addExaminer_17 : decode cX4_addExaminer 17 = .ok (.invokespecial 41, 3) := by decide +kernel
theorem dX4_addExaminer_20 : decode cX4_addExaminer 20 = .ok (.athrow, 1) := by decide +kernel
theorem dX4_addExaminer_21 : decode cX4_addExaminer 21 = .ok (.aload_n 0, 1) := by decide +kernel
theorem dX4_addExaminer_22 : decode cX4_addExaminer 22 = .ok (.invokevirtual 44, 3) := by decide +kernel
theorem dX4_addExaminer_25 : decode cX4_addExaminer 25 = .ok (.aload_n 0, 1) := by decide +kernel
theorem dX4_addExaminer_26 : decode cX4_addExaminer 26 = .ok (.getfield 12, 3) := by decide +kernel
theorem dX4_addExaminer_29 : decode cX4_addExaminer 29 = .ok (.invokevirtual 47, 3) := by decide +kernel
theorem dX4_addExaminer_32 : decode cX4_addExaminer 32 = .ok (.ireturn, 1) := by decide +kernel
theorem dX4_addPupil_0 : decode cX4_addPupil 0 = .ok (.aload_n 0, 1) := by decide +kernel
theorem dX4_addPupil_1 : decode cX4_addPupil 1 = .ok (.getfield 12, 3) := by decide +kernel
theorem dX4_addPupil_4 : decode cX4_addPupil 4 = .ok (.getfield 51, 3) := by decide +kernel
theorem dX4_addPupil_7 : decode cX4_addPupil 7 = .ok (.bipush 12, 2) := by decide +kernel
theorem dX4_addPupil_9 : decode cX4_addPupil 9 = .ok (.if_icmp .lt 13, 3) := by decide +kernel
theorem dX4_addPupil_12 : decode cX4_addPupil 12 = .ok (.new 37, 3) := by decide +kernel
theorem dX4_addPupil_15 : decode cX4_addPupil 15 = .ok (.dup, 1) := by decide +kernel
theorem dX4_addPupil_16 : decode cX4_addPupil 16 = .ok (.ldc 54, 2) := by decide +kernel
theorem dX4_addPupil_18 : decode cX4_addPupil 18 = .ok (.invokespecial 41, 3) := by decide +kernel
theorem dX4_addPupil_21 : decode cX4_addPupil 21 = .ok (.athrow, 1) := by decide +kernel
theorem dX4_addPupil_22 : decode cX4_addPupil 22 = .ok (.aload_n 0, 1) := by decide +kernel
theorem dX4_addPupil_23 : decode cX4_addPupil 23 = .ok (.invokevirtual 44, 3) := by decide +kernel
theorem dX4_addPupil_26 : decode cX4_addPupil 26 = .ok (.aload_n 0, 1) := by decide +kernel
theorem dX4_addPupil_27 : decode cX4_addPupil 27 = .ok (.getfield 12, 3) := by decide +kernel
theorem dX4_addPupil_30 : decode cX4_addPupil 30 = .ok (.invokevirtual 56, 3) := by decide +kernel
theorem dX4_addPupil_33 : decode cX4_addPupil 33 = .ok (.ireturn, 1) := by decide +kernel
theorem dX4_ask_0 : decode cX4_ask 0 = .ok (.aload_n 0, 1) := by decide +kernel
theorem dX4_ask_1 : decode cX4_ask 1 = .ok (.getfield 12, 3) := by decide +kernel
theorem dX4_ask_4 : decode cX4_ask 4 = .ok (.iload_n 1, 1) := by decide +kernel
theorem dX4_ask_5 : decode cX4_ask 5 = .ok (.invokevirtual 59, 3) := by decide +kernel
theorem dX4_ask_8 : decode cX4_ask 8 = .ok (.ifCond .ne 13, 3) := by decide +kernel
theorem dX4_ask_11 : decode cX4_ask 11 = .ok (.new 63, 3) := by decide +kernel
end
section
theorem dX4_ask_14 : decode cX4_ask 14 = .ok (.dup, 1) := by decide +kernel
theorem dX4_ask_15 : decode cX4_ask 15 = .ok (.ldc 65, 2) := by decide +kernel
theorem dX4_ask_17 : decode cX4_ask 17 = .ok (.invokespecial 67, 3) := by decide +kernel
theorem dX4_ask_20 : decode cX4_ask 20 = .ok (.athrow, 1) := by decide +kernel
theorem dX4_ask_21 : decode cX4_ask 21 = .ok (.aload_n 0, 1) := by decide +kernel
theorem dX4_ask_22 : decode cX4_ask 22 = .ok (.getfield 12, 3) := by decide +kernel
theorem dX4_ask_25 : decode cX4_ask 25 = .ok (.iload_n 1, 1) := by decide +kernel
theorem dX4_ask_26 : decode cX4_ask 26 = .ok (.invokevirtual 68, 3) := by decide +kernel
theorem dX4_ask_29 : decode cX4_ask 29 = .ok (.ifCond .ne 13, 3) := by decide +kernel
theorem dX4_ask_32 : decode cX4_ask 32 = .ok (.new 37, 3) := by decide +kernel
theorem dX4_ask_35 : decode cX4_ask 35 = .ok (.dup, 1) := by decide +kernel
theorem dX4_ask_36 : decode cX4_ask 36 = .ok (.ldc 71, 2) := by decide +kernel
theorem dX4_ask_38 : decode cX4_ask 38 = .ok (.invokespecial 41, 3) := by decide +kernel
theorem dX4_ask_41 : decode cX4_ask 41 = .ok (.athrow, 1) := by decide +kernel
theorem dX4_ask_42 : decode cX4_ask 42 = .ok (.aload_n 0, 1) := by decide +kernel
theorem dX4_ask_43 : decode cX4_ask 43 = .ok (.invokevirtual 44, 3) := by decide +kernel
theorem dX4_ask_46 : decode cX4_ask 46 = .ok (.aload_n 0, 1) := by decide +kernel
theorem dX4_ask_47 : decode cX4_ask 47 = .ok (.getfield 12, 3) := by decide +kernel
theorem dX4_ask_50 : decode cX4_ask 50 = .ok (.iload_n 1, 1) := by decide +kernel
theorem dX4_ask_51 : decode cX4_ask 51 = .ok (.invokevirtual 73, 3) := by decide +kernel
theorem dX4_ask_54 : decode cX4_ask 54 = .ok (.ireturn, 1) := by decide +kernel
theorem dX4_quit_0 : decode cX4_quit 0 = .ok (.aload_n 0, 1) := by decide +kernel
theorem dX4_quit_1 : decode cX4_quit 1 = .ok (.getfield 12, 3) := by decide +kernel
theorem dX4_quit_4 : decode cX4_quit 4 = .ok (.iload_n 1, 1) := by decide +kernel
theorem dX4_quit_5 : decode cX4_quit 5 = .ok (.invokevirtual 59, 3) := by decide +kernel
theorem dX4_quit_8 : decode cX4_quit 8 = .ok (.ifCond .ne 13, 3) := by decide +kernel
theorem dX4_quit_11 : decode cX4_quit 11 = .ok (.new 63, 3) := by decide +kernel
theorem dX4_quit_14 : decode cX4_quit 14 = .ok (.dup, 1) := by decide +kernel
theorem dX4_quit_15 : decode cX4_quit 15 = .ok (.ldc 65, 2) := by decide +kernel
theorem dX4_quit_17 : decode cX4_quit 17 = .ok (.invokespecial 67, 3) := by decide +kernel
theorem dX4_quit_20 : decode cX4_quit 20 = .ok (.athrow, 1) := by decide +kernel
theorem dX4_quit_21 : decode cX4_quit 21 = .ok (.aload_n 0, 1) := by decide +kernel
theorem dX4_quit_22 : decode cX4_quit 22 = .ok (.getfield 12, 3) := by decide +kernel
theorem dX4_quit_25 : decode cX4_quit 25 = .ok (.iload_n 1, 1) := by decide +kernel
theorem dX4_quit_26 : decode cX4_quit 26 = .ok (.invokevirtual 77, 3) := by decide +kernel
theorem dX4_quit_29 : decode cX4_quit 29 = .ok (.ifCond .ne 13, 3) := by decide +kernel
theorem dX4_quit_32 : decode cX4_quit 32 = .ok (.new 37, 3) := by decide +kernel
theorem dX4_quit_35 : decode cX4_quit 35 = .ok (.dup, 1) := by decide +kernel
theorem dX4_quit_36 : decode cX4_quit 36 = .ok (.ldc 80, 2) := by decide +kernel
theorem dX4_quit_38 : decode cX4_quit 38 = .ok (.invokespecial 41, 3) := by decide +kernel
theorem dX4_quit_41 : decode cX4_quit 41 = .ok (.athrow, 1) := by decide +kernel
theorem dX4_quit_42 : decode cX4_quit 42 = .ok (.aload_n 0, 1) := by decide +kernel
theorem dX4_quit_43 : decode cX4_quit 43 = .ok (.invokevirtual 44, 3) := by decide +kernel
theorem dX4_quit_46 : decode cX4_quit 46 = .ok (.aload_n 0, 1) := by decide +kernel
theorem dX4_quit_47 : decode cX4_quit 47 = .ok (.getfield 12, 3) := by decide +kernel
theorem dX4_quit_50 : decode cX4_quit 50 = .ok (.iload_n 1, 1) := by decide +kernel
theorem dX4_quit_51 : decode cX4_quit 51 = .ok (.invokevirtual 82, 3) := by decide +kernel
theorem dX4_quit_54 : decode cX4_quit 54 = .ok (.ireturn, 1) := by decide +kernel
theorem dX4_cancel_0 : decode cX4_cancel 0 = .ok (.aload_n 0, 1) := by decide +kernel
theorem dX4_cancel_1 : decode cX4_cancel 1 = .ok (.getfield 12, 3) := by decide +kernel
theorem dX4_cancel_4 : decode cX4_cancel 4 = .ok (.iload_n 1, 1) := by decide +kernel
theorem dX4_cancel_5 : decode cX4_cancel 5 = .ok (.invokevirtual 85, 3) := by decide +kernel
theorem dX4_cancel_8 : decode cX4_cancel 8 = .ok (.ifCond .ne 13, 3) := by decide +kernel
theorem dX4_cancel_11 : decode cX4_cancel 11 = .ok (.new 63, 3) := by decide +kernel
theorem dX4_cancel_14 : decode cX4_cancel 14 = .ok (.dup, 1) := by decide +kernel
theorem dX4_cancel_15 : decode cX4_cancel 15 = .ok (.ldc 88, 2) := by decide +kernel
theorem dX4_cancel_17 : decode cX4_cancel 17 = .ok (.invokespecial 67, 3) := by decide +kernel
theorem dX4_cancel_20 : decode cX4_cancel 20 = .ok (.athrow, 1) := by decide +kernel
theorem dX4_cancel_21 : decode cX4_cancel 21 = .ok (.iload_n 2, 1) := by decide +kernel
theorem dX4_cancel_22 : decode cX4_cancel 22 = .ok (.iconst 0, 1) := by decide +kernel
theorem dX4_cancel_23 : decode cX4_cancel 23 = .ok (.bipush 9, 2) := by decide +kernel
theorem dX4_cancel_25 : decode cX4_cancel 25 = .ok (.invokestatic 90, 3) := by decide +kernel
theorem dX4_cancel_28 : decode cX4_cancel 28 = .ok (.ifCond .ne 13, 3) := by decide +kernel
theorem dX4_cancel_31 : decode cX4_cancel 31 = .ok (.new 94, 3) := by decide +kernel
theorem dX4_cancel_34 : decode cX4_cancel 34 = .ok (.dup, 1) := by decide +kernel
theorem dX4_cancel_35 : decode cX4_cancel 35 = .ok (.ldc 96, 2) := by decide +kernel
theorem dX4_cancel_37 : decode cX4_cancel 37 = .ok (.invokespecial 98, 3) := by decide +kernel
theorem dX4_cancel_40 : decode cX4_cancel 40 = .ok (.athrow, 1) := by decide +kernel
theorem dX4_cancel_41 : decode cX4_cancel 41 = .ok (.aload_n 0, 1) := by decide +kernel
theorem dX4_cancel_42 : decode cX4_cancel 42 = .ok (.invokevirtual 44, 3) := by decide +kernel
theorem dX4_cancel_45 : decode cX4_cancel 45 = .ok (.aload_n 0, 1) := by decide +kernel
theorem dX4_cancel_46 : decode cX4_cancel 46 = .ok (.getfield 12, 3) := by decide +kernel
theorem dX4_cancel_49 : decode cX4_cancel 49 = .ok (.iload_n 1, 1) := by decide +kernel
theorem dX4_cancel_50 : decode cX4_cancel 50 = .ok (.iload_n 2, 1) := by decide +kernel
theorem dX4_cancel_51 : decode cX4_cancel 51 = .ok (.invokevirtual 99, 3) := by decide +kernel
theorem dX4_cancel_54 : decode cX4_cancel 54 = .ok (.ireturn, 1) := by decide +kernel
theorem dX4_test_0 : decode cX4_test 0 = .ok (.aload_n 0, 1) := by decide +kernel
theorem dX4_test_1 : decode cX4_test 1 = .ok (.getfield 12, 3) := by decide +kernel
theorem dX4_test_4 : decode cX4_test 4 = .ok (.iload_n 1, 1) := by decide +kernel
theorem dX4_test_5 : decode cX4_test 5 = .ok (.invokevirtual 59, 3) := by decide +kernel
theorem dX4_test_8 : decode cX4_test 8 = .ok (.ifCond .ne 13, 3) := by decide +kernel
theorem dX4_test_11 : decode cX4_test 11 = .ok (.new 63, 3) := by decide +kernel
theorem dX4_test_14 : decode cX4_test 14 = .ok (.dup, 1) := by decide +kernel
theorem dX4_test_15 : decode cX4_test 15 = .ok (.ldc 65, 2) := by decide +kernel
theorem dX4_test_17 : decode cX4_test 17 = .ok (.invokespecial 67, 3) := by decide +kernel
theorem dX4_test_20 : decode cX4_test 20 = .ok (.athrow, 1) := by decide +kernel
theorem dX4_test_21 : decode cX4_test 21 = .ok (.aload_n 0, 1) := by decide +kernel
theorem dX4_test_22 : decode cX4_test 22 = .ok (.getfield 12, 3) := by decide +kernel
theorem dX4_test_25 : decode cX4_test 25 = .ok (.iload_n 1, 1) := by decide +kernel
theorem dX4_test_26 : decode cX4_test 26 = .ok (.invokevirtual 103, 3) := by decide +kernel
theorem dX4_test_29 : decode cX4_test 29 = .ok (.ifCond .ne 13, 3) := by decide +kernel
theorem dX4_test_32 : decode cX4_test 32 = .ok (.new 37, 3) := by decide +kernel
theorem dX4_test_35 : decode cX4_test 35 = .ok (.dup, 1) := by decide +kernel
theorem dX4_test_36 : decode cX4_test 36 = .ok (.ldc 106, 2) := by decide +kernel
theorem dX4_test_38 : decode cX4_test 38 = .ok (.invokespecial 41, 3) := by decide +kernel
theorem dX4_test_41 : decode cX4_test 41 = .ok (.athrow, 1) := by decide +kernel
theorem dX4_test_42 : decode cX4_test 42 = .ok (.aload_n 0, 1) := by decide +kernel
theorem dX4_test_43 : decode cX4_test 43 = .ok (.invokevirtual 44, 3) := by decide +kernel
theorem dX4_test_46 : decode cX4_test 46 = .ok (.aload_n 0, 1) := by decide +kernel
theorem dX4_test_47 : decode cX4_test 47 = .ok (.getfield 12, 3) := by decide +kernel
theorem dX4_test_50 : decode cX4_test 50 = .ok (.iload_n 1, 1) := by decide +kernel
theorem dX4_test_51 : decode cX4_test 51 = .ok (.iload_n 2, 1) := by decide +kernel
theorem dX4_test_52 : decode cX4_test 52 = .ok (.invokevirtual 108, 3) := by decide +kernel
theorem dX4_test_55 : decode cX4_test 55 = .ok (.ireturn, 1) := by decide +kernel
theorem dX4_next_0 : decode cX4_next 0 = .ok (.aload_n 0, 1) := by decide +kernel
theorem dX4_next_1 : decode cX4_next 1 = .ok (.getfield 12, 3) := by decide +kernel
theorem dX4_next_4 : decode cX4_next 4 = .ok (.invokevirtual 112, 3) := by decide +kernel
theorem dX4_next_7 : decode cX4_next 7 = .ok (.ifCond .ne 13, 3) := by decide +kernel
theorem dX4_next_10 : decode cX4_next 10 = .ok (.new 37, 3) := by decide +kernel
theorem dX4_next_13 : decode cX4_next 13 = .ok (.dup, 1) := by decide +kernel
theorem dX4_next_14 : decode cX4_next 14 = .ok (.ldc 116, 2) := by decide +kernel
theorem dX4_next_16 : decode cX4_next 16 = .ok (.invokespecial 41, 3) := by decide +kernel
theorem dX4_next_19 : decode cX4_next 19 = .ok (.athrow, 1) := by decide +kernel
theorem dX4_next_20 : decode cX4_next 20 = .ok (.aload_n 0, 1) := by decide +kernel
theorem dX4_next_21 : decode cX4_next 21 = .ok (.invokevirtual 44, 3) := by decide +kernel
theorem dX4_next_24 : decode cX4_next 24 = .ok (.aload_n 0, 1) := by decide +kernel
theorem dX4_next_25 : decode cX4_next 25 = .ok (.getfield 12, 3) := by decide +kernel
theorem dX4_next_28 : decode cX4_next 28 = .ok (.invokevirtual 118, 3) := by decide +kernel
theorem dX4_next_31 : decode cX4_next 31 = .ok (.ireturn, 1) := by decide +kernel
theorem dX4_set_0 : decode cX4_set 0 = .ok (.iload_n 1, 1) := by decide +kernel
theorem dX4_set_1 : decode cX4_set 1 = .ok (.invokestatic 121, 3) := by decide +kernel
theorem dX4_set_4 : decode cX4_set 4 = .ok (.ifCond .ne 13, 3) := by decide +kernel
theorem dX4_set_7 : decode cX4_set 7 = .ok (.new 63, 3) := by decide +kernel
theorem dX4_set_10 : decode cX4_set 10 = .ok (.dup, 1) := by decide +kernel
theorem dX4_set_11 : decode cX4_set 11 = .ok (.ldc 124, 2) := by decide +kernel
theorem dX4_set_13 : decode cX4_set 13 = .ok (.invokespecial 67, 3) := by decide +kernel
theorem dX4_set_16 : decode cX4_set 16 = .ok (.athrow, 1) := by decide +kernel
theorem dX4_set_17 : decode cX4_set 17 = .ok (.iload_n 2, 1) := by decide +kernel
theorem dX4_set_18 : decode cX4_set 18 = .ok (.iconst 0, 1) := by decide +kernel
theorem dX4_set_19 : decode cX4_set 19 = .ok (.getstatic 126, 3) := by decide +kernel
theorem dX4_set_22 : decode cX4_set 22 = .ok (.iload_n 1, 1) := by decide +kernel
theorem dX4_set_23 : decode cX4_set 23 = .ok (.iaload, 1) := by decide +kernel
theorem dX4_set_24 : decode cX4_set 24 = .ok (.invokestatic 90, 3) := by decide +kernel
theorem dX4_set_27 : decode cX4_set 27 = .ok (.ifCond .ne 13, 3) := by decide +kernel
theorem dX4_set_30 : decode cX4_set 30 = .ok (.new 94, 3) := by decide +kernel
theorem dX4_set_33 : decode cX4_set 33 = .ok (.dup, 1) := by decide +kernel
theorem dX4_set_34 : decode cX4_set 34 = .ok (.ldc 130, 2) := by decide +kernel
theorem dX4_set_36 : decode cX4_set 36 = .ok (.invokespecial 98, 3) := by decide +kernel
theorem dX4_set_39 : decode cX4_set 39 = .ok (.athrow, 1) := by decide +kernel
theorem dX4_set_40 : decode cX4_set 40 = .ok (.aload_n 0, 1) := by decide +kernel
theorem dX4_set_41 : decode cX4_set 41 = .ok (.invokevirtual 44, 3) := by decide +kernel
theorem dX4_set_44 : decode cX4_set 44 = .ok (.aload_n 0, 1) := by decide +kernel
theorem dX4_set_45 : decode cX4_set 45 = .ok (.getfield 12, 3) := by decide +kernel
theorem dX4_set_48 : decode cX4_set 48 = .ok (.getfield 132, 3) := by decide +kernel
theorem dX4_set_51 : decode cX4_set 51 = .ok (.iload_n 1, 1) := by decide +kernel
theorem dX4_set_52 : decode cX4_set 52 = .ok (.iaload, 1) := by decide +kernel
theorem dX4_set_53 : decode cX4_set 53 = .ok (.istore_n 3, 1) := by decide +kernel
theorem dX4_set_54 : decode cX4_set 54 = .ok (.aload_n 0, 1) := by decide +kernel
theorem dX4_set_55 : decode cX4_set 55 = .ok (.getfield 12, 3) := by decide +kernel
theorem dX4_set_58 : decode cX4_set 58 = .ok (.getfield 132, 3) := by decide +kernel
theorem dX4_set_61 : decode cX4_set 61 = .ok (.iload_n 1, 1) := by decide +kernel
theorem dX4_set_62 : decode cX4_set 62 = .ok (.iload_n 2, 1) := by decide +kernel
theorem dX4_set_63 : decode cX4_set 63 = .ok (.iastore, 1) := by decide +kernel
theorem dX4_set_64 : decode cX4_set 64 = .ok (.iload_n 3, 1) := by decide +kernel
theorem dX4_set_65 : decode cX4_set 65 = .ok (.ireturn, 1) := by decide +kernel
theorem dX4_append_0 : decode cX4_append 0 = .ok (.iload_n 1, 1) := by decide +kernel
theorem dX4_append_1 : decode cX4_append 1 = .ok (.bipush 33, 2) := by decide +kernel
theorem dX4_append_3 : decode cX4_append 3 = .ok (.bipush 126, 2) := by decide +kernel
theorem dX4_append_5 : decode cX4_append 5 = .ok (.invokestatic 90, 3) := by decide +kernel
theorem dX4_append_8 : decode cX4_append 8 = .ok (.ifCond .ne 13, 3) := by decide +kernel
theorem dX4_append_11 : decode cX4_append 11 = .ok (.new 94, 3) := by decide +kernel
theorem dX4_append_14 : decode cX4_append 14 = .ok (.dup, 1) := by decide +kernel
theorem dX4_append_15 : decode cX4_append 15 = .ok (.ldc 135, 2) := by decide +kernel
theorem dX4_append_17 : decode cX4_append 17 = .ok (.invokespecial 98, 3) := by decide +kernel
theorem dX4_append_20 : decode cX4_append 20 = .ok (.athrow, 1) := by decide +kernel
theorem dX4_append_21 : decode cX4_append 21 = .ok (.aload_n 0, 1) := by decide +kernel
theorem dX4_append_22 : decode cX4_append 22 = .ok (.getfield 30, 3) := by decide +kernel
theorem dX4_append_25 : decode cX4_append 25 = .ok (.invokevirtual 137, 3) := by decide +kernel
theorem dX4_append_28 : decode cX4_append 28 = .ok (.ifCond .ne 13, 3) := by decide +kernel
theorem dX4_append_31 : decode cX4_append 31 = .ok (.new 37, 3) := by decide +kernel
theorem dX4_append_34 : decode cX4_append 34 = .ok (.dup, 1) := by decide +kernel
theorem dX4_append_35 : decode cX4_append 35 = .ok (.ldc 140, 2) := by decide +kernel
theorem dX4_append_37 : decode cX4_append 37 = .ok (.invokespecial 41, 3) := by decide +kernel
theorem dX4_append_40 : decode cX4_append 40 = .ok (.athrow, 1) := by decide +kernel
theorem dX4_append_41 : decode cX4_append 41 = .ok (.aload_n 0, 1) := by decide +kernel
theorem dX4_append_42 : decode cX4_append 42 = .ok (.getfield 30, 3) := by decide +kernel
theorem dX4_append_45 : decode cX4_append 45 = .ok (.iload_n 1, 1) := by decide +kernel
theorem dX4_append_46 : decode cX4_append 46 = .ok (.invokevirtual 142, 3) := by decide +kernel
theorem dX4_append_49 : decode cX4_append 49 = .ok (.aload_n 0, 1) := by decide +kernel
theorem dX4_append_50 : decode cX4_append 50 = .ok (.getfield 30, 3) := by decide +kernel
theorem dX4_append_53 : decode cX4_append 53 = .ok (.getfield 146, 3) := by decide +kernel
theorem dX4_append_56 : decode cX4_append 56 = .ok (.ireturn, 1) := by decide +kernel
theorem dX4_clearBuffer_0 : decode cX4_clearBuffer 0 = .ok (.aload_n 0, 1) := by decide +kernel
theorem dX4_clearBuffer_1 : decode cX4_clearBuffer 1 = .ok (.getfield 30, 3) := by decide +kernel
theorem dX4_clearBuffer_4 : decode cX4_clearBuffer 4 = .ok (.getfield 146, 3) := by decide +kernel
theorem dX4_clearBuffer_7 : decode cX4_clearBuffer 7 = .ok (.istore_n 1, 1) := by decide +kernel
theorem dX4_clearBuffer_8 : decode cX4_clearBuffer 8 = .ok (.aload_n 0, 1) := by decide +kernel
theorem dX4_clearBuffer_9 : decode cX4_clearBuffer 9 = .ok (.getfield 30, 3) := by decide +kernel
theorem dX4_clearBuffer_12 : decode cX4_clearBuffer 12 = .ok (.iconst 0, 1) := by decide +kernel
theorem dX4_clearBuffer_13 : decode cX4_clearBuffer 13 = .ok (.putfield 146, 3) := by decide +kernel
theorem dX4_clearBuffer_16 : decode cX4_clearBuffer 16 = .ok (.iload_n 1, 1) := by decide +kernel
theorem dX4_clearBuffer_17 : decode cX4_clearBuffer 17 = .ok (.ireturn, 1) := by decide +kernel
theorem dX4_firstError_0 : decode cX4_firstError 0 = .ok (.aload_n 0, 1) := by decide +kernel
theorem dX4_firstError_1 : decode cX4_firstError 1 = .ok (.getfield 30, 3) := by decide +kernel
theorem dX4_firstError_4 : decode cX4_firstError 4 = .ok (.invokevirtual 149, 3) := by decide +kernel
theorem dX4_firstError_7 : decode cX4_firstError 7 = .ok (.pop, 1) := by decide +kernel
theorem dX4_firstError_8 : decode cX4_firstError 8 = .ok (.aload_n 0, 1) := by decide +kernel
theorem dX4_firstError_9 : decode cX4_firstError 9 = .ok (.getfield 30, 3) := by decide +kernel
theorem dX4_firstError_12 : decode cX4_firstError 12 = .ok (.getfield 152, 3) := by decide +kernel
theorem dX4_firstError_15 : decode cX4_firstError 15 = .ok (.ireturn, 1) := by decide +kernel
theorem dX4_run_0 : decode cX4_run 0 = .ok (.aload_n 0, 1) := by decide +kernel
theorem dX4_run_1 : decode cX4_run 1 = .ok (.getfield 30, 3) := by decide +kernel
theorem dX4_run_4 : decode cX4_run 4 = .ok (.invokevirtual 149, 3) := by decide +kernel
theorem dX4_run_7 : decode cX4_run 7 = .ok (.ifCond .ne 13, 3) := by decide +kernel
theorem dX4_run_10 : decode cX4_run 10 = .ok (.new 94, 3) := by decide +kernel
theorem dX4_run_13 : decode cX4_run 13 = .ok (.dup, 1) := by decide +kernel
theorem dX4_run_14 : decode cX4_run 14 = .ok (.ldc 155, 2) := by decide +kernel
theorem dX4_run_16 : decode cX4_run 16 = .ok (.invokespecial 98, 3) := by decide +kernel
theorem dX4_run_19 : decode cX4_run 19 = .ok (.athrow, 1) := by decide +kernel
theorem dX4_run_20 : decode cX4_run 20 = .ok (.aload_n 0, 1) := by decide +kernel
theorem dX4_run_21 : decode cX4_run 21 = .ok (.invokevirtual 44, 3) := by decide +kernel
theorem dX4_run_24 : decode cX4_run 24 = .ok (.iconst 0, 1) := by decide +kernel
theorem dX4_run_25 : decode cX4_run 25 = .ok (.istore_n 1, 1) := by decide +kernel
theorem dX4_run_26 : decode cX4_run 26 = .ok (.iload_n 1, 1) := by decide +kernel
theorem dX4_run_27 : decode cX4_run 27 = .ok (.aload_n 0, 1) := by decide +kernel
theorem dX4_run_28 : decode cX4_run 28 = .ok (.getfield 30, 3) := by decide +kernel
theorem dX4_run_31 : decode cX4_run 31 = .ok (.getfield 157, 3) := by decide +kernel
theorem dX4_run_34 : decode cX4_run 34 = .ok (.if_icmp .ge 17, 3) := by decide +kernel
theorem dX4_run_37 : decode cX4_run 37 = .ok (.aload_n 0, 1) := by decide +kernel
theorem dX4_run_38 : decode cX4_run 38 = .ok (.iload_n 1, 1) := by decide +kernel
theorem dX4_run_39 : decode cX4_run 39 = .ok (.invokevirtual 160, 3) := by decide +kernel
theorem dX4_run_42 : decode cX4_run 42 = .ok (.ifCond .eq 9, 3) := by decide +kernel
theorem dX4_run_45 : decode cX4_run 45 = .ok (.iinc 1 1, 3) := by decide +kernel
theorem dX4_run_48 : decode cX4_run 48 = .ok (.goto (-22), 3) := by decide +kernel
theorem dX4_run_51 : decode cX4_run 51 = .ok (.aload_n 0, 1) := by decide +kernel
theorem dX4_run_52 : decode cX4_run 52 = .ok (.getfield 30, 3) := by decide +kernel
theorem dX4_run_55 : decode cX4_run 55 = .ok (.iconst 0, 1) := by decide +kernel
theorem dX4_run_56 : decode cX4_run 56 = .ok (.putfield 146, 3) := by decide +kernel
theorem dX4_run_59 : decode cX4_run 59 = .ok (.iload_n 1, 1) := by decide +kernel
theorem dX4_run_60 : decode cX4_run 60 = .ok (.ireturn, 1) := by decide +kernel
theorem dX4_undo_0 : decode cX4_undo 0 = .ok (.aload_n 0, 1) := by decide +kernel
theorem dX4_undo_1 : decode cX4_undo 1 = .ok (.getfield 23, 3) := by decide +kernel
theorem dX4_undo_4 : decode cX4_undo 4 = .ok (.iconst 1, 1) := by decide +kernel
theorem dX4_undo_5 : decode cX4_undo 5 = .ok (.aload_n 0, 1) := by decide +kernel
theorem dX4_undo_6 : decode cX4_undo 6 = .ok (.getfield 19, 3) := by decide +kernel
theorem dX4_undo_9 : decode cX4_undo 9 = .ok (.arraylength, 1) := by decide +kernel
theorem dX4_undo_10 : decode cX4_undo 10 = .ok (.invokestatic 90, 3) := by decide +kernel
theorem dX4_undo_13 : decode cX4_undo 13 = .ok (.ifCond .ne 13, 3) := by decide +kernel
theorem dX4_undo_16 : decode cX4_undo 16 = .ok (.new 37, 3) := by decide +kernel
theorem dX4_undo_19 : decode cX4_undo 19 = .ok (.dup, 1) := by decide +kernel
theorem dX4_undo_20 : decode cX4_undo 20 = .ok (.ldc 163, 2) := by decide +kernel
theorem dX4_undo_22 : decode cX4_undo 22 = .ok (.invokespecial 41, 3) := by decide +kernel
theorem dX4_undo_25 : decode cX4_undo 25 = .ok (.athrow, 1) := by decide +kernel
theorem dX4_undo_26 : decode cX4_undo 26 = .ok (.aload_n 0, 1) := by decide +kernel
theorem dX4_undo_27 : decode cX4_undo 27 = .ok (.dup, 1) := by decide +kernel
theorem dX4_undo_28 : decode cX4_undo 28 = .ok (.getfield 23, 3) := by decide +kernel
theorem dX4_undo_31 : decode cX4_undo 31 = .ok (.iconst 1, 1) := by decide +kernel
theorem dX4_undo_32 : decode cX4_undo 32 = .ok (.isub, 1) := by decide +kernel
theorem dX4_undo_33 : decode cX4_undo 33 = .ok (.putfield 23, 3) := by decide +kernel
theorem dX4_undo_36 : decode cX4_undo 36 = .ok (.aload_n 0, 1) := by decide +kernel
theorem dX4_undo_37 : decode cX4_undo 37 = .ok (.getfield 12, 3) := by decide +kernel
theorem dX4_undo_40 : decode cX4_undo 40 = .ok (.aload_n 0, 1) := by decide +kernel
theorem dX4_undo_41 : decode cX4_undo 41 = .ok (.getfield 19, 3) := by decide +kernel
theorem dX4_undo_44 : decode cX4_undo 44 = .ok (.aload_n 0, 1) := by decide +kernel
theorem dX4_undo_45 : decode cX4_undo 45 = .ok (.getfield 23, 3) := by decide +kernel
theorem dX4_undo_48 : decode cX4_undo 48 = .ok (.aaload, 1) := by decide +kernel
theorem dX4_undo_49 : decode cX4_undo 49 = .ok (.invokevirtual 165, 3) := by decide +kernel
theorem dX4_undo_52 : decode cX4_undo 52 = .ok (.aload_n 0, 1) := by decide +kernel
theorem dX4_undo_53 : decode cX4_undo 53 = .ok (.getfield 23, 3) := by decide +kernel
theorem dX4_undo_56 : decode cX4_undo 56 = .ok (.ireturn, 1) := by decide +kernel
theorem dX4_pupil_0 : decode cX4_pupil 0 = .ok (.aload_n 0, 1) := by decide +kernel
theorem dX4_pupil_1 : decode cX4_pupil 1 = .ok (.getfield 12, 3) := by decide +kernel
theorem dX4_pupil_4 : decode cX4_pupil 4 = .ok (.iload_n 1, 1) := by decide +kernel
theorem dX4_pupil_5 : decode cX4_pupil 5 = .ok (.invokevirtual 59, 3) := by decide +kernel
theorem dX4_pupil_8 : decode cX4_pupil 8 = .ok (.ifCond .ne 13, 3) := by decide +kernel
theorem dX4_pupil_11 : decode cX4_pupil 11 = .ok (.new 63, 3) := by decide +kernel
theorem dX4_pupil_14 : decode cX4_pupil 14 = .ok (.dup, 1) := by decide +kernel
theorem dX4_pupil_15 : decode cX4_pupil 15 = .ok (.ldc 65, 2) := by decide +kernel
theorem dX4_pupil_17 : decode cX4_pupil 17 = .ok (.invokespecial 67, 3) := by decide +kernel
theorem dX4_pupil_20 : decode cX4_pupil 20 = .ok (.athrow, 1) := by decide +kernel
theorem dX4_pupil_21 : decode cX4_pupil 21 = .ok (.iload_n 2, 1) := by decide +kernel
theorem dX4_pupil_22 : decode cX4_pupil 22 = .ok (.iconst 0, 1) := by decide +kernel
theorem dX4_pupil_23 : decode cX4_pupil 23 = .ok (.bipush 10, 2) := by decide +kernel
theorem dX4_pupil_25 : decode cX4_pupil 25 = .ok (.invokestatic 90, 3) := by decide +kernel
theorem dX4_pupil_28 : decode cX4_pupil 28 = .ok (.ifCond .ne 13, 3) := by decide +kernel
theorem dX4_pupil_31 : decode cX4_pupil 31 = .ok (.new 94, 3) := by decide +kernel
theorem dX4_pupil_34 : decode cX4_pupil 34 = .ok (.dup, 1) := by decide +kernel
theorem dX4_pupil_35 : decode cX4_pupil 35 = .ok (.ldc 169, 2) := by decide +kernel
theorem dX4_pupil_37 : decode cX4_pupil 37 = .ok (.invokespecial 98, 3) := by decide +kernel
theorem dX4_pupil_40 : decode cX4_pupil 40 = .ok (.athrow, 1) := by decide +kernel
theorem dX4_pupil_41 : decode cX4_pupil 41 = .ok (.aload_n 0, 1) := by decide +kernel
theorem dX4_pupil_42 : decode cX4_pupil 42 = .ok (.getfield 12, 3) := by decide +kernel
theorem dX4_pupil_45 : decode cX4_pupil 45 = .ok (.iload_n 1, 1) := by decide +kernel
theorem dX4_pupil_46 : decode cX4_pupil 46 = .ok (.iload_n 2, 1) := by decide +kernel
theorem dX4_pupil_47 : decode cX4_pupil 47 = .ok (.invokevirtual 171, 3) := by decide +kernel
theorem dX4_pupil_50 : decode cX4_pupil 50 = .ok (.ireturn, 1) := by decide +kernel
theorem dX4_examiner_0 : decode cX4_examiner 0 = .ok (.aload_n 0, 1) := by decide +kernel
theorem dX4_examiner_1 : decode cX4_examiner 1 = .ok (.getfield 12, 3) := by decide +kernel
theorem dX4_examiner_4 : decode cX4_examiner 4 = .ok (.iload_n 1, 1) := by decide +kernel
theorem dX4_examiner_5 : decode cX4_examiner 5 = .ok (.invokevirtual 85, 3) := by decide +kernel
theorem dX4_examiner_8 : decode cX4_examiner 8 = .ok (.ifCond .ne 13, 3) := by decide +kernel
theorem dX4_examiner_11 : decode cX4_examiner 11 = .ok (.new 63, 3) := by decide +kernel
theorem dX4_examiner_14 : decode cX4_examiner 14 = .ok (.dup, 1) := by decide +kernel
theorem dX4_examiner_15 : decode cX4_examiner 15 = .ok (.ldc 88, 2) := by decide +kernel
theorem dX4_examiner_17 : decode cX4_examiner 17 = .ok (.invokespecial 67, 3) := by decide +kernel
theorem dX4_examiner_20 : decode cX4_examiner 20 = .ok (.athrow, 1) := by decide +kernel
theorem dX4_examiner_21 : decode cX4_examiner 21 = .ok (.iload_n 2, 1) := by decide +kernel
theorem dX4_examiner_22 : decode cX4_examiner 22 = .ok (.iconst 0, 1) := by decide +kernel
theorem dX4_examiner_23 : decode cX4_examiner 23 = .ok (.bipush 8, 2) := by decide +kernel
theorem dX4_examiner_25 : decode cX4_examiner 25 = .ok (.invokestatic 90, 3) := by decide +kernel
theorem dX4_examiner_28 : decode cX4_examiner 28 = .ok (.ifCond .ne 13, 3) := by decide +kernel
theorem dX4_examiner_31 : decode cX4_examiner 31 = .ok (.new 94, 3) := by decide +kernel
theorem dX4_examiner_34 : decode cX4_examiner 34 = .ok (.dup, 1) := by decide +kernel
theorem dX4_examiner_35 : decode cX4_examiner 35 = .ok (.ldc 174, 2) := by decide +kernel
theorem dX4_examiner_37 : decode cX4_examiner 37 = .ok (.invokespecial 98, 3) := by decide +kernel
theorem dX4_examiner_40 : decode cX4_examiner 40 = .ok (.athrow, 1) := by decide +kernel
theorem dX4_examiner_41 : decode cX4_examiner 41 = .ok (.aload_n 0, 1) := by decide +kernel
theorem dX4_examiner_42 : decode cX4_examiner 42 = .ok (.getfield 12, 3) := by decide +kernel
theorem dX4_examiner_45 : decode cX4_examiner 45 = .ok (.iload_n 1, 1) := by decide +kernel
theorem dX4_examiner_46 : decode cX4_examiner 46 = .ok (.iload_n 2, 1) := by decide +kernel
theorem dX4_examiner_47 : decode cX4_examiner 47 = .ok (.invokevirtual 176, 3) := by decide +kernel
theorem dX4_examiner_50 : decode cX4_examiner 50 = .ok (.ireturn, 1) := by decide +kernel
theorem dX4_slot_0 : decode cX4_slot 0 = .ok (.aload_n 0, 1) := by decide +kernel
theorem dX4_slot_1 : decode cX4_slot 1 = .ok (.getfield 12, 3) := by decide +kernel
theorem dX4_slot_4 : decode cX4_slot 4 = .ok (.iload_n 1, 1) := by decide +kernel
theorem dX4_slot_5 : decode cX4_slot 5 = .ok (.invokevirtual 85, 3) := by decide +kernel
theorem dX4_slot_8 : decode cX4_slot 8 = .ok (.ifCond .ne 13, 3) := by decide +kernel
theorem dX4_slot_11 : decode cX4_slot 11 = .ok (.new 63, 3) := by decide +kernel
theorem dX4_slot_14 : decode cX4_slot 14 = .ok (.dup, 1) := by decide +kernel
theorem dX4_slot_15 : decode cX4_slot 15 = .ok (.ldc 88, 2) := by decide +kernel
theorem dX4_slot_17 : decode cX4_slot 17 = .ok (.invokespecial 67, 3) := by decide +kernel
theorem dX4_slot_20 : decode cX4_slot 20 = .ok (.athrow, 1) := by decide +kernel
theorem dX4_slot_21 : decode cX4_slot 21 = .ok (.iload_n 2, 1) := by decide +kernel
theorem dX4_slot_22 : decode cX4_slot 22 = .ok (.iconst 0, 1) := by decide +kernel
theorem dX4_slot_23 : decode cX4_slot 23 = .ok (.bipush 9, 2) := by decide +kernel
theorem dX4_slot_25 : decode cX4_slot 25 = .ok (.invokestatic 90, 3) := by decide +kernel
theorem dX4_slot_28 : decode cX4_slot 28 = .ok (.ifCond .eq 12, 3) := by decide +kernel
theorem dX4_slot_31 : decode cX4_slot 31 = .ok (.iload_n 3, 1) := by decide +kernel
theorem dX4_slot_32 : decode cX4_slot 32 = .ok (.iconst 0, 1) := by decide +kernel
theorem dX4_slot_33 : decode cX4_slot 33 = .ok (.iconst 3, 1) := by decide +kernel
theorem dX4_slot_34 : decode cX4_slot 34 = .ok (.invokestatic 90, 3) := by decide +kernel
theorem dX4_slot_37 : decode cX4_slot 37 = .ok (.ifCond .ne 13, 3) := by decide +kernel
theorem dX4_slot_40 : decode cX4_slot 40 = .ok (.new 94, 3) := by decide +kernel
theorem dX4_slot_43 : decode cX4_slot 43 = .ok (.dup, 1) := by decide +kernel
theorem dX4_slot_44 : decode cX4_slot 44 = .ok (.ldc 179, 2) := by decide +kernel
theorem dX4_slot_46 : decode cX4_slot 46 = .ok (.invokespecial 98, 3) := by decide +kernel
theorem dX4_slot_49 : decode cX4_slot 49 = .ok (.athrow, 1) := by decide +kernel
theorem dX4_slot_50 : decode cX4_slot 50 = .ok (.aload_n 0, 1) := by decide +kernel
theorem dX4_slot_51 : decode cX4_slot 51 = .ok (.getfield 12, 3) := by decide +kernel
theorem dX4_slot_54 : decode cX4_slot 54 = .ok (.getfield 181, 3) := by decide +kernel
theorem dX4_slot_57 : decode cX4_slot 57 = .ok (.iload_n 1, 1) := by decide +kernel
theorem dX4_slot_58 : decode cX4_slot 58 = .ok (.iload_n 2, 1) := by decide +kernel
theorem dX4_slot_59 : decode cX4_slot 59 = .ok (.iload_n 3, 1) := by decide +kernel
theorem dX4_slot_60 : decode cX4_slot 60 = .ok (.invokestatic 184, 3) := by decide +kernel
theorem dX4_slot_63 : decode cX4_slot 63 = .ok (.iaload, 1) := by decide +kernel
theorem dX4_slot_64 : decode cX4_slot 64 = .ok (.ireturn, 1) := by decide +kernel
theorem dX4_count_0 : decode cX4_count 0 = .ok (.iload_n 1, 1) := by decide +kernel
theorem dX4_count_1 : decode cX4_count 1 = .ok (.iconst 0, 1) := by decide +kernel
theorem dX4_count_2 : decode cX4_count 2 = .ok (.bipush 14, 2) := by decide +kernel
theorem dX4_count_4 : decode cX4_count 4 = .ok (.invokestatic 90, 3) := by decide +kernel
theorem dX4_count_7 : decode cX4_count 7 = .ok (.ifCond .ne 13, 3) := by decide +kernel
theorem dX4_count_10 : decode cX4_count 10 = .ok (.new 94, 3) := by decide +kernel
theorem dX4_count_13 : decode cX4_count 13 = .ok (.dup, 1) := by decide +kernel
theorem dX4_count_14 : decode cX4_count 14 = .ok (.ldc 188, 2) := by decide +kernel
theorem dX4_count_16 : decode cX4_count 16 = .ok (.invokespecial 98, 3) := by decide +kernel
theorem dX4_count_19 : decode cX4_count 19 = .ok (.athrow, 1) := by decide +kernel
theorem dX4_count_20 : decode cX4_count 20 = .ok (.iload_n 1, 1) := by decide +kernel
theorem dX4_count_21 : decode cX4_count 21 = .ok (.bipush 14, 2) := by decide +kernel
theorem dX4_count_23 : decode cX4_count 23 = .ok (.if_icmp .ne 10, 3) := by decide +kernel
theorem dX4_count_26 : decode cX4_count 26 = .ok (.aload_n 0, 1) := by decide +kernel
theorem dX4_count_27 : decode cX4_count 27 = .ok (.getfield 23, 3) := by decide +kernel
theorem dX4_count_30 : decode cX4_count 30 = .ok (.goto 11, 3) := by decide +kernel
theorem dX4_count_33 : decode cX4_count 33 = .ok (.aload_n 0, 1) := by decide +kernel
theorem dX4_count_34 : decode cX4_count 34 = .ok (.getfield 12, 3) := by decide +kernel
theorem dX4_count_37 : decode cX4_count 37 = .ok (.iload_n 1, 1) := by decide +kernel
theorem dX4_count_38 : decode cX4_count 38 = .ok (.invokevirtual 190, 3) := by decide +kernel
theorem dX4_count_41 : decode cX4_count 41 = .ok (.ireturn, 1) := by decide +kernel
theorem dX4_setting_0 : decode cX4_setting 0 = .ok (.iload_n 1, 1) := by decide +kernel
theorem dX4_setting_1 : decode cX4_setting 1 = .ok (.invokestatic 121, 3) := by decide +kernel
theorem dX4_setting_4 : decode cX4_setting 4 = .ok (.ifCond .ne 13, 3) := by decide +kernel
theorem dX4_setting_7 : decode cX4_setting 7 = .ok (.new 63, 3) := by decide +kernel
theorem dX4_setting_10 : decode cX4_setting 10 = .ok (.dup, 1) := by decide +kernel
theorem dX4_setting_11 : decode cX4_setting 11 = .ok (.ldc 124, 2) := by decide +kernel
theorem dX4_setting_13 : decode cX4_setting 13 = .ok (.invokespecial 67, 3) := by decide +kernel
theorem dX4_setting_16 : decode cX4_setting 16 = .ok (.athrow, 1) := by decide +kernel
theorem dX4_setting_17 : decode cX4_setting 17 = .ok (.aload_n 0, 1) := by decide +kernel
theorem dX4_setting_18 : decode cX4_setting 18 = .ok (.getfield 12, 3) := by decide +kernel
theorem dX4_setting_21 : decode cX4_setting 21 = .ok (.getfield 132, 3) := by decide +kernel
theorem dX4_setting_24 : decode cX4_setting 24 = .ok (.iload_n 1, 1) := by decide +kernel
theorem dX4_setting_25 : decode cX4_setting 25 = .ok (.iaload, 1) := by decide +kernel
theorem dX4_setting_26 : decode cX4_setting 26 = .ok (.ireturn, 1) := by decide +kernel
theorem dX4_earliest_0 : decode cX4_earliest 0 = .ok (.aload_n 0, 1) := by decide +kernel
theorem dX4_earliest_1 : decode cX4_earliest 1 = .ok (.getfield 12, 3) := by decide +kernel
theorem dX4_earliest_4 : decode cX4_earliest 4 = .ok (.iload_n 1, 1) := by decide +kernel
theorem dX4_earliest_5 : decode cX4_earliest 5 = .ok (.invokevirtual 59, 3) := by decide +kernel
theorem dX4_earliest_8 : decode cX4_earliest 8 = .ok (.ifCond .ne 13, 3) := by decide +kernel
theorem dX4_earliest_11 : decode cX4_earliest 11 = .ok (.new 63, 3) := by decide +kernel
theorem dX4_earliest_14 : decode cX4_earliest 14 = .ok (.dup, 1) := by decide +kernel
theorem dX4_earliest_15 : decode cX4_earliest 15 = .ok (.ldc 65, 2) := by decide +kernel
theorem dX4_earliest_17 : decode cX4_earliest 17 = .ok (.invokespecial 67, 3) := by decide +kernel
theorem dX4_earliest_20 : decode cX4_earliest 20 = .ok (.athrow, 1) := by decide +kernel
theorem dX4_earliest_21 : decode cX4_earliest 21 = .ok (.iload_n 2, 1) := by decide +kernel
theorem dX4_earliest_22 : decode cX4_earliest 22 = .ok (.iconst 0, 1) := by decide +kernel
theorem dX4_earliest_23 : decode cX4_earliest 23 = .ok (.iconst 2, 1) := by decide +kernel
theorem dX4_earliest_24 : decode cX4_earliest 24 = .ok (.invokestatic 90, 3) := by decide +kernel
theorem dX4_earliest_27 : decode cX4_earliest 27 = .ok (.ifCond .ne 13, 3) := by decide +kernel
theorem dX4_earliest_30 : decode cX4_earliest 30 = .ok (.new 94, 3) := by decide +kernel
theorem dX4_earliest_33 : decode cX4_earliest 33 = .ok (.dup, 1) := by decide +kernel
theorem dX4_earliest_34 : decode cX4_earliest 34 = .ok (.ldc 193, 2) := by decide +kernel
theorem dX4_earliest_36 : decode cX4_earliest 36 = .ok (.invokespecial 98, 3) := by decide +kernel
theorem dX4_earliest_39 : decode cX4_earliest 39 = .ok (.athrow, 1) := by decide +kernel
theorem dX4_earliest_40 : decode cX4_earliest 40 = .ok (.aload_n 0, 1) := by decide +kernel
theorem dX4_earliest_41 : decode cX4_earliest 41 = .ok (.getfield 12, 3) := by decide +kernel
theorem dX4_earliest_44 : decode cX4_earliest 44 = .ok (.iload_n 1, 1) := by decide +kernel
theorem dX4_earliest_45 : decode cX4_earliest 45 = .ok (.invokevirtual 195, 3) := by decide +kernel
theorem dX4_earliest_48 : decode cX4_earliest 48 = .ok (.iload_n 2, 1) := by decide +kernel
theorem dX4_earliest_49 : decode cX4_earliest 49 = .ok (.invokestatic 198, 3) := by decide +kernel
theorem dX4_earliest_52 : decode cX4_earliest 52 = .ok (.ireturn, 1) := by decide +kernel
theorem dX4_ifCancelled_0 : decode cX4_ifCancelled 0 = .ok (.aload_n 0, 1) := by decide +kernel
theorem dX4_ifCancelled_1 : decode cX4_ifCancelled 1 = .ok (.getfield 12, 3) := by decide +kernel
theorem dX4_ifCancelled_4 : decode cX4_ifCancelled 4 = .ok (.iload_n 1, 1) := by decide +kernel
theorem dX4_ifCancelled_5 : decode cX4_ifCancelled 5 = .ok (.invokevirtual 85, 3) := by decide +kernel
theorem dX4_ifCancelled_8 : decode cX4_ifCancelled 8 = .ok (.ifCond .ne 13, 3) := by decide +kernel
theorem dX4_ifCancelled_11 : decode cX4_ifCancelled 11 = .ok (.new 63, 3) := by decide +kernel
theorem dX4_ifCancelled_14 : decode cX4_ifCancelled 14 = .ok (.dup, 1) := by decide +kernel
theorem dX4_ifCancelled_15 : decode cX4_ifCancelled 15 = .ok (.ldc 88, 2) := by decide +kernel
theorem dX4_ifCancelled_17 : decode cX4_ifCancelled 17 = .ok (.invokespecial 67, 3) := by decide +kernel
theorem dX4_ifCancelled_20 : decode cX4_ifCancelled 20 = .ok (.athrow, 1) := by decide +kernel
theorem dX4_ifCancelled_21 : decode cX4_ifCancelled 21 = .ok (.iload_n 2, 1) := by decide +kernel
theorem dX4_ifCancelled_22 : decode cX4_ifCancelled 22 = .ok (.iconst 0, 1) := by decide +kernel
theorem dX4_ifCancelled_23 : decode cX4_ifCancelled 23 = .ok (.bipush 9, 2) := by decide +kernel
theorem dX4_ifCancelled_25 : decode cX4_ifCancelled 25 = .ok (.invokestatic 90, 3) := by decide +kernel
theorem dX4_ifCancelled_28 : decode cX4_ifCancelled 28 = .ok (.ifCond .eq 12, 3) := by decide +kernel
theorem dX4_ifCancelled_31 : decode cX4_ifCancelled 31 = .ok (.iload_n 3, 1) := by decide +kernel
theorem dX4_ifCancelled_32 : decode cX4_ifCancelled 32 = .ok (.iconst 0, 1) := by decide +kernel
theorem dX4_ifCancelled_33 : decode cX4_ifCancelled 33 = .ok (.iconst 2, 1) := by decide +kernel
theorem dX4_ifCancelled_34 : decode cX4_ifCancelled 34 = .ok (.invokestatic 90, 3) := by decide +kernel
theorem dX4_ifCancelled_37 : decode cX4_ifCancelled 37 = .ok (.ifCond .ne 13, 3) := by decide +kernel
theorem dX4_ifCancelled_40 : decode cX4_ifCancelled 40 = .ok (.new 94, 3) := by decide +kernel
theorem dX4_ifCancelled_43 : decode cX4_ifCancelled 43 = .ok (.dup, 1) := by decide +kernel
theorem dX4_ifCancelled_44 : decode cX4_ifCancelled 44 = .ok (.ldc 201, 2) := by decide +kernel
theorem dX4_ifCancelled_46 : decode cX4_ifCancelled 46 = .ok (.invokespecial 98, 3) := by decide +kernel
theorem dX4_ifCancelled_49 : decode cX4_ifCancelled 49 = .ok (.athrow, 1) := by decide +kernel
theorem dX4_ifCancelled_50 : decode cX4_ifCancelled 50 = .ok (.aload_n 0, 1) := by decide +kernel
theorem dX4_ifCancelled_51 : decode cX4_ifCancelled 51 = .ok (.getfield 16, 3) := by decide +kernel
theorem dX4_ifCancelled_54 : decode cX4_ifCancelled 54 = .ok (.aload_n 0, 1) := by decide +kernel
theorem dX4_ifCancelled_55 : decode cX4_ifCancelled 55 = .ok (.getfield 12, 3) := by decide +kernel
theorem dX4_ifCancelled_58 : decode cX4_ifCancelled 58 = .ok (.invokevirtual 165, 3) := by decide +kernel
theorem dX4_ifCancelled_61 : decode cX4_ifCancelled 61 = .ok (.aload_n 0, 1) := by decide +kernel
theorem dX4_ifCancelled_62 : decode cX4_ifCancelled 62 = .ok (.getfield 16, 3) := by decide +kernel
theorem dX4_ifCancelled_65 : decode cX4_ifCancelled 65 = .ok (.iload_n 1, 1) := by decide +kernel
theorem dX4_ifCancelled_66 : decode cX4_ifCancelled 66 = .ok (.iload_n 2, 1) := by decide +kernel
theorem dX4_ifCancelled_67 : decode cX4_ifCancelled 67 = .ok (.invokevirtual 99, 3) := by decide +kernel
theorem dX4_ifCancelled_70 : decode cX4_ifCancelled 70 = .ok (.istore 4, 2) := by decide +kernel
theorem dX4_ifCancelled_72 : decode cX4_ifCancelled 72 = .ok (.iload_n 3, 1) := by decide +kernel
theorem dX4_ifCancelled_73 : decode cX4_ifCancelled 73 = .ok (.ifCond .ne 6, 3) := by decide +kernel
theorem dX4_ifCancelled_76 : decode cX4_ifCancelled 76 = .ok (.iload 4, 2) := by decide +kernel
theorem dX4_ifCancelled_78 : decode cX4_ifCancelled 78 = .ok (.ireturn, 1) := by decide +kernel
theorem dX4_ifCancelled_79 : decode cX4_ifCancelled 79 = .ok (.iconst 0, 1) := by decide +kernel
theorem dX4_ifCancelled_80 : decode cX4_ifCancelled 80 = .ok (.istore 5, 2) := by decide +kernel
theorem dX4_ifCancelled_82 : decode cX4_ifCancelled 82 = .ok (.sipush 1000, 3) := by decide +kernel
theorem dX4_ifCancelled_85 : decode cX4_ifCancelled 85 = .ok (.istore 6, 2) := by decide +kernel
theorem dX4_ifCancelled_87 : decode cX4_ifCancelled 87 = .ok (.iconst 0, 1) := by decide +kernel
theorem dX4_ifCancelled_88 : decode cX4_ifCancelled 88 = .ok (.istore 7, 2) := by decide +kernel
theorem dX4_ifCancelled_90 : decode cX4_ifCancelled 90 = .ok (.iload 7, 2) := by decide +kernel
theorem dX4_ifCancelled_92 : decode cX4_ifCancelled 92 = .ok (.iconst 2, 1) := by decide +kernel
theorem dX4_ifCancelled_93 : decode cX4_ifCancelled 93 = .ok (.if_icmp .ge 88, 3) := by decide +kernel
theorem dX4_ifCancelled_96 : decode cX4_ifCancelled 96 = .ok (.aload_n 0, 1) := by decide +kernel
theorem dX4_ifCancelled_97 : decode cX4_ifCancelled 97 = .ok (.getfield 12, 3) := by decide +kernel
theorem dX4_ifCancelled_100 : decode cX4_ifCancelled 100 = .ok (.getfield 181, 3) := by decide +kernel
theorem dX4_ifCancelled_103 : decode cX4_ifCancelled 103 = .ok (.iload_n 1, 1) := by decide +kernel
theorem dX4_ifCancelled_104 : decode cX4_ifCancelled 104 = .ok (.iload_n 2, 1) := by decide +kernel
theorem dX4_ifCancelled_105 : decode cX4_ifCancelled 105 = .ok (.iload 7, 2) := by decide +kernel
theorem dX4_ifCancelled_107 : decode cX4_ifCancelled 107 = .ok (.invokestatic 184, 3) := by decide +kernel
theorem dX4_ifCancelled_110 : decode cX4_ifCancelled 110 = .ok (.iaload, 1) := by decide +kernel
theorem dX4_ifCancelled_111 : decode cX4_ifCancelled 111 = .ok (.istore 8, 2) := by decide +kernel
theorem dX4_ifCancelled_113 : decode cX4_ifCancelled 113 = .ok (.aload_n 0, 1) := by decide +kernel
theorem dX4_ifCancelled_114 : decode cX4_ifCancelled 114 = .ok (.getfield 12, 3) := by decide +kernel
theorem dX4_ifCancelled_117 : decode cX4_ifCancelled 117 = .ok (.iload 8, 2) := by decide +kernel
theorem dX4_ifCancelled_119 : decode cX4_ifCancelled 119 = .ok (.invokevirtual 59, 3) := by decide +kernel
theorem dX4_ifCancelled_122 : decode cX4_ifCancelled 122 = .ok (.ifCond .eq 53, 3) := by decide +kernel
theorem dX4_ifCancelled_125 : decode cX4_ifCancelled 125 = .ok (.aload_n 0, 1) := by decide +kernel
theorem dX4_ifCancelled_126 : decode cX4_ifCancelled 126 = .ok (.getfield 16, 3) := by decide +kernel
theorem dX4_ifCancelled_129 : decode cX4_ifCancelled 129 = .ok (.iload 8, 2) := by decide +kernel
theorem dX4_ifCancelled_131 : decode cX4_ifCancelled 131 = .ok (.invokevirtual 203, 3) := by decide +kernel
theorem dX4_ifCancelled_134 : decode cX4_ifCancelled 134 = .ok (.iconst 0, 1) := by decide +kernel
theorem dX4_ifCancelled_135 : decode cX4_ifCancelled 135 = .ok (.invokestatic 198, 3) := by decide +kernel
theorem dX4_ifCancelled_138 : decode cX4_ifCancelled 138 = .ok (.istore 9, 2) := by decide +kernel
theorem dX4_ifCancelled_140 : decode cX4_ifCancelled 140 = .ok (.iload 5, 2) := by decide +kernel
theorem dX4_ifCancelled_142 : decode cX4_ifCancelled 142 = .ok (.iload 9, 2) := by decide +kernel
theorem dX4_ifCancelled_144 : decode cX4_ifCancelled 144 = .ok (.iconst (-1), 1) := by decide +kernel
theorem dX4_ifCancelled_145 : decode cX4_ifCancelled 145 = .ok (.if_icmp .ne 7, 3) := by decide +kernel
theorem dX4_ifCancelled_148 : decode cX4_ifCancelled 148 = .ok (.iconst 1, 1) := by decide +kernel
theorem dX4_ifCancelled_149 : decode cX4_ifCancelled 149 = .ok (.goto 4, 3) := by decide +kernel
theorem dX4_ifCancelled_152 : decode cX4_ifCancelled 152 = .ok (.iconst 0, 1) := by decide +kernel
theorem dX4_ifCancelled_153 : decode cX4_ifCancelled 153 = .ok (.iadd, 1) := by decide +kernel
theorem dX4_ifCancelled_154 : decode cX4_ifCancelled 154 = .ok (.istore 5, 2) := by decide +kernel
theorem dX4_ifCancelled_156 : decode cX4_ifCancelled 156 = .ok (.iload 6, 2) := by decide +kernel
theorem dX4_ifCancelled_158 : decode cX4_ifCancelled 158 = .ok (.iload 9, 2) := by decide +kernel
theorem dX4_ifCancelled_160 : decode cX4_ifCancelled 160 = .ok (.iconst (-1), 1) := by decide +kernel
theorem dX4_ifCancelled_161 : decode cX4_ifCancelled 161 = .ok (.if_icmp .ne 7, 3) := by decide +kernel
theorem dX4_ifCancelled_164 : decode cX4_ifCancelled 164 = .ok (.iconst 0, 1) := by decide +kernel
theorem dX4_ifCancelled_165 : decode cX4_ifCancelled 165 = .ok (.goto 7, 3) := by decide +kernel
theorem dX4_ifCancelled_168 : decode cX4_ifCancelled 168 = .ok (.iload 9, 2) := by decide +kernel
theorem dX4_ifCancelled_170 : decode cX4_ifCancelled 170 = .ok (.iload_n 2, 1) := by decide +kernel
theorem dX4_ifCancelled_171 : decode cX4_ifCancelled 171 = .ok (.isub, 1) := by decide +kernel
theorem dX4_ifCancelled_172 : decode cX4_ifCancelled 172 = .ok (.iadd, 1) := by decide +kernel
theorem dX4_ifCancelled_173 : decode cX4_ifCancelled 173 = .ok (.istore 6, 2) := by decide +kernel
theorem dX4_ifCancelled_175 : decode cX4_ifCancelled 175 = .ok (.iinc 7 1, 3) := by decide +kernel
theorem dX4_ifCancelled_178 : decode cX4_ifCancelled 178 = .ok (.goto (-88), 3) := by decide +kernel
theorem dX4_ifCancelled_181 : decode cX4_ifCancelled 181 = .ok (.iload_n 3, 1) := by decide +kernel
theorem dX4_ifCancelled_182 : decode cX4_ifCancelled 182 = .ok (.iconst 1, 1) := by decide +kernel
theorem dX4_ifCancelled_183 : decode cX4_ifCancelled 183 = .ok (.if_icmp .ne 8, 3) := by decide +kernel
theorem dX4_ifCancelled_186 : decode cX4_ifCancelled 186 = .ok (.iload 5, 2) := by decide +kernel
theorem dX4_ifCancelled_188 : decode cX4_ifCancelled 188 = .ok (.goto 5, 3) := by decide +kernel
theorem dX4_ifCancelled_191 : decode cX4_ifCancelled 191 = .ok (.iload 6, 2) := by decide +kernel
theorem dX4_ifCancelled_193 : decode cX4_ifCancelled 193 = .ok (.ireturn, 1) := by decide +kernel
theorem dX4_ifTested_0 : decode cX4_ifTested 0 = .ok (.aload_n 0, 1) := by decide +kernel
theorem dX4_ifTested_1 : decode cX4_ifTested 1 = .ok (.getfield 12, 3) := by decide +kernel
theorem dX4_ifTested_4 : decode cX4_ifTested 4 = .ok (.iload_n 1, 1) := by decide +kernel
theorem dX4_ifTested_5 : decode cX4_ifTested 5 = .ok (.invokevirtual 59, 3) := by decide +kernel
theorem dX4_ifTested_8 : decode cX4_ifTested 8 = .ok (.ifCond .eq 14, 3) := by decide +kernel
theorem dX4_ifTested_11 : decode cX4_ifTested 11 = .ok (.aload_n 0, 1) := by decide +kernel
theorem dX4_ifTested_12 : decode cX4_ifTested 12 = .ok (.getfield 12, 3) := by decide +kernel
theorem dX4_ifTested_15 : decode cX4_ifTested 15 = .ok (.iload_n 2, 1) := by decide +kernel
theorem dX4_ifTested_16 : decode cX4_ifTested 16 = .ok (.invokevirtual 85, 3) := by decide +kernel
theorem dX4_ifTested_19 : decode cX4_ifTested 19 = .ok (.ifCond .ne 13, 3) := by decide +kernel
theorem dX4_ifTested_22 : decode cX4_ifTested 22 = .ok (.new 63, 3) := by decide +kernel
theorem dX4_ifTested_25 : decode cX4_ifTested 25 = .ok (.dup, 1) := by decide +kernel
theorem dX4_ifTested_26 : decode cX4_ifTested 26 = .ok (.ldc 206, 2) := by decide +kernel
theorem dX4_ifTested_28 : decode cX4_ifTested 28 = .ok (.invokespecial 67, 3) := by decide +kernel
theorem dX4_ifTested_31 : decode cX4_ifTested 31 = .ok (.athrow, 1) := by decide +kernel
theorem dX4_ifTested_32 : decode cX4_ifTested 32 = .ok (.aload_n 0, 1) := by decide +kernel
theorem dX4_ifTested_33 : decode cX4_ifTested 33 = .ok (.getfield 12, 3) := by decide +kernel
theorem dX4_ifTested_36 : decode cX4_ifTested 36 = .ok (.iload_n 1, 1) := by decide +kernel
theorem dX4_ifTested_37 : decode cX4_ifTested 37 = .ok (.iload_n 2, 1) := by decide +kernel
theorem dX4_ifTested_38 : decode cX4_ifTested 38 = .ok (.invokevirtual 208, 3) := by decide +kernel
theorem dX4_ifTested_41 : decode cX4_ifTested 41 = .ok (.ireturn, 1) := by decide +kernel
theorem dX4_couldHave_0 : decode cX4_couldHave 0 = .ok (.iload_n 1, 1) := by decide +kernel
theorem dX4_couldHave_1 : decode cX4_couldHave 1 = .ok (.iconst 0, 1) := by decide +kernel
theorem dX4_couldHave_2 : decode cX4_couldHave 2 = .ok (.bipush 9, 2) := by decide +kernel
theorem dX4_couldHave_4 : decode cX4_couldHave 4 = .ok (.invokestatic 90, 3) := by decide +kernel
theorem dX4_couldHave_7 : decode cX4_couldHave 7 = .ok (.ifCond .ne 13, 3) := by decide +kernel
theorem dX4_couldHave_10 : decode cX4_couldHave 10 = .ok (.new 94, 3) := by decide +kernel
theorem dX4_couldHave_13 : decode cX4_couldHave 13 = .ok (.dup, 1) := by decide +kernel
theorem dX4_couldHave_14 : decode cX4_couldHave 14 = .ok (.ldc 96, 2) := by decide +kernel
theorem dX4_couldHave_16 : decode cX4_couldHave 16 = .ok (.invokespecial 98, 3) := by decide +kernel
theorem dX4_couldHave_19 : decode cX4_couldHave 19 = .ok (.athrow, 1) := by decide +kernel
theorem dX4_couldHave_20 : decode cX4_couldHave 20 = .ok (.aload_n 0, 1) := by decide +kernel
theorem dX4_couldHave_21 : decode cX4_couldHave 21 = .ok (.getfield 12, 3) := by decide +kernel
theorem dX4_couldHave_24 : decode cX4_couldHave 24 = .ok (.iload_n 1, 1) := by decide +kernel
theorem dX4_couldHave_25 : decode cX4_couldHave 25 = .ok (.invokevirtual 211, 3) := by decide +kernel
theorem dX4_couldHave_28 : decode cX4_couldHave 28 = .ok (.ireturn, 1) := by decide +kernel
theorem dX4_passedShare_0 : decode cX4_passedShare 0 = .ok (.aload_n 0, 1) := by decide +kernel
theorem dX4_passedShare_1 : decode cX4_passedShare 1 = .ok (.getfield 12, 3) := by decide +kernel
theorem dX4_passedShare_4 : decode cX4_passedShare 4 = .ok (.invokevirtual 214, 3) := by decide +kernel
theorem dX4_passedShare_7 : decode cX4_passedShare 7 = .ok (.istore_n 1, 1) := by decide +kernel
theorem dX4_passedShare_8 : decode cX4_passedShare 8 = .ok (.iload_n 1, 1) := by decide +kernel
theorem dX4_passedShare_9 : decode cX4_passedShare 9 = .ok (.ifCond .ne 7, 3) := by decide +kernel
theorem dX4_passedShare_12 : decode cX4_passedShare 12 = .ok (.dconst 1, 1) := by decide +kernel
theorem dX4_passedShare_13 : decode cX4_passedShare 13 = .ok (.goto 14, 3) := by decide +kernel
theorem dX4_passedShare_16 : decode cX4_passedShare 16 = .ok (.aload_n 0, 1) := by decide +kernel
theorem dX4_passedShare_17 : decode cX4_passedShare 17 = .ok (.getfield 12, 3) := by decide +kernel
theorem dX4_passedShare_20 : decode cX4_passedShare 20 = .ok (.invokevirtual 217, 3) := by decide +kernel
theorem dX4_passedShare_23 : decode cX4_passedShare 23 = .ok (.i2d, 1) := by decide +kernel
theorem dX4_passedShare_24 : decode cX4_passedShare 24 = .ok (.iload_n 1, 1) := by decide +kernel
theorem dX4_passedShare_25 : decode cX4_passedShare 25 = .ok (.i2d, 1) := by decide +kernel
theorem dX4_passedShare_26 : decode cX4_passedShare 26 = .ok (.ddiv, 1) := by decide +kernel
theorem dX4_passedShare_27 : decode cX4_passedShare 27 = .ok (.dreturn, 1) := by decide +kernel
theorem dX4_digest_0 : decode cX4_digest 0 = .ok (.ldc2_w 220, 3) := by decide +kernel
theorem dX4_digest_3 : decode cX4_digest 3 = .ok (.lstore_n 1, 1) := by decide +kernel
theorem dX4_digest_4 : decode cX4_digest 4 = .ok (.iconst 0, 1) := by decide +kernel
theorem dX4_digest_5 : decode cX4_digest 5 = .ok (.istore_n 3, 1) := by decide +kernel
theorem dX4_digest_6 : decode cX4_digest 6 = .ok (.iload_n 3, 1) := by decide +kernel
theorem dX4_digest_7 : decode cX4_digest 7 = .ok (.bipush 14, 2) := by decide +kernel
theorem dX4_digest_9 : decode cX4_digest 9 = .ok (.if_icmp .gt 20, 3) := by decide +kernel
theorem dX4_digest_12 : decode cX4_digest 12 = .ok (.lload_n 1, 1) := by decide +kernel
theorem dX4_digest_13 : decode cX4_digest 13 = .ok (.aload_n 0, 1) := by decide +kernel
theorem dX4_digest_14 : decode cX4_digest 14 = .ok (.iload_n 3, 1) := by decide +kernel
theorem dX4_digest_15 : decode cX4_digest 15 = .ok (.invokevirtual 222, 3) := by decide +kernel
theorem dX4_digest_18 : decode cX4_digest 18 = .ok (.i2l, 1) := by decide +kernel
theorem dX4_digest_19 : decode cX4_digest 19 = .ok (.invokestatic 225, 3) := by decide +kernel
theorem dX4_digest_22 : decode cX4_digest 22 = .ok (.lstore_n 1, 1) := by decide +kernel
theorem dX4_digest_23 : decode cX4_digest 23 = .ok (.iinc 3 1, 3) := by decide +kernel
theorem dX4_digest_26 : decode cX4_digest 26 = .ok (.goto (-20), 3) := by decide +kernel
theorem dX4_digest_29 : decode cX4_digest 29 = .ok (.iconst 0, 1) := by decide +kernel
theorem dX4_digest_30 : decode cX4_digest 30 = .ok (.istore_n 3, 1) := by decide +kernel
theorem dX4_digest_31 : decode cX4_digest 31 = .ok (.iload_n 3, 1) := by decide +kernel
theorem dX4_digest_32 : decode cX4_digest 32 = .ok (.aload_n 0, 1) := by decide +kernel
theorem dX4_digest_33 : decode cX4_digest 33 = .ok (.getfield 12, 3) := by decide +kernel
theorem dX4_digest_36 : decode cX4_digest 36 = .ok (.getfield 132, 3) := by decide +kernel
theorem dX4_digest_39 : decode cX4_digest 39 = .ok (.arraylength, 1) := by decide +kernel
theorem dX4_digest_40 : decode cX4_digest 40 = .ok (.if_icmp .ge 24, 3) := by decide +kernel
theorem dX4_digest_43 : decode cX4_digest 43 = .ok (.lload_n 1, 1) := by decide +kernel
theorem dX4_digest_44 : decode cX4_digest 44 = .ok (.aload_n 0, 1) := by decide +kernel
theorem dX4_digest_45 : decode cX4_digest 45 = .ok (.getfield 12, 3) := by decide +kernel
theorem dX4_digest_48 : decode cX4_digest 48 = .ok (.getfield 132, 3) := by decide +kernel
theorem dX4_digest_51 : decode cX4_digest 51 = .ok (.iload_n 3, 1) := by decide +kernel
theorem dX4_digest_52 : decode cX4_digest 52 = .ok (.iaload, 1) := by decide +kernel
theorem dX4_digest_53 : decode cX4_digest 53 = .ok (.i2l, 1) := by decide +kernel
theorem dX4_digest_54 : decode cX4_digest 54 = .ok (.invokestatic 225, 3) := by decide +kernel
theorem dX4_digest_57 : decode cX4_digest 57 = .ok (.lstore_n 1, 1) := by decide +kernel
theorem dX4_digest_58 : decode cX4_digest 58 = .ok (.iinc 3 1, 3) := by decide +kernel
theorem dX4_digest_61 : decode cX4_digest 61 = .ok (.goto (-30), 3) := by decide +kernel
theorem dX4_digest_64 : decode cX4_digest 64 = .ok (.iconst 0, 1) := by decide +kernel
theorem dX4_digest_65 : decode cX4_digest 65 = .ok (.istore_n 3, 1) := by decide +kernel
theorem dX4_digest_66 : decode cX4_digest 66 = .ok (.iload_n 3, 1) := by decide +kernel
theorem dX4_digest_67 : decode cX4_digest 67 = .ok (.aload_n 0, 1) := by decide +kernel
theorem dX4_digest_68 : decode cX4_digest 68 = .ok (.getfield 12, 3) := by decide +kernel
theorem dX4_digest_71 : decode cX4_digest 71 = .ok (.getfield 51, 3) := by decide +kernel
theorem dX4_digest_74 : decode cX4_digest 74 = .ok (.if_icmp .ge 16, 3) := by decide +kernel
theorem dX4_digest_77 : decode cX4_digest 77 = .ok (.aload_n 0, 1) := by decide +kernel
theorem dX4_digest_78 : decode cX4_digest 78 = .ok (.lload_n 1, 1) := by decide +kernel
theorem dX4_digest_79 : decode cX4_digest 79 = .ok (.iload_n 3, 1) := by decide +kernel
theorem dX4_digest_80 : decode cX4_digest 80 = .ok (.invokevirtual 229, 3) := by decide +kernel
theorem dX4_digest_83 : decode cX4_digest 83 = .ok (.lstore_n 1, 1) := by decide +kernel
theorem dX4_digest_84 : decode cX4_digest 84 = .ok (.iinc 3 1, 3) := by decide +kernel
theorem dX4_digest_87 : decode cX4_digest 87 = .ok (.goto (-21), 3) := by decide +kernel
theorem dX4_digest_90 : decode cX4_digest 90 = .ok (.iconst 0, 1) := by decide +kernel
theorem dX4_digest_91 : decode cX4_digest 91 = .ok (.istore_n 3, 1) := by decide +kernel
theorem dX4_digest_92 : decode cX4_digest 92 = .ok (.iload_n 3, 1) := by decide +kernel
theorem dX4_digest_93 : decode cX4_digest 93 = .ok (.aload_n 0, 1) := by decide +kernel
theorem dX4_digest_94 : decode cX4_digest 94 = .ok (.getfield 12, 3) := by decide +kernel
theorem dX4_digest_97 : decode cX4_digest 97 = .ok (.getfield 34, 3) := by decide +kernel
theorem dX4_digest_100 : decode cX4_digest 100 = .ok (.if_icmp .ge 16, 3) := by decide +kernel
theorem dX4_digest_103 : decode cX4_digest 103 = .ok (.aload_n 0, 1) := by decide +kernel
theorem dX4_digest_104 : decode cX4_digest 104 = .ok (.lload_n 1, 1) := by decide +kernel
theorem dX4_digest_105 : decode cX4_digest 105 = .ok (.iload_n 3, 1) := by decide +kernel
theorem dX4_digest_106 : decode cX4_digest 106 = .ok (.invokevirtual 233, 3) := by decide +kernel
theorem dX4_digest_109 : decode cX4_digest 109 = .ok (.lstore_n 1, 1) := by decide +kernel
theorem dX4_digest_110 : decode cX4_digest 110 = .ok (.iinc 3 1, 3) := by decide +kernel
theorem dX4_digest_113 : decode cX4_digest 113 = .ok (.goto (-21), 3) := by decide +kernel
theorem dX4_digest_116 : decode cX4_digest 116 = .ok (.lload_n 1, 1) := by decide +kernel
theorem dX4_digest_117 : decode cX4_digest 117 = .ok (.aload_n 0, 1) := by decide +kernel
theorem dX4_digest_118 : decode cX4_digest 118 = .ok (.iconst 0, 1) := by decide +kernel
theorem dX4_digest_119 : decode cX4_digest 119 = .ok (.invokevirtual 236, 3) := by decide +kernel
theorem dX4_digest_122 : decode cX4_digest 122 = .ok (.i2l, 1) := by decide +kernel
theorem dX4_digest_123 : decode cX4_digest 123 = .ok (.invokestatic 225, 3) := by decide +kernel
theorem dX4_digest_126 : decode cX4_digest 126 = .ok (.lstore_n 1, 1) := by decide +kernel
theorem dX4_digest_127 : decode cX4_digest 127 = .ok (.lload_n 1, 1) := by decide +kernel
theorem dX4_digest_128 : decode cX4_digest 128 = .ok (.aload_n 0, 1) := by decide +kernel
theorem dX4_digest_129 : decode cX4_digest 129 = .ok (.iconst 1, 1) := by decide +kernel
theorem dX4_digest_130 : decode cX4_digest 130 = .ok (.invokevirtual 236, 3) := by decide +kernel
theorem dX4_digest_133 : decode cX4_digest 133 = .ok (.i2l, 1) := by decide +kernel
theorem dX4_digest_134 : decode cX4_digest 134 = .ok (.invokestatic 225, 3) := by decide +kernel
theorem dX4_digest_137 : decode cX4_digest 137 = .ok (.lstore_n 1, 1) := by decide +kernel
theorem dX4_digest_138 : decode cX4_digest 138 = .ok (.lload_n 1, 1) := by decide +kernel
theorem dX4_digest_139 : decode cX4_digest 139 = .ok (.aload_n 0, 1) := by decide +kernel
theorem dX4_digest_140 : decode cX4_digest 140 = .ok (.iconst 5, 1) := by decide +kernel
theorem dX4_digest_141 : decode cX4_digest 141 = .ok (.invokevirtual 236, 3) := by decide +kernel
theorem dX4_digest_144 : decode cX4_digest 144 = .ok (.i2l, 1) := by decide +kernel
theorem dX4_digest_145 : decode cX4_digest 145 = .ok (.invokestatic 225, 3) := by decide +kernel
theorem dX4_digest_148 : decode cX4_digest 148 = .ok (.lstore_n 1, 1) := by decide +kernel
theorem dX4_digest_149 : decode cX4_digest 149 = .ok (.lload_n 1, 1) := by decide +kernel
theorem dX4_digest_150 : decode cX4_digest 150 = .ok (.aload_n 0, 1) := by decide +kernel
theorem dX4_digest_151 : decode cX4_digest 151 = .ok (.invokevirtual 239, 3) := by decide +kernel
theorem dX4_digest_154 : decode cX4_digest 154 = .ok (.invokestatic 243, 3) := by decide +kernel
theorem dX4_digest_157 : decode cX4_digest 157 = .ok (.invokestatic 225, 3) := by decide +kernel
theorem dX4_digest_160 : decode cX4_digest 160 = .ok (.lstore_n 1, 1) := by decide +kernel
theorem dX4_digest_161 : decode cX4_digest 161 = .ok (.lload_n 1, 1) := by decide +kernel
theorem dX4_digest_162 : decode cX4_digest 162 = .ok (.aload_n 0, 1) := by decide +kernel
theorem dX4_digest_163 : decode cX4_digest 163 = .ok (.getfield 30, 3) := by decide +kernel
theorem dX4_digest_166 : decode cX4_digest 166 = .ok (.getfield 146, 3) := by decide +kernel
theorem dX4_digest_169 : decode cX4_digest 169 = .ok (.i2l, 1) := by decide +kernel
theorem dX4_digest_170 : decode cX4_digest 170 = .ok (.invokestatic 225, 3) := by decide +kernel
theorem dX4_digest_173 : decode cX4_digest 173 = .ok (.lstore_n 1, 1) := by decide +kernel
theorem dX4_digest_174 : decode cX4_digest 174 = .ok (.iconst 0, 1) := by decide +kernel
theorem dX4_digest_175 : decode cX4_digest 175 = .ok (.istore_n 3, 1) := by decide +kernel
theorem dX4_digest_176 : decode cX4_digest 176 = .ok (.iload_n 3, 1) := by decide +kernel
theorem dX4_digest_177 : decode cX4_digest 177 = .ok (.aload_n 0, 1) := by decide +kernel
theorem dX4_digest_178 : decode cX4_digest 178 = .ok (.getfield 30, 3) := by decide +kernel
theorem dX4_digest_181 : decode cX4_digest 181 = .ok (.getfield 247, 3) := by decide +kernel
theorem dX4_digest_184 : decode cX4_digest 184 = .ok (.arraylength, 1) := by decide +kernel
theorem dX4_digest_185 : decode cX4_digest 185 = .ok (.if_icmp .ge 35, 3) := by decide +kernel
theorem dX4_digest_188 : decode cX4_digest 188 = .ok (.iload_n 3, 1) := by decide +kernel
theorem dX4_digest_189 : decode cX4_digest 189 = .ok (.aload_n 0, 1) := by decide +kernel
theorem dX4_digest_190 : decode cX4_digest 190 = .ok (.getfield 30, 3) := by decide +kernel
theorem dX4_digest_193 : decode cX4_digest 193 = .ok (.getfield 146, 3) := by decide +kernel
theorem dX4_digest_196 : decode cX4_digest 196 = .ok (.if_icmp .ge 24, 3) := by decide +kernel
theorem dX4_digest_199 : decode cX4_digest 199 = .ok (.lload_n 1, 1) := by decide +kernel
theorem dX4_digest_200 : decode cX4_digest 200 = .ok (.aload_n 0, 1) := by decide +kernel
theorem dX4_digest_201 : decode cX4_digest 201 = .ok (.getfield 30, 3) := by decide +kernel
theorem dX4_digest_204 : decode cX4_digest 204 = .ok (.getfield 247, 3) := by decide +kernel
theorem dX4_digest_207 : decode cX4_digest 207 = .ok (.iload_n 3, 1) := by decide +kernel
theorem dX4_digest_208 : decode cX4_digest 208 = .ok (.iaload, 1) := by decide +kernel
theorem dX4_digest_209 : decode cX4_digest 209 = .ok (.i2l, 1) := by decide +kernel
theorem dX4_digest_210 : decode cX4_digest 210 = .ok (.invokestatic 225, 3) := by decide +kernel
theorem dX4_digest_213 : decode cX4_digest 213 = .ok (.lstore_n 1, 1) := by decide +kernel
theorem dX4_digest_214 : decode cX4_digest 214 = .ok (.iinc 3 1, 3) := by decide +kernel
theorem dX4_digest_217 : decode cX4_digest 217 = .ok (.goto (-41), 3) := by decide +kernel
theorem dX4_digest_220 : decode cX4_digest 220 = .ok (.lload_n 1, 1) := by decide +kernel
theorem dX4_digest_221 : decode cX4_digest 221 = .ok (.lreturn, 1) := by decide +kernel
theorem dX4_isFromTo_0 : decode cX4_isFromTo 0 = .ok (.iload_n 0, 1) := by decide +kernel
theorem dX4_isFromTo_1 : decode cX4_isFromTo 1 = .ok (.iload_n 1, 1) := by decide +kernel
theorem dX4_isFromTo_2 : decode cX4_isFromTo 2 = .ok (.if_icmp .lt 12, 3) := by decide +kernel
theorem dX4_isFromTo_5 : decode cX4_isFromTo 5 = .ok (.iload_n 0, 1) := by decide +kernel
theorem dX4_isFromTo_6 : decode cX4_isFromTo 6 = .ok (.iload_n 2, 1) := by decide +kernel
theorem dX4_isFromTo_7 : decode cX4_isFromTo 7 = .ok (.if_icmp .gt 7, 3) := by decide +kernel
theorem dX4_isFromTo_10 : decode cX4_isFromTo 10 = .ok (.iconst 1, 1) := by decide +kernel
theorem dX4_isFromTo_11 : decode cX4_isFromTo 11 = .ok (.goto 4, 3) := by decide +kernel
theorem dX4_isFromTo_14 : decode cX4_isFromTo 14 = .ok (.iconst 0, 1) := by decide +kernel
theorem dX4_isFromTo_15 : decode cX4_isFromTo 15 = .ok (.ireturn, 1) := by decide +kernel
theorem dX4_isSetting_0 : decode cX4_isSetting 0 = .ok (.iload_n 0, 1) := by decide +kernel
theorem dX4_isSetting_1 : decode cX4_isSetting 1 = .ok (.iconst 0, 1) := by decide +kernel
theorem dX4_isSetting_2 : decode cX4_isSetting 2 = .ok (.getstatic 250, 3) := by decide +kernel
theorem dX4_isSetting_5 : decode cX4_isSetting 5 = .ok (.arraylength, 1) := by decide +kernel
theorem dX4_isSetting_6 : decode cX4_isSetting 6 = .ok (.iconst 1, 1) := by decide +kernel
theorem dX4_isSetting_7 : decode cX4_isSetting 7 = .ok (.isub, 1) := by decide +kernel
theorem dX4_isSetting_8 : decode cX4_isSetting 8 = .ok (.invokestatic 90, 3) := by decide +kernel
theorem dX4_isSetting_11 : decode cX4_isSetting 11 = .ok (.ireturn, 1) := by decide +kernel
theorem dX4_cellAt_0 : decode cX4_cellAt 0 = .ok (.iload_n 1, 1) := by decide +kernel
theorem dX4_cellAt_1 : decode cX4_cellAt 1 = .ok (.bipush 16, 2) := by decide +kernel
theorem dX4_cellAt_3 : decode cX4_cellAt 3 = .ok (.imul, 1) := by decide +kernel
theorem dX4_cellAt_4 : decode cX4_cellAt 4 = .ok (.iload_n 2, 1) := by decide +kernel
theorem dX4_cellAt_5 : decode cX4_cellAt 5 = .ok (.iconst 4, 1) := by decide +kernel
theorem dX4_cellAt_6 : decode cX4_cellAt 6 = .ok (.imul, 1) := by decide +kernel
theorem dX4_cellAt_7 : decode cX4_cellAt 7 = .ok (.iadd, 1) := by decide +kernel
theorem dX4_cellAt_8 : decode cX4_cellAt 8 = .ok (.iload_n 0, 1) := by decide +kernel
theorem dX4_cellAt_9 : decode cX4_cellAt 9 = .ok (.iadd, 1) := by decide +kernel
theorem dX4_cellAt_10 : decode cX4_cellAt 10 = .ok (.ireturn, 1) := by decide +kernel
theorem dX4_daysTo_0 : decode cX4_daysTo 0 = .ok (.iload_n 0, 1) := by decide +kernel
theorem dX4_daysTo_1 : decode cX4_daysTo 1 = .ok (.bipush 16, 2) := by decide +kernel
theorem dX4_daysTo_3 : decode cX4_daysTo 3 = .ok (.idiv, 1) := by decide +kernel
theorem dX4_daysTo_4 : decode cX4_daysTo 4 = .ok (.ireturn, 1) := by decide +kernel
theorem dX4_examinerAt_0 : decode cX4_examinerAt 0 = .ok (.iload_n 0, 1) := by decide +kernel
theorem dX4_examinerAt_1 : decode cX4_examinerAt 1 = .ok (.iconst 4, 1) := by decide +kernel
theorem dX4_examinerAt_2 : decode cX4_examinerAt 2 = .ok (.irem, 1) := by decide +kernel
theorem dX4_examinerAt_3 : decode cX4_examinerAt 3 = .ok (.ireturn, 1) := by decide +kernel
theorem dX4_partOfCell_0 : decode cX4_partOfCell 0 = .ok (.iload_n 0, 1) := by decide +kernel
theorem dX4_partOfCell_1 : decode cX4_partOfCell 1 = .ok (.iconst (-1), 1) := by decide +kernel
theorem dX4_partOfCell_2 : decode cX4_partOfCell 2 = .ok (.if_icmp .ne 5, 3) := by decide +kernel
theorem dX4_partOfCell_5 : decode cX4_partOfCell 5 = .ok (.iconst (-1), 1) := by decide +kernel
theorem dX4_partOfCell_6 : decode cX4_partOfCell 6 = .ok (.ireturn, 1) := by decide +kernel
theorem dX4_partOfCell_7 : decode cX4_partOfCell 7 = .ok (.iload_n 1, 1) := by decide +kernel
theorem dX4_partOfCell_8 : decode cX4_partOfCell 8 = .ok (.lookupswitch 39 #[(0, 28), (1, 33)], 28) := by decide +kernel
theorem dX4_partOfCell_36 : decode cX4_partOfCell 36 = .ok (.iload_n 0, 1) := by decide +kernel
theorem dX4_partOfCell_37 : decode cX4_partOfCell 37 = .ok (.invokestatic 253, 3) := by decide +kernel
theorem dX4_partOfCell_40 : decode cX4_partOfCell 40 = .ok (.ireturn, 1) := by decide +kernel
theorem dX4_partOfCell_41 : decode cX4_partOfCell 41 = .ok (.iload_n 0, 1) := by decide +kernel
theorem dX4_partOfCell_42 : decode cX4_partOfCell 42 = .ok (.iconst 4, 1) := by decide +kernel
theorem dX4_partOfCell_43 : decode cX4_partOfCell 43 = .ok (.idiv, 1) := by decide +kernel
theorem dX4_partOfCell_44 : decode cX4_partOfCell 44 = .ok (.iconst 4, 1) := by decide +kernel
theorem dX4_partOfCell_45 : decode cX4_partOfCell 45 = .ok (.irem, 1) := by decide +kernel
theorem dX4_partOfCell_46 : decode cX4_partOfCell 46 = .ok (.ireturn, 1) := by decide +kernel
theorem dX4_partOfCell_47 : decode cX4_partOfCell 47 = .ok (.iload_n 0, 1) := by decide +kernel
theorem dX4_partOfCell_48 : decode cX4_partOfCell 48 = .ok (.invokestatic 256, 3) := by decide +kernel
theorem dX4_partOfCell_51 : decode cX4_partOfCell 51 = .ok (.ireturn, 1) := by decide +kernel
theorem dX4_save_0 : decode cX4_save 0 = .ok (.aload_n 0, 1) := by decide +kernel
theorem dX4_save_1 : decode cX4_save 1 = .ok (.getfield 23, 3) := by decide +kernel
theorem dX4_save_4 : decode cX4_save 4 = .ok (.aload_n 0, 1) := by decide +kernel
theorem dX4_save_5 : decode cX4_save 5 = .ok (.getfield 19, 3) := by decide +kernel
theorem dX4_save_8 : decode cX4_save 8 = .ok (.arraylength, 1) := by decide +kernel
theorem dX4_save_9 : decode cX4_save 9 = .ok (.if_icmp .lt 7, 3) := by decide +kernel
theorem dX4_save_12 : decode cX4_save 12 = .ok (.aload_n 0, 1) := by decide +kernel
theorem dX4_save_13 : decode cX4_save 13 = .ok (.invokevirtual 259, 3) := by decide +kernel
theorem dX4_save_16 : decode cX4_save 16 = .ok (.aload_n 0, 1) := by decide +kernel
theorem dX4_save_17 : decode cX4_save 17 = .ok (.getfield 19, 3) := by decide +kernel
theorem dX4_save_20 : decode cX4_save 20 = .ok (.aload_n 0, 1) := by decide +kernel
theorem dX4_save_21 : decode cX4_save 21 = .ok (.getfield 23, 3) := by decide +kernel
theorem dX4_save_24 : decode cX4_save 24 = .ok (.aaload, 1) := by decide +kernel
theorem dX4_save_25 : decode cX4_save 25 = .ok (.aload_n 0, 1) := by decide +kernel
theorem dX4_save_26 : decode cX4_save 26 = .ok (.getfield 12, 3) := by decide +kernel
theorem dX4_save_29 : decode cX4_save 29 = .ok (.invokevirtual 165, 3) := by decide +kernel
theorem dX4_save_32 : decode cX4_save 32 = .ok (.aload_n 0, 1) := by decide +kernel
theorem dX4_save_33 : decode cX4_save 33 = .ok (.dup, 1) := by decide +kernel
theorem dX4_save_34 : decode cX4_save 34 = .ok (.getfield 23, 3) := by decide +kernel
theorem dX4_save_37 : decode cX4_save 37 = .ok (.iconst 1, 1) := by decide +kernel
theorem dX4_save_38 : decode cX4_save 38 = .ok (.iadd, 1) := by decide +kernel
theorem dX4_save_39 : decode cX4_save 39 = .ok (.putfield 23, 3) := by decide +kernel
theorem dX4_save_42 : decode cX4_save 42 = .ok (.return_, 1) := by decide +kernel
theorem dX4_dropOldestSave_0 : decode cX4_dropOldestSave 0 = .ok (.aload_n 0, 1) := by decide +kernel
theorem dX4_dropOldestSave_1 : decode cX4_dropOldestSave 1 = .ok (.getfield 19, 3) := by decide +kernel
theorem dX4_dropOldestSave_4 : decode cX4_dropOldestSave 4 = .ok (.iconst 0, 1) := by decide +kernel
theorem dX4_dropOldestSave_5 : decode cX4_dropOldestSave 5 = .ok (.aaload, 1) := by decide +kernel
theorem dX4_dropOldestSave_6 : decode cX4_dropOldestSave 6 = .ok (.astore_n 1, 1) := by decide +kernel
theorem dX4_dropOldestSave_7 : decode cX4_dropOldestSave 7 = .ok (.iconst 1, 1) := by decide +kernel
theorem dX4_dropOldestSave_8 : decode cX4_dropOldestSave 8 = .ok (.istore_n 2, 1) := by decide +kernel
theorem dX4_dropOldestSave_9 : decode cX4_dropOldestSave 9 = .ok (.iload_n 2, 1) := by decide +kernel
theorem dX4_dropOldestSave_10 : decode cX4_dropOldestSave 10 = .ok (.aload_n 0, 1) := by decide +kernel
theorem dX4_dropOldestSave_11 : decode cX4_dropOldestSave 11 = .ok (.getfield 19, 3) := by decide +kernel
theorem dX4_dropOldestSave_14 : decode cX4_dropOldestSave 14 = .ok (.arraylength, 1) := by decide +kernel
theorem dX4_dropOldestSave_15 : decode cX4_dropOldestSave 15 = .ok (.if_icmp .ge 23, 3) := by decide +kernel
theorem dX4_dropOldestSave_18 : decode cX4_dropOldestSave 18 = .ok (.aload_n 0, 1) := by decide +kernel
theorem dX4_dropOldestSave_19 : decode cX4_dropOldestSave 19 = .ok (.getfield 19, 3) := by decide +kernel
theorem dX4_dropOldestSave_22 : decode cX4_dropOldestSave 22 = .ok (.iload_n 2, 1) := by decide +kernel
theorem dX4_dropOldestSave_23 : decode cX4_dropOldestSave 23 = .ok (.iconst 1, 1) := by decide +kernel
theorem dX4_dropOldestSave_24 : decode cX4_dropOldestSave 24 = .ok (.isub, 1) := by decide +kernel
theorem dX4_dropOldestSave_25 : decode cX4_dropOldestSave 25 = .ok (.aload_n 0, 1) := by decide +kernel
theorem dX4_dropOldestSave_26 : decode cX4_dropOldestSave 26 = .ok (.getfield 19, 3) := by decide +kernel
theorem dX4_dropOldestSave_29 : decode cX4_dropOldestSave 29 = .ok (.iload_n 2, 1) := by decide +kernel
theorem dX4_dropOldestSave_30 : decode cX4_dropOldestSave 30 = .ok (.aaload, 1) := by decide +kernel
theorem dX4_dropOldestSave_31 : decode cX4_dropOldestSave 31 = .ok (.aastore, 1) := by decide +kernel
theorem dX4_dropOldestSave_32 : decode cX4_dropOldestSave 32 = .ok (.iinc 2 1, 3) := by decide +kernel
theorem dX4_dropOldestSave_35 : decode cX4_dropOldestSave 35 = .ok (.goto (-26), 3) := by decide +kernel
theorem dX4_dropOldestSave_38 : decode cX4_dropOldestSave 38 = .ok (.aload_n 0, 1) := by decide +kernel
theorem dX4_dropOldestSave_39 : decode cX4_dropOldestSave 39 = .ok (.getfield 19, 3) := by decide +kernel
theorem dX4_dropOldestSave_42 : decode cX4_dropOldestSave 42 = .ok (.aload_n 0, 1) := by decide +kernel
theorem dX4_dropOldestSave_43 : decode cX4_dropOldestSave 43 = .ok (.getfield 19, 3) := by decide +kernel
theorem dX4_dropOldestSave_46 : decode cX4_dropOldestSave 46 = .ok (.arraylength, 1) := by decide +kernel
theorem dX4_dropOldestSave_47 : decode cX4_dropOldestSave 47 = .ok (.iconst 1, 1) := by decide +kernel
theorem dX4_dropOldestSave_48 : decode cX4_dropOldestSave 48 = .ok (.isub, 1) := by decide +kernel
theorem dX4_dropOldestSave_49 : decode cX4_dropOldestSave 49 = .ok (.aload_n 1, 1) := by decide +kernel
theorem dX4_dropOldestSave_50 : decode cX4_dropOldestSave 50 = .ok (.aastore, 1) := by decide +kernel
theorem dX4_dropOldestSave_51 : decode cX4_dropOldestSave 51 = .ok (.aload_n 0, 1) := by decide +kernel
theorem dX4_dropOldestSave_52 : decode cX4_dropOldestSave 52 = .ok (.aload_n 0, 1) := by decide +kernel
theorem dX4_dropOldestSave_53 : decode cX4_dropOldestSave 53 = .ok (.getfield 19, 3) := by decide +kernel
theorem dX4_dropOldestSave_56 : decode cX4_dropOldestSave 56 = .ok (.arraylength, 1) := by decide +kernel
theorem dX4_dropOldestSave_57 : decode cX4_dropOldestSave 57 = .ok (.iconst 1, 1) := by decide +kernel
theorem dX4_dropOldestSave_58 : decode cX4_dropOldestSave 58 = .ok (.isub, 1) := by decide +kernel
theorem dX4_dropOldestSave_59 : decode cX4_dropOldestSave 59 = .ok (.putfield 23, 3) := by decide +kernel
theorem dX4_dropOldestSave_62 : decode cX4_dropOldestSave 62 = .ok (.return_, 1) := by decide +kernel
theorem dX4_carryOut_0 : decode cX4_carryOut 0 = .ok (.aload_n 0, 1) := by decide +kernel
theorem dX4_carryOut_1 : decode cX4_carryOut 1 = .ok (.getfield 30, 3) := by decide +kernel
theorem dX4_carryOut_4 : decode cX4_carryOut 4 = .ok (.getfield 262, 3) := by decide +kernel
theorem dX4_carryOut_7 : decode cX4_carryOut 7 = .ok (.iload_n 1, 1) := by decide +kernel
theorem dX4_carryOut_8 : decode cX4_carryOut 8 = .ok (.iaload, 1) := by decide +kernel
theorem dX4_carryOut_9 : decode cX4_carryOut 9 = .ok (.istore_n 2, 1) := by decide +kernel
theorem dX4_carryOut_10 : decode cX4_carryOut 10 = .ok (.aload_n 0, 1) := by decide +kernel
theorem dX4_carryOut_11 : decode cX4_carryOut 11 = .ok (.getfield 30, 3) := by decide +kernel
theorem dX4_carryOut_14 : decode cX4_carryOut 14 = .ok (.getfield 265, 3) := by decide +kernel
theorem dX4_carryOut_17 : decode cX4_carryOut 17 = .ok (.iload_n 1, 1) := by decide +kernel
theorem dX4_carryOut_18 : decode cX4_carryOut 18 = .ok (.iaload, 1) := by decide +kernel
theorem dX4_carryOut_19 : decode cX4_carryOut 19 = .ok (.tableswitch 163 0 4 #[33, 73, 112, 119, 126], 33) := by decide +kernel
theorem dX4_carryOut_52 : decode cX4_carryOut 52 = .ok (.aload_n 0, 1) := by decide +kernel
theorem dX4_carryOut_53 : decode cX4_carryOut 53 = .ok (.getfield 12, 3) := by decide +kernel
theorem dX4_carryOut_56 : decode cX4_carryOut 56 = .ok (.iload_n 2, 1) := by decide +kernel
theorem dX4_carryOut_57 : decode cX4_carryOut 57 = .ok (.invokevirtual 59, 3) := by decide +kernel
theorem dX4_carryOut_60 : decode cX4_carryOut 60 = .ok (.ifCond .eq 30, 3) := by decide +kernel
theorem dX4_carryOut_63 : decode cX4_carryOut 63 = .ok (.aload_n 0, 1) := by decide +kernel
theorem dX4_carryOut_64 : decode cX4_carryOut 64 = .ok (.getfield 12, 3) := by decide +kernel
theorem dX4_carryOut_67 : decode cX4_carryOut 67 = .ok (.iload_n 2, 1) := by decide +kernel
theorem dX4_carryOut_68 : decode cX4_carryOut 68 = .ok (.invokevirtual 68, 3) := by decide +kernel
theorem dX4_carryOut_71 : decode cX4_carryOut 71 = .ok (.ifCond .eq 19, 3) := by decide +kernel
theorem dX4_carryOut_74 : decode cX4_carryOut 74 = .ok (.aload_n 0, 1) := by decide +kernel
theorem dX4_carryOut_75 : decode cX4_carryOut 75 = .ok (.getfield 12, 3) := by decide +kernel
theorem dX4_carryOut_78 : decode cX4_carryOut 78 = .ok (.iload_n 2, 1) := by decide +kernel
theorem dX4_carryOut_79 : decode cX4_carryOut 79 = .ok (.invokevirtual 73, 3) := by decide +kernel
theorem dX4_carryOut_82 : decode cX4_carryOut 82 = .ok (.iconst (-1), 1) := by decide +kernel
theorem dX4_carryOut_83 : decode cX4_carryOut 83 = .ok (.if_icmp .lt 7, 3) := by decide +kernel
theorem dX4_carryOut_86 : decode cX4_carryOut 86 = .ok (.iconst 1, 1) := by decide +kernel
theorem dX4_carryOut_87 : decode cX4_carryOut 87 = .ok (.goto 4, 3) := by decide +kernel
theorem dX4_carryOut_90 : decode cX4_carryOut 90 = .ok (.iconst 0, 1) := by decide +kernel
theorem dX4_carryOut_91 : decode cX4_carryOut 91 = .ok (.ireturn, 1) := by decide +kernel
theorem dX4_carryOut_92 : decode cX4_carryOut 92 = .ok (.aload_n 0, 1) := by decide +kernel
theorem dX4_carryOut_93 : decode cX4_carryOut 93 = .ok (.getfield 12, 3) := by decide +kernel
theorem dX4_carryOut_96 : decode cX4_carryOut 96 = .ok (.iload_n 2, 1) := by decide +kernel
theorem dX4_carryOut_97 : decode cX4_carryOut 97 = .ok (.invokevirtual 59, 3) := by decide +kernel
theorem dX4_carryOut_100 : decode cX4_carryOut 100 = .ok (.ifCond .eq 29, 3) := by decide +kernel
theorem dX4_carryOut_103 : decode cX4_carryOut 103 = .ok (.aload_n 0, 1) := by decide +kernel
theorem dX4_carryOut_104 : decode cX4_carryOut 104 = .ok (.getfield 12, 3) := by decide +kernel
theorem dX4_carryOut_107 : decode cX4_carryOut 107 = .ok (.iload_n 2, 1) := by decide +kernel
theorem dX4_carryOut_108 : decode cX4_carryOut 108 = .ok (.invokevirtual 77, 3) := by decide +kernel
theorem dX4_carryOut_111 : decode cX4_carryOut 111 = .ok (.ifCond .eq 18, 3) := by decide +kernel
theorem dX4_carryOut_114 : decode cX4_carryOut 114 = .ok (.aload_n 0, 1) := by decide +kernel
theorem dX4_carryOut_115 : decode cX4_carryOut 115 = .ok (.getfield 12, 3) := by decide +kernel
theorem dX4_carryOut_118 : decode cX4_carryOut 118 = .ok (.iload_n 2, 1) := by decide +kernel
theorem dX4_carryOut_119 : decode cX4_carryOut 119 = .ok (.invokevirtual 82, 3) := by decide +kernel
theorem dX4_carryOut_122 : decode cX4_carryOut 122 = .ok (.ifCond .lt 7, 3) := by decide +kernel
theorem dX4_carryOut_125 : decode cX4_carryOut 125 = .ok (.iconst 1, 1) := by decide +kernel
theorem dX4_carryOut_126 : decode cX4_carryOut 126 = .ok (.goto 4, 3) := by decide +kernel
theorem dX4_carryOut_129 : decode cX4_carryOut 129 = .ok (.iconst 0, 1) := by decide +kernel
theorem dX4_carryOut_130 : decode cX4_carryOut 130 = .ok (.ireturn, 1) := by decide +kernel
theorem dX4_carryOut_131 : decode cX4_carryOut 131 = .ok (.aload_n 0, 1) := by decide +kernel
theorem dX4_carryOut_132 : decode cX4_carryOut 132 = .ok (.iload_n 2, 1) := by decide +kernel
theorem dX4_carryOut_133 : decode cX4_carryOut 133 = .ok (.iconst 1, 1) := by decide +kernel
theorem dX4_carryOut_134 : decode cX4_carryOut 134 = .ok (.invokevirtual 268, 3) := by decide +kernel
theorem dX4_carryOut_137 : decode cX4_carryOut 137 = .ok (.ireturn, 1) := by decide +kernel
theorem dX4_carryOut_138 : decode cX4_carryOut 138 = .ok (.aload_n 0, 1) := by decide +kernel
theorem dX4_carryOut_139 : decode cX4_carryOut 139 = .ok (.iload_n 2, 1) := by decide +kernel
theorem dX4_carryOut_140 : decode cX4_carryOut 140 = .ok (.iconst 0, 1) := by decide +kernel
theorem dX4_carryOut_141 : decode cX4_carryOut 141 = .ok (.invokevirtual 268, 3) := by decide +kernel
theorem dX4_carryOut_144 : decode cX4_carryOut 144 = .ok (.ireturn, 1) := by decide +kernel
theorem dX4_carryOut_145 : decode cX4_carryOut 145 = .ok (.aload_n 0, 1) := by decide +kernel
theorem dX4_carryOut_146 : decode cX4_carryOut 146 = .ok (.getfield 12, 3) := by decide +kernel
theorem dX4_carryOut_149 : decode cX4_carryOut 149 = .ok (.iload_n 2, 1) := by decide +kernel
theorem dX4_carryOut_150 : decode cX4_carryOut 150 = .ok (.invokevirtual 85, 3) := by decide +kernel
theorem dX4_carryOut_153 : decode cX4_carryOut 153 = .ok (.ifCond .eq 27, 3) := by decide +kernel
theorem dX4_carryOut_156 : decode cX4_carryOut 156 = .ok (.aload_n 0, 1) := by decide +kernel
theorem dX4_carryOut_157 : decode cX4_carryOut 157 = .ok (.getfield 12, 3) := by decide +kernel
theorem dX4_carryOut_160 : decode cX4_carryOut 160 = .ok (.iload_n 2, 1) := by decide +kernel
theorem dX4_carryOut_161 : decode cX4_carryOut 161 = .ok (.aload_n 0, 1) := by decide +kernel
theorem dX4_carryOut_162 : decode cX4_carryOut 162 = .ok (.getfield 30, 3) := by decide +kernel
theorem dX4_carryOut_165 : decode cX4_carryOut 165 = .ok (.getfield 272, 3) := by decide +kernel
theorem dX4_carryOut_168 : decode cX4_carryOut 168 = .ok (.iload_n 1, 1) := by decide +kernel
theorem dX4_carryOut_169 : decode cX4_carryOut 169 = .ok (.iaload, 1) := by decide +kernel
theorem dX4_carryOut_170 : decode cX4_carryOut 170 = .ok (.invokevirtual 99, 3) := by decide +kernel
theorem dX4_carryOut_173 : decode cX4_carryOut 173 = .ok (.ifCond .lt 7, 3) := by decide +kernel
theorem dX4_carryOut_176 : decode cX4_carryOut 176 = .ok (.iconst 1, 1) := by decide +kernel
theorem dX4_carryOut_177 : decode cX4_carryOut 177 = .ok (.goto 4, 3) := by decide +kernel
theorem dX4_carryOut_180 : decode cX4_carryOut 180 = .ok (.iconst 0, 1) := by decide +kernel
theorem dX4_carryOut_181 : decode cX4_carryOut 181 = .ok (.ireturn, 1) := by decide +kernel
theorem dX4_carryOut_182 : decode cX4_carryOut 182 = .ok (.aload_n 0, 1) := by decide +kernel
theorem dX4_carryOut_183 : decode cX4_carryOut 183 = .ok (.getfield 12, 3) := by decide +kernel
theorem dX4_carryOut_186 : decode cX4_carryOut 186 = .ok (.invokevirtual 112, 3) := by decide +kernel
theorem dX4_carryOut_189 : decode cX4_carryOut 189 = .ok (.ifCond .eq 17, 3) := by decide +kernel
theorem dX4_carryOut_192 : decode cX4_carryOut 192 = .ok (.aload_n 0, 1) := by decide +kernel
theorem dX4_carryOut_193 : decode cX4_carryOut 193 = .ok (.getfield 12, 3) := by decide +kernel
theorem dX4_carryOut_196 : decode cX4_carryOut 196 = .ok (.invokevirtual 118, 3) := by decide +kernel
theorem dX4_carryOut_199 : decode cX4_carryOut 199 = .ok (.ifCond .lt 7, 3) := by decide +kernel
theorem dX4_carryOut_202 : decode cX4_carryOut 202 = .ok (.iconst 1, 1) := by decide +kernel
theorem dX4_carryOut_203 : decode cX4_carryOut 203 = .ok (.goto 4, 3) := by decide +kernel
theorem dX4_carryOut_206 : decode cX4_carryOut 206 = .ok (.iconst 0, 1) := by decide +kernel
theorem dX4_carryOut_207 : decode cX4_carryOut 207 = .ok (.ireturn, 1) := by decide +kernel
theorem dX4_carryOutTest_0 : decode cX4_carryOutTest 0 = .ok (.aload_n 0, 1) := by decide +kernel
theorem dX4_carryOutTest_1 : decode cX4_carryOutTest 1 = .ok (.getfield 12, 3) := by decide +kernel
theorem dX4_carryOutTest_4 : decode cX4_carryOutTest 4 = .ok (.iload_n 1, 1) := by decide +kernel
theorem dX4_carryOutTest_5 : decode cX4_carryOutTest 5 = .ok (.invokevirtual 59, 3) := by decide +kernel
theorem dX4_carryOutTest_8 : decode cX4_carryOutTest 8 = .ok (.ifCond .eq 30, 3) := by decide +kernel
theorem dX4_carryOutTest_11 : decode cX4_carryOutTest 11 = .ok (.aload_n 0, 1) := by decide +kernel
theorem dX4_carryOutTest_12 : decode cX4_carryOutTest 12 = .ok (.getfield 12, 3) := by decide +kernel
theorem dX4_carryOutTest_15 : decode cX4_carryOutTest 15 = .ok (.iload_n 1, 1) := by decide +kernel
theorem dX4_carryOutTest_16 : decode cX4_carryOutTest 16 = .ok (.invokevirtual 103, 3) := by decide +kernel
theorem dX4_carryOutTest_19 : decode cX4_carryOutTest 19 = .ok (.ifCond .eq 19, 3) := by decide +kernel
theorem dX4_carryOutTest_22 : decode cX4_carryOutTest 22 = .ok (.aload_n 0, 1) := by decide +kernel
theorem dX4_carryOutTest_23 : decode cX4_carryOutTest 23 = .ok (.getfield 12, 3) := by decide +kernel
theorem dX4_carryOutTest_26 : decode cX4_carryOutTest 26 = .ok (.iload_n 1, 1) := by decide +kernel
theorem dX4_carryOutTest_27 : decode cX4_carryOutTest 27 = .ok (.iload_n 2, 1) := by decide +kernel
theorem dX4_carryOutTest_28 : decode cX4_carryOutTest 28 = .ok (.invokevirtual 108, 3) := by decide +kernel
theorem dX4_carryOutTest_31 : decode cX4_carryOutTest 31 = .ok (.ifCond .lt 7, 3) := by decide +kernel
theorem dX4_carryOutTest_34 : decode cX4_carryOutTest 34 = .ok (.iconst 1, 1) := by decide +kernel
theorem dX4_carryOutTest_35 : decode cX4_carryOutTest 35 = .ok (.goto 4, 3) := by decide +kernel
theorem dX4_carryOutTest_38 : decode cX4_carryOutTest 38 = .ok (.iconst 0, 1) := by decide +kernel
theorem dX4_carryOutTest_39 : decode cX4_carryOutTest 39 = .ok (.ireturn, 1) := by decide +kernel
theorem dX4_hashWith_0 : decode cX4_hashWith 0 = .ok (.ldc2_w 275, 3) := by decide +kernel
theorem dX4_hashWith_3 : decode cX4_hashWith 3 = .ok (.lload_n 0, 1) := by decide +kernel
theorem dX4_hashWith_4 : decode cX4_hashWith 4 = .ok (.lmul, 1) := by decide +kernel
theorem dX4_hashWith_5 : decode cX4_hashWith 5 = .ok (.lload_n 2, 1) := by decide +kernel
theorem dX4_hashWith_6 : decode cX4_hashWith 6 = .ok (.ladd, 1) := by decide +kernel
theorem dX4_hashWith_7 : decode cX4_hashWith 7 = .ok (.lreturn, 1) := by decide +kernel
theorem dX4_hashWithPupil_0 : decode cX4_hashWithPupil 0 = .ok (.lload_n 1, 1) := by decide +kernel
theorem dX4_hashWithPupil_1 : decode cX4_hashWithPupil 1 = .ok (.lstore 4, 2) := by decide +kernel
theorem dX4_hashWithPupil_3 : decode cX4_hashWithPupil 3 = .ok (.iconst 0, 1) := by decide +kernel
theorem dX4_hashWithPupil_4 : decode cX4_hashWithPupil 4 = .ok (.istore 6, 2) := by decide +kernel
theorem dX4_hashWithPupil_6 : decode cX4_hashWithPupil 6 = .ok (.iload 6, 2) := by decide +kernel
theorem dX4_hashWithPupil_8 : decode cX4_hashWithPupil 8 = .ok (.bipush 10, 2) := by decide +kernel
theorem dX4_hashWithPupil_10 : decode cX4_hashWithPupil 10 = .ok (.if_icmp .gt 24, 3) := by decide +kernel
theorem dX4_hashWithPupil_13 : decode cX4_hashWithPupil 13 = .ok (.lload 4, 2) := by decide +kernel
theorem dX4_hashWithPupil_15 : decode cX4_hashWithPupil 15 = .ok (.aload_n 0, 1) := by decide +kernel
theorem dX4_hashWithPupil_16 : decode cX4_hashWithPupil 16 = .ok (.iload_n 3, 1) := by decide +kernel
theorem dX4_hashWithPupil_17 : decode cX4_hashWithPupil 17 = .ok (.iload 6, 2) := by decide +kernel
theorem dX4_hashWithPupil_19 : decode cX4_hashWithPupil 19 = .ok (.invokevirtual 277, 3) := by decide +kernel
theorem dX4_hashWithPupil_22 : decode cX4_hashWithPupil 22 = .ok (.i2l, 1) := by decide +kernel
theorem dX4_hashWithPupil_23 : decode cX4_hashWithPupil 23 = .ok (.invokestatic 225, 3) := by decide +kernel
theorem dX4_hashWithPupil_26 : decode cX4_hashWithPupil 26 = .ok (.lstore 4, 2) := by decide +kernel
theorem dX4_hashWithPupil_28 : decode cX4_hashWithPupil 28 = .ok (.iinc 6 1, 3) := by decide +kernel
theorem dX4_hashWithPupil_31 : decode cX4_hashWithPupil 31 = .ok (.goto (-25), 3) := by decide +kernel
theorem dX4_hashWithPupil_34 : decode cX4_hashWithPupil 34 = .ok (.iconst 0, 1) := by decide +kernel
theorem dX4_hashWithPupil_35 : decode cX4_hashWithPupil 35 = .ok (.istore 6, 2) := by decide +kernel
theorem dX4_hashWithPupil_37 : decode cX4_hashWithPupil 37 = .ok (.iload 6, 2) := by decide +kernel
theorem dX4_hashWithPupil_39 : decode cX4_hashWithPupil 39 = .ok (.iconst 2, 1) := by decide +kernel
theorem dX4_hashWithPupil_40 : decode cX4_hashWithPupil 40 = .ok (.if_icmp .gt 24, 3) := by decide +kernel
theorem dX4_hashWithPupil_43 : decode cX4_hashWithPupil 43 = .ok (.lload 4, 2) := by decide +kernel
theorem dX4_hashWithPupil_45 : decode cX4_hashWithPupil 45 = .ok (.aload_n 0, 1) := by decide +kernel
theorem dX4_hashWithPupil_46 : decode cX4_hashWithPupil 46 = .ok (.iload_n 3, 1) := by decide +kernel
theorem dX4_hashWithPupil_47 : decode cX4_hashWithPupil 47 = .ok (.iload 6, 2) := by decide +kernel
theorem dX4_hashWithPupil_49 : decode cX4_hashWithPupil 49 = .ok (.invokevirtual 280, 3) := by decide +kernel
theorem dX4_hashWithPupil_52 : decode cX4_hashWithPupil 52 = .ok (.i2l, 1) := by decide +kernel
theorem dX4_hashWithPupil_53 : decode cX4_hashWithPupil 53 = .ok (.invokestatic 225, 3) := by decide +kernel
theorem dX4_hashWithPupil_56 : decode cX4_hashWithPupil 56 = .ok (.lstore 4, 2) := by decide +kernel
theorem dX4_hashWithPupil_58 : decode cX4_hashWithPupil 58 = .ok (.iinc 6 1, 3) := by decide +kernel
theorem dX4_hashWithPupil_61 : decode cX4_hashWithPupil 61 = .ok (.goto (-24), 3) := by decide +kernel
theorem dX4_hashWithPupil_64 : decode cX4_hashWithPupil 64 = .ok (.lload 4, 2) := by decide +kernel
theorem dX4_hashWithPupil_66 : decode cX4_hashWithPupil 66 = .ok (.lreturn, 1) := by decide +kernel
theorem dX4_hashWithExaminer_0 : decode cX4_hashWithExaminer 0 = .ok (.lload_n 1, 1) := by decide +kernel
theorem dX4_hashWithExaminer_1 : decode cX4_hashWithExaminer 1 = .ok (.lstore 4, 2) := by decide +kernel
theorem dX4_hashWithExaminer_3 : decode cX4_hashWithExaminer 3 = .ok (.iconst 0, 1) := by decide +kernel
theorem dX4_hashWithExaminer_4 : decode cX4_hashWithExaminer 4 = .ok (.istore 6, 2) := by decide +kernel
theorem dX4_hashWithExaminer_6 : decode cX4_hashWithExaminer 6 = .ok (.iload 6, 2) := by decide +kernel
theorem dX4_hashWithExaminer_8 : decode cX4_hashWithExaminer 8 = .ok (.bipush 8, 2) := by decide +kernel
theorem dX4_hashWithExaminer_10 : decode cX4_hashWithExaminer 10 = .ok (.if_icmp .gt 24, 3) := by decide +kernel
theorem dX4_hashWithExaminer_13 : decode cX4_hashWithExaminer 13 = .ok (.lload 4, 2) := by decide +kernel
theorem dX4_hashWithExaminer_15 : decode cX4_hashWithExaminer 15 = .ok (.aload_n 0, 1) := by decide +kernel
theorem dX4_hashWithExaminer_16 : decode cX4_hashWithExaminer 16 = .ok (.iload_n 3, 1) := by decide +kernel
theorem dX4_hashWithExaminer_17 : decode cX4_hashWithExaminer 17 = .ok (.iload 6, 2) := by decide +kernel
theorem dX4_hashWithExaminer_19 : decode cX4_hashWithExaminer 19 = .ok (.invokevirtual 283, 3) := by decide +kernel
theorem dX4_hashWithExaminer_22 : decode cX4_hashWithExaminer 22 = .ok (.i2l, 1) := by decide +kernel
theorem dX4_hashWithExaminer_23 : decode cX4_hashWithExaminer 23 = .ok (.invokestatic 225, 3) := by decide +kernel
theorem dX4_hashWithExaminer_26 : decode cX4_hashWithExaminer 26 = .ok (.lstore 4, 2) := by decide +kernel
theorem dX4_hashWithExaminer_28 : decode cX4_hashWithExaminer 28 = .ok (.iinc 6 1, 3) := by decide +kernel
theorem dX4_hashWithExaminer_31 : decode cX4_hashWithExaminer 31 = .ok (.goto (-25), 3) := by decide +kernel
theorem dX4_hashWithExaminer_34 : decode cX4_hashWithExaminer 34 = .ok (.iconst 0, 1) := by decide +kernel
theorem dX4_hashWithExaminer_35 : decode cX4_hashWithExaminer 35 = .ok (.istore 6, 2) := by decide +kernel
theorem dX4_hashWithExaminer_37 : decode cX4_hashWithExaminer 37 = .ok (.iload 6, 2) := by decide +kernel
theorem dX4_hashWithExaminer_39 : decode cX4_hashWithExaminer 39 = .ok (.bipush 10, 2) := by decide +kernel
theorem dX4_hashWithExaminer_41 : decode cX4_hashWithExaminer 41 = .ok (.if_icmp .ge 41, 3) := by decide +kernel
theorem dX4_hashWithExaminer_44 : decode cX4_hashWithExaminer 44 = .ok (.iconst 0, 1) := by decide +kernel
theorem dX4_hashWithExaminer_45 : decode cX4_hashWithExaminer 45 = .ok (.istore 7, 2) := by decide +kernel
theorem dX4_hashWithExaminer_47 : decode cX4_hashWithExaminer 47 = .ok (.iload 7, 2) := by decide +kernel
theorem dX4_hashWithExaminer_49 : decode cX4_hashWithExaminer 49 = .ok (.iconst 4, 1) := by decide +kernel
theorem dX4_hashWithExaminer_50 : decode cX4_hashWithExaminer 50 = .ok (.if_icmp .ge 26, 3) := by decide +kernel
theorem dX4_hashWithExaminer_53 : decode cX4_hashWithExaminer 53 = .ok (.lload 4, 2) := by decide +kernel
theorem dX4_hashWithExaminer_55 : decode cX4_hashWithExaminer 55 = .ok (.aload_n 0, 1) := by decide +kernel
theorem dX4_hashWithExaminer_56 : decode cX4_hashWithExaminer 56 = .ok (.iload_n 3, 1) := by decide +kernel
theorem dX4_hashWithExaminer_57 : decode cX4_hashWithExaminer 57 = .ok (.iload 6, 2) := by decide +kernel
theorem dX4_hashWithExaminer_59 : decode cX4_hashWithExaminer 59 = .ok (.iload 7, 2) := by decide +kernel
theorem dX4_hashWithExaminer_61 : decode cX4_hashWithExaminer 61 = .ok (.invokevirtual 286, 3) := by decide +kernel
theorem dX4_hashWithExaminer_64 : decode cX4_hashWithExaminer 64 = .ok (.i2l, 1) := by decide +kernel
theorem dX4_hashWithExaminer_65 : decode cX4_hashWithExaminer 65 = .ok (.invokestatic 225, 3) := by decide +kernel
theorem dX4_hashWithExaminer_68 : decode cX4_hashWithExaminer 68 = .ok (.lstore 4, 2) := by decide +kernel
theorem dX4_hashWithExaminer_70 : decode cX4_hashWithExaminer 70 = .ok (.iinc 7 1, 3) := by decide +kernel
theorem dX4_hashWithExaminer_73 : decode cX4_hashWithExaminer 73 = .ok (.goto (-26), 3) := by decide +kernel
theorem dX4_hashWithExaminer_76 : decode cX4_hashWithExaminer 76 = .ok (.iinc 6 1, 3) := by decide +kernel
theorem dX4_hashWithExaminer_79 : decode cX4_hashWithExaminer 79 = .ok (.goto (-42), 3) := by decide +kernel
theorem dX4_hashWithExaminer_82 : decode cX4_hashWithExaminer 82 = .ok (.iconst 0, 1) := by decide +kernel
theorem dX4_hashWithExaminer_83 : decode cX4_hashWithExaminer 83 = .ok (.istore 6, 2) := by decide +kernel
theorem dX4_hashWithExaminer_85 : decode cX4_hashWithExaminer 85 = .ok (.iload 6, 2) := by decide +kernel
theorem dX4_hashWithExaminer_87 : decode cX4_hashWithExaminer 87 = .ok (.iconst 1, 1) := by decide +kernel
theorem dX4_hashWithExaminer_88 : decode cX4_hashWithExaminer 88 = .ok (.if_icmp .gt 41, 3) := by decide +kernel
theorem dX4_hashWithExaminer_91 : decode cX4_hashWithExaminer 91 = .ok (.iconst 0, 1) := by decide +kernel
theorem dX4_hashWithExaminer_92 : decode cX4_hashWithExaminer 92 = .ok (.istore 7, 2) := by decide +kernel
theorem dX4_hashWithExaminer_94 : decode cX4_hashWithExaminer 94 = .ok (.iload 7, 2) := by decide +kernel
theorem dX4_hashWithExaminer_96 : decode cX4_hashWithExaminer 96 = .ok (.iconst 2, 1) := by decide +kernel
theorem dX4_hashWithExaminer_97 : decode cX4_hashWithExaminer 97 = .ok (.if_icmp .gt 26, 3) := by decide +kernel
theorem dX4_hashWithExaminer_100 : decode cX4_hashWithExaminer 100 = .ok (.lload 4, 2) := by decide +kernel
theorem dX4_hashWithExaminer_102 : decode cX4_hashWithExaminer 102 = .ok (.aload_n 0, 1) := by decide +kernel
theorem dX4_hashWithExaminer_103 : decode cX4_hashWithExaminer 103 = .ok (.iload_n 3, 1) := by decide +kernel
theorem dX4_hashWithExaminer_104 : decode cX4_hashWithExaminer 104 = .ok (.iload 6, 2) := by decide +kernel
theorem dX4_hashWithExaminer_106 : decode cX4_hashWithExaminer 106 = .ok (.iload 7, 2) := by decide +kernel
theorem dX4_hashWithExaminer_108 : decode cX4_hashWithExaminer 108 = .ok (.invokevirtual 289, 3) := by decide +kernel
theorem dX4_hashWithExaminer_111 : decode cX4_hashWithExaminer 111 = .ok (.i2l, 1) := by decide +kernel
theorem dX4_hashWithExaminer_112 : decode cX4_hashWithExaminer 112 = .ok (.invokestatic 225, 3) := by decide +kernel
theorem dX4_hashWithExaminer_115 : decode cX4_hashWithExaminer 115 = .ok (.lstore 4, 2) := by decide +kernel
theorem dX4_hashWithExaminer_117 : decode cX4_hashWithExaminer 117 = .ok (.iinc 7 1, 3) := by decide +kernel
theorem dX4_hashWithExaminer_120 : decode cX4_hashWithExaminer 120 = .ok (.goto (-26), 3) := by decide +kernel
theorem dX4_hashWithExaminer_123 : decode cX4_hashWithExaminer 123 = .ok (.iinc 6 1, 3) := by decide +kernel
theorem dX4_hashWithExaminer_126 : decode cX4_hashWithExaminer 126 = .ok (.goto (-41), 3) := by decide +kernel
theorem dX4_hashWithExaminer_129 : decode cX4_hashWithExaminer 129 = .ok (.aload_n 0, 1) := by decide +kernel
theorem dX4_hashWithExaminer_130 : decode cX4_hashWithExaminer 130 = .ok (.getfield 12, 3) := by decide +kernel
theorem dX4_hashWithExaminer_133 : decode cX4_hashWithExaminer 133 = .ok (.iconst 0, 1) := by decide +kernel
theorem dX4_hashWithExaminer_134 : decode cX4_hashWithExaminer 134 = .ok (.invokevirtual 59, 3) := by decide +kernel
theorem dX4_hashWithExaminer_137 : decode cX4_hashWithExaminer 137 = .ok (.ifCond .eq 18, 3) := by decide +kernel
theorem dX4_hashWithExaminer_140 : decode cX4_hashWithExaminer 140 = .ok (.lload 4, 2) := by decide +kernel
theorem dX4_hashWithExaminer_142 : decode cX4_hashWithExaminer 142 = .ok (.aload_n 0, 1) := by decide +kernel
theorem dX4_hashWithExaminer_143 : decode cX4_hashWithExaminer 143 = .ok (.iconst 0, 1) := by decide +kernel
theorem dX4_hashWithExaminer_144 : decode cX4_hashWithExaminer 144 = .ok (.iload_n 3, 1) := by decide +kernel
theorem dX4_hashWithExaminer_145 : decode cX4_hashWithExaminer 145 = .ok (.invokevirtual 292, 3) := by decide +kernel
theorem dX4_hashWithExaminer_148 : decode cX4_hashWithExaminer 148 = .ok (.i2l, 1) := by decide +kernel
theorem dX4_hashWithExaminer_149 : decode cX4_hashWithExaminer 149 = .ok (.invokestatic 225, 3) := by decide +kernel
theorem dX4_hashWithExaminer_152 : decode cX4_hashWithExaminer 152 = .ok (.goto 5, 3) := by decide +kernel
theorem dX4_hashWithExaminer_155 : decode cX4_hashWithExaminer 155 = .ok (.lload 4, 2) := by decide +kernel
theorem dX4_hashWithExaminer_157 : decode cX4_hashWithExaminer 157 = .ok (.lreturn, 1) := by decide +kernel
theorem dX4_bitsOf_0 : decode cX4_bitsOf 0 = .ok (.dload_n 0, 1) := by decide +kernel
theorem dX4_bitsOf_1 : decode cX4_bitsOf 1 = .ok (.dconst 0, 1) := by decide +kernel
theorem dX4_bitsOf_2 : decode cX4_bitsOf 2 = .ok (.dcmp .g, 1) := by decide +kernel
theorem dX4_bitsOf_3 : decode cX4_bitsOf 3 = .ok (.ifCond .gt 5, 3) := by decide +kernel
theorem dX4_bitsOf_6 : decode cX4_bitsOf 6 = .ok (.lconst 0, 1) := by decide +kernel
theorem dX4_bitsOf_7 : decode cX4_bitsOf 7 = .ok (.lreturn, 1) := by decide +kernel
theorem dX4_bitsOf_8 : decode cX4_bitsOf 8 = .ok (.dload_n 0, 1) := by decide +kernel
theorem dX4_bitsOf_9 : decode cX4_bitsOf 9 = .ok (.dstore_n 2, 1) := by decide +kernel
theorem dX4_bitsOf_10 : decode cX4_bitsOf 10 = .ok (.ldc2_w 295, 3) := by decide +kernel
theorem dX4_bitsOf_13 : decode cX4_bitsOf 13 = .ok (.lstore 4, 2) := by decide +kernel
theorem dX4_bitsOf_15 : decode cX4_bitsOf 15 = .ok (.dload_n 2, 1) := by decide +kernel
theorem dX4_bitsOf_16 : decode cX4_bitsOf 16 = .ok (.dconst 1, 1) := by decide +kernel
theorem dX4_bitsOf_17 : decode cX4_bitsOf 17 = .ok (.dcmp .g, 1) := by decide +kernel
theorem dX4_bitsOf_18 : decode cX4_bitsOf 18 = .ok (.ifCond .ge 25, 3) := by decide +kernel
theorem dX4_bitsOf_21 : decode cX4_bitsOf 21 = .ok (.lload 4, 2) := by decide +kernel
theorem dX4_bitsOf_23 : decode cX4_bitsOf 23 = .ok (.lconst 1, 1) := by decide +kernel
theorem dX4_bitsOf_24 : decode cX4_bitsOf 24 = .ok (.lcmp, 1) := by decide +kernel
theorem dX4_bitsOf_25 : decode cX4_bitsOf 25 = .ok (.ifCond .le 18, 3) := by decide +kernel
theorem dX4_bitsOf_28 : decode cX4_bitsOf 28 = .ok (.dload_n 2, 1) := by decide +kernel
theorem dX4_bitsOf_29 : decode cX4_bitsOf 29 = .ok (.ldc2_w 297, 3) := by decide +kernel
theorem dX4_bitsOf_32 : decode cX4_bitsOf 32 = .ok (.dmul, 1) := by decide +kernel
theorem dX4_bitsOf_33 : decode cX4_bitsOf 33 = .ok (.dstore_n 2, 1) := by decide +kernel
theorem dX4_bitsOf_34 : decode cX4_bitsOf 34 = .ok (.lload 4, 2) := by decide +kernel
theorem dX4_bitsOf_36 : decode cX4_bitsOf 36 = .ok (.lconst 1, 1) := by decide +kernel
theorem dX4_bitsOf_37 : decode cX4_bitsOf 37 = .ok (.lsub, 1) := by decide +kernel
theorem dX4_bitsOf_38 : decode cX4_bitsOf 38 = .ok (.lstore 4, 2) := by decide +kernel
theorem dX4_bitsOf_40 : decode cX4_bitsOf 40 = .ok (.goto (-25), 3) := by decide +kernel
theorem dX4_bitsOf_43 : decode cX4_bitsOf 43 = .ok (.dload_n 2, 1) := by decide +kernel
theorem dX4_bitsOf_44 : decode cX4_bitsOf 44 = .ok (.dconst 1, 1) := by decide +kernel
theorem dX4_bitsOf_45 : decode cX4_bitsOf 45 = .ok (.dsub, 1) := by decide +kernel
theorem dX4_bitsOf_46 : decode cX4_bitsOf 46 = .ok (.ldc2_w 299, 3) := by decide +kernel
theorem dX4_bitsOf_49 : decode cX4_bitsOf 49 = .ok (.dmul, 1) := by decide +kernel
theorem dX4_bitsOf_50 : decode cX4_bitsOf 50 = .ok (.d2l, 1) := by decide +kernel
theorem dX4_bitsOf_51 : decode cX4_bitsOf 51 = .ok (.lstore 6, 2) := by decide +kernel
theorem dX4_bitsOf_53 : decode cX4_bitsOf 53 = .ok (.lload 4, 2) := by decide +kernel
theorem dX4_bitsOf_55 : decode cX4_bitsOf 55 = .ok (.bipush 52, 2) := by decide +kernel
theorem dX4_bitsOf_57 : decode cX4_bitsOf 57 = .ok (.lshl, 1) := by decide +kernel
theorem dX4_bitsOf_58 : decode cX4_bitsOf 58 = .ok (.lload 6, 2) := by decide +kernel
theorem dX4_bitsOf_60 : decode cX4_bitsOf 60 = .ok (.ladd, 1) := by decide +kernel
theorem dX4_bitsOf_61 : decode cX4_bitsOf 61 = .ok (.lreturn, 1) := by decide +kernel
theorem dX5_init_0 : decode cX5_init 0 = .ok (.aload_n 0, 1) := by decide +kernel
theorem dX5_init_1 : decode cX5_init 1 = .ok (.invokespecial 1, 3) := by decide +kernel
theorem dX5_init_4 : decode cX5_init 4 = .ok (.aload_n 0, 1) := by decide +kernel
theorem dX5_init_5 : decode cX5_init 5 = .ok (.sipush 341, 3) := by decide +kernel
theorem dX5_init_8 : decode cX5_init 8 = .ok (.newarray .int, 2) := by decide +kernel
theorem dX5_init_10 : decode cX5_init 10 = .ok (.putfield 7, 3) := by decide +kernel
theorem dX5_init_13 : decode cX5_init 13 = .ok (.aload_n 0, 1) := by decide +kernel
theorem dX5_init_14 : decode cX5_init 14 = .ok (.sipush 341, 3) := by decide +kernel
theorem dX5_init_17 : decode cX5_init 17 = .ok (.newarray .int, 2) := by decide +kernel
theorem dX5_init_19 : decode cX5_init 19 = .ok (.putfield 13, 3) := by decide +kernel
theorem dX5_init_22 : decode cX5_init 22 = .ok (.aload_n 0, 1) := by decide +kernel
theorem dX5_init_23 : decode cX5_init 23 = .ok (.sipush 2046, 3) := by decide +kernel
theorem dX5_init_26 : decode cX5_init 26 = .ok (.newarray .int, 2) := by decide +kernel
theorem dX5_init_28 : decode cX5_init 28 = .ok (.putfield 16, 3) := by decide +kernel
theorem dX5_init_31 : decode cX5_init 31 = .ok (.aload_n 0, 1) := by decide +kernel
theorem dX5_init_32 : decode cX5_init 32 = .ok (.bipush 60, 2) := by decide +kernel
theorem dX5_init_34 : decode cX5_init 34 = .ok (.newarray .int, 2) := by decide +kernel
theorem dX5_init_36 : decode cX5_init 36 = .ok (.putfield 19, 3) := by decide +kernel
theorem dX5_init_39 : decode cX5_init 39 = .ok (.aload_n 0, 1) := by decide +kernel
theorem dX5_init_40 : decode cX5_init 40 = .ok (.bipush 12, 2) := by decide +kernel
theorem dX5_init_42 : decode cX5_init 42 = .ok (.newarray .int, 2) := by decide +kernel
theorem dX5_init_44 : decode cX5_init 44 = .ok (.putfield 22, 3) := by decide +kernel
theorem dX5_init_47 : decode cX5_init 47 = .ok (.aload_n 0, 1) := by decide +kernel
theorem dX5_init_48 : decode cX5_init 48 = .ok (.iconst 3, 1) := by decide +kernel
theorem dX5_init_49 : decode cX5_init 49 = .ok (.newarray .int, 2) := by decide +kernel
theorem dX5_init_51 : decode cX5_init 51 = .ok (.putfield 25, 3) := by decide +kernel
theorem dX5_init_54 : decode cX5_init 54 = .ok (.aload_n 0, 1) := by decide +kernel
theorem dX5_init_55 : decode cX5_init 55 = .ok (.bipush 16, 2) := by decide +kernel
theorem dX5_init_57 : decode cX5_init 57 = .ok (.newarray .int, 2) := by decide +kernel
theorem dX5_init_59 : decode cX5_init 59 = .ok (.putfield 28, 3) := by decide +kernel
theorem dX5_init_62 : decode cX5_init 62 = .ok (.aload_n 0, 1) := by decide +kernel
theorem dX5_init_63 : decode cX5_init 63 = .ok (.bipush 12, 2) := by decide +kernel
theorem dX5_init_65 : decode cX5_init 65 = .ok (.newarray .int, 2) := by decide +kernel
theorem dX5_init_67 : decode cX5_init 67 = .ok (.putfield 31, 3) := by decide +kernel
theorem dX5_init_70 : decode cX5_init 70 = .ok (.aload_n 0, 1) := by decide +kernel
theorem dX5_init_71 : decode cX5_init 71 = .ok (.bipush 16, 2) := by decide +kernel
theorem dX5_init_73 : decode cX5_init 73 = .ok (.newarray .int, 2) := by decide +kernel
theorem dX5_init_75 : decode cX5_init 75 = .ok (.putfield 34, 3) := by decide +kernel
theorem dX5_init_78 : decode cX5_init 78 = .ok (.aload_n 0, 1) := by decide +kernel
theorem dX5_init_79 : decode cX5_init 79 = .ok (.bipush 12, 2) := by decide +kernel
theorem dX5_init_81 : decode cX5_init 81 = .ok (.newarray .boolean, 2) := by decide +kernel
theorem dX5_init_83 : decode cX5_init 83 = .ok (.putfield 37, 3) := by decide +kernel
theorem dX5_init_86 : decode cX5_init 86 = .ok (.aload_n 0, 1) := by decide +kernel
theorem dX5_init_87 : decode cX5_init 87 = .ok (.getfield 7, 3) := by decide +kernel
theorem dX5_init_90 : decode cX5_init 90 = .ok (.iconst 5, 1) := by decide +kernel
theorem dX5_init_91 : decode cX5_init 91 = .ok (.iconst 3, 1) := by decide +kernel
theorem dX5_init_92 : decode cX5_init 92 = .ok (.iastore, 1) := by decide +kernel
theorem dX5_init_93 : decode cX5_init 93 = .ok (.aload_n 0, 1) := by decide +kernel
theorem dX5_init_94 : decode cX5_init 94 = .ok (.getfield 7, 3) := by decide +kernel
theorem dX5_init_97 : decode cX5_init 97 = .ok (.bipush 6, 2) := by decide +kernel
theorem dX5_init_99 : decode cX5_init 99 = .ok (.iconst 1, 1) := by decide +kernel
theorem dX5_init_100 : decode cX5_init 100 = .ok (.iastore, 1) := by decide +kernel
theorem dX5_init_101 : decode cX5_init 101 = .ok (.aload_n 0, 1) := by decide +kernel
theorem dX5_init_102 : decode cX5_init 102 = .ok (.getfield 7, 3) := by decide +kernel
theorem dX5_init_105 : decode cX5_init 105 = .ok (.bipush 7, 2) := by decide +kernel
theorem dX5_init_107 : decode cX5_init 107 = .ok (.iconst 2, 1) := by decide +kernel
theorem dX5_init_108 : decode cX5_init 108 = .ok (.iastore, 1) := by decide +kernel
theorem dX5_init_109 : decode cX5_init 109 = .ok (.aload_n 0, 1) := by decide +kernel
theorem dX5_init_110 : decode cX5_init 110 = .ok (.getfield 7, 3) := by decide +kernel
theorem dX5_init_113 : decode cX5_init 113 = .ok (.bipush 8, 2) := by decide +kernel
theorem dX5_init_115 : decode cX5_init 115 = .ok (.bipush 50, 2) := by decide +kernel
theorem dX5_init_117 : decode cX5_init 117 = .ok (.iastore, 1) := by decide +kernel
theorem dX5_init_118 : decode cX5_init 118 = .ok (.return_, 1) := by decide +kernel
theorem dX5_thrown_0 : decode cX5_thrown 0 = .ok (.aload_n 0, 1) := by decide +kernel
theorem dX5_thrown_1 : decode cX5_thrown 1 = .ok (.getfield 41, 3) := by decide +kernel
theorem dX5_thrown_4 : decode cX5_thrown 4 = .ok (.ireturn, 1) := by decide +kernel
theorem dX5_in_0 : decode cX5_in 0 = .ok (.iload_n 0, 1) := by decide +kernel
theorem dX5_in_1 : decode cX5_in 1 = .ok (.iload_n 1, 1) := by decide +kernel
theorem dX5_in_2 : decode cX5_in 2 = .ok (.if_icmp .lt 12, 3) := by decide +kernel
theorem dX5_in_5 : decode cX5_in 5 = .ok (.iload_n 0, 1) := by decide +kernel
theorem dX5_in_6 : decode cX5_in 6 = .ok (.iload_n 2, 1) := by decide +kernel
theorem dX5_in_7 : decode cX5_in 7 = .ok (.if_icmp .gt 7, 3) := by decide +kernel
theorem dX5_in_10 : decode cX5_in 10 = .ok (.iconst 1, 1) := by decide +kernel
theorem dX5_in_11 : decode cX5_in 11 = .ok (.goto 4, 3) := by decide +kernel
theorem dX5_in_14 : decode cX5_in 14 = .ok (.iconst 0, 1) := by decide +kernel
theorem dX5_in_15 : decode cX5_in 15 = .ok (.ireturn, 1) := by decide +kernel
theorem dX5_holds_0 : decode cX5_holds 0 = .ok (.aload_n 0, 1) := by decide +kernel
theorem dX5_holds_1 : decode cX5_holds 1 = .ok (.iload_n 1, 1) := by decide +kernel
theorem dX5_holds_2 : decode cX5_holds 2 = .ok (.putfield 41, 3) := by decide +kernel
theorem dX5_holds_5 : decode cX5_holds 5 = .ok (.iload_n 1, 1) := by decide +kernel
theorem dX5_holds_6 : decode cX5_holds 6 = .ok (.ifCond .ne 7, 3) := by decide +kernel
theorem dX5_holds_9 : decode cX5_holds 9 = .ok (.iconst 1, 1) := by decide +kernel
theorem dX5_holds_10 : decode cX5_holds 10 = .ok (.goto 4, 3) := by decide +kernel
theorem dX5_holds_13 : decode cX5_holds 13 = .ok (.iconst 0, 1) := by decide +kernel
theorem dX5_holds_14 : decode cX5_holds 14 = .ok (.ireturn, 1) := by decide +kernel
theorem dX5_at_0 : decode cX5_at 0 = .ok (.bipush 9, 2) := by decide +kernel
theorem dX5_at_2 : decode cX5_at 2 = .ok (.bipush 40, 2) := by decide +kernel
theorem dX5_at_4 : decode cX5_at 4 = .ok (.iload_n 0, 1) := by decide +kernel
theorem dX5_at_5 : decode cX5_at 5 = .ok (.imul, 1) := by decide +kernel
theorem dX5_at_6 : decode cX5_at 6 = .ok (.iadd, 1) := by decide +kernel
theorem dX5_at_7 : decode cX5_at 7 = .ok (.iconst 4, 1) := by decide +kernel
theorem dX5_at_8 : decode cX5_at 8 = .ok (.iload_n 1, 1) := by decide +kernel
theorem dX5_at_9 : decode cX5_at 9 = .ok (.imul, 1) := by decide +kernel
theorem dX5_at_10 : decode cX5_at 10 = .ok (.iadd, 1) := by decide +kernel
theorem dX5_at_11 : decode cX5_at 11 = .ok (.iload_n 2, 1) := by decide +kernel
theorem dX5_at_12 : decode cX5_at 12 = .ok (.iadd, 1) := by decide +kernel
theorem dX5_at_13 : decode cX5_at 13 = .ok (.ireturn, 1) := by decide +kernel
theorem dX5_of_0 : decode cX5_of 0 = .ok (.sipush 197, 3) := by decide +kernel
theorem dX5_of_3 : decode cX5_of 3 = .ok (.bipush 12, 2) := by decide +kernel
theorem dX5_of_5 : decode cX5_of 5 = .ok (.iload_n 0, 1) := by decide +kernel
theorem dX5_of_6 : decode cX5_of 6 = .ok (.imul, 1) := by decide +kernel
theorem dX5_of_7 : decode cX5_of 7 = .ok (.iadd, 1) := by decide +kernel
theorem dX5_of_8 : decode cX5_of 8 = .ok (.iload_n 1, 1) := by decide +kernel
theorem dX5_of_9 : decode cX5_of 9 = .ok (.iadd, 1) := by decide +kernel
theorem dX5_of_10 : decode cX5_of 10 = .ok (.ireturn, 1) := by decide +kernel
theorem dX5_ofExaminer_0 : decode cX5_ofExaminer 0 = .ok (.sipush 169, 3) := by decide +kernel
theorem dX5_ofExaminer_3 : decode cX5_ofExaminer 3 = .ok (.bipush 7, 2) := by decide +kernel
theorem dX5_ofExaminer_5 : decode cX5_ofExaminer 5 = .ok (.iload_n 0, 1) := by decide +kernel
theorem dX5_ofExaminer_6 : decode cX5_ofExaminer 6 = .ok (.imul, 1) := by decide +kernel
theorem dX5_ofExaminer_7 : decode cX5_ofExaminer 7 = .ok (.iadd, 1) := by decide +kernel
theorem dX5_ofExaminer_8 : decode cX5_ofExaminer 8 = .ok (.iload_n 1, 1) := by decide +kernel
theorem dX5_ofExaminer_9 : decode cX5_ofExaminer 9 = .ok (.iadd, 1) := by decide +kernel
theorem dX5_ofExaminer_10 : decode cX5_ofExaminer 10 = .ok (.ireturn, 1) := by decide +kernel
theorem dX5_isPupil_0 : decode cX5_isPupil 0 = .ok (.iload_n 1, 1) := by decide +kernel
theorem dX5_isPupil_1 : decode cX5_isPupil 1 = .ok (.iconst 0, 1) := by decide +kernel
theorem dX5_isPupil_2 : decode cX5_isPupil 2 = .ok (.aload_n 0, 1) := by decide +kernel
theorem dX5_isPupil_3 : decode cX5_isPupil 3 = .ok (.getfield 7, 3) := by decide +kernel
theorem dX5_isPupil_6 : decode cX5_isPupil 6 = .ok (.iconst 2, 1) := by decide +kernel
theorem dX5_isPupil_7 : decode cX5_isPupil 7 = .ok (.iaload, 1) := by decide +kernel
theorem dX5_isPupil_8 : decode cX5_isPupil 8 = .ok (.iconst 1, 1) := by decide +kernel
theorem dX5_isPupil_9 : decode cX5_isPupil 9 = .ok (.isub, 1) := by decide +kernel
theorem dX5_isPupil_10 : decode cX5_isPupil 10 = .ok (.invokestatic 45, 3) := by decide +kernel
theorem dX5_isPupil_13 : decode cX5_isPupil 13 = .ok (.ireturn, 1) := by decide +kernel
theorem dX5_isExaminer_0 : decode cX5_isExaminer 0 = .ok (.iload_n 1, 1) := by decide +kernel
theorem dX5_isExaminer_1 : decode cX5_isExaminer 1 = .ok (.iconst 0, 1) := by decide +kernel
theorem dX5_isExaminer_2 : decode cX5_isExaminer 2 = .ok (.aload_n 0, 1) := by decide +kernel
theorem dX5_isExaminer_3 : decode cX5_isExaminer 3 = .ok (.getfield 7, 3) := by decide +kernel
theorem dX5_isExaminer_6 : decode cX5_isExaminer 6 = .ok (.iconst 1, 1) := by decide +kernel
theorem dX5_isExaminer_7 : decode cX5_isExaminer 7 = .ok (.iaload, 1) := by decide +kernel
theorem dX5_isExaminer_8 : decode cX5_isExaminer 8 = .ok (.iconst 1, 1) := by decide +kernel
theorem dX5_isExaminer_9 : decode cX5_isExaminer 9 = .ok (.isub, 1) := by decide +kernel
theorem dX5_isExaminer_10 : decode cX5_isExaminer 10 = .ok (.invokestatic 45, 3) := by decide +kernel
theorem dX5_isExaminer_13 : decode cX5_isExaminer 13 = .ok (.ireturn, 1) := by decide +kernel
theorem dX5_save_0 : decode cX5_save 0 = .ok (.aload_n 0, 1) := by decide +kernel
theorem dX5_save_1 : decode cX5_save 1 = .ok (.getfield 49, 3) := by decide +kernel
theorem dX5_save_4 : decode cX5_save 4 = .ok (.bipush 6, 2) := by decide +kernel
theorem dX5_save_6 : decode cX5_save 6 = .ok (.if_icmp .ne 44, 3) := by decide +kernel
theorem dX5_save_9 : decode cX5_save 9 = .ok (.iconst 0, 1) := by decide +kernel
theorem dX5_save_10 : decode cX5_save 10 = .ok (.istore_n 1, 1) := by decide +kernel
theorem dX5_save_11 : decode cX5_save 11 = .ok (.iload_n 1, 1) := by decide +kernel
theorem dX5_save_12 : decode cX5_save 12 = .ok (.sipush 1705, 3) := by decide +kernel
theorem dX5_save_15 : decode cX5_save 15 = .ok (.if_icmp .ge 25, 3) := by decide +kernel
theorem dX5_save_18 : decode cX5_save 18 = .ok (.aload_n 0, 1) := by decide +kernel
theorem dX5_save_19 : decode cX5_save 19 = .ok (.getfield 16, 3) := by decide +kernel
theorem dX5_save_22 : decode cX5_save 22 = .ok (.iload_n 1, 1) := by decide +kernel
theorem dX5_save_23 : decode cX5_save 23 = .ok (.aload_n 0, 1) := by decide +kernel
theorem dX5_save_24 : decode cX5_save 24 = .ok (.getfield 16, 3) := by decide +kernel
theorem dX5_save_27 : decode cX5_save 27 = .ok (.sipush 341, 3) := by decide +kernel
theorem dX5_save_30 : decode cX5_save 30 = .ok (.iload_n 1, 1) := by decide +kernel
theorem dX5_save_31 : decode cX5_save 31 = .ok (.iadd, 1) := by decide +kernel
theorem dX5_save_32 : decode cX5_save 32 = .ok (.iaload, 1) := by decide +kernel
theorem dX5_save_33 : decode cX5_save 33 = .ok (.iastore, 1) := by decide +kernel
theorem dX5_save_34 : decode cX5_save 34 = .ok (.iinc 1 1, 3) := by decide +kernel
theorem dX5_save_37 : decode cX5_save 37 = .ok (.goto (-26), 3) := by decide +kernel
theorem dX5_save_40 : decode cX5_save 40 = .ok (.aload_n 0, 1) := by decide +kernel
theorem dX5_save_41 : decode cX5_save 41 = .ok (.dup, 1) := by decide +kernel
theorem dX5_save_42 : decode cX5_save 42 = .ok (.getfield 49, 3) := by decide +kernel
theorem dX5_save_45 : decode cX5_save 45 = .ok (.iconst 1, 1) := by decide +kernel
theorem dX5_save_46 : decode cX5_save 46 = .ok (.isub, 1) := by decide +kernel
theorem dX5_save_47 : decode cX5_save 47 = .ok (.putfield 49, 3) := by decide +kernel
theorem dX5_save_50 : decode cX5_save 50 = .ok (.iconst 0, 1) := by decide +kernel
theorem dX5_save_51 : decode cX5_save 51 = .ok (.istore_n 1, 1) := by decide +kernel
theorem dX5_save_52 : decode cX5_save 52 = .ok (.iload_n 1, 1) := by decide +kernel
theorem dX5_save_53 : decode cX5_save 53 = .ok (.sipush 341, 3) := by decide +kernel
theorem dX5_save_56 : decode cX5_save 56 = .ok (.if_icmp .ge 30, 3) := by decide +kernel
theorem dX5_save_59 : decode cX5_save 59 = .ok (.aload_n 0, 1) := by decide +kernel
theorem dX5_save_60 : decode cX5_save 60 = .ok (.getfield 16, 3) := by decide +kernel
theorem dX5_save_63 : decode cX5_save 63 = .ok (.sipush 341, 3) := by decide +kernel
theorem dX5_save_66 : decode cX5_save 66 = .ok (.aload_n 0, 1) := by decide +kernel
theorem dX5_save_67 : decode cX5_save 67 = .ok (.getfield 49, 3) := by decide +kernel
theorem dX5_save_70 : decode cX5_save 70 = .ok (.imul, 1) := by decide +kernel
theorem dX5_save_71 : decode cX5_save 71 = .ok (.iload_n 1, 1) := by decide +kernel
theorem dX5_save_72 : decode cX5_save 72 = .ok (.iadd, 1) := by decide +kernel
theorem dX5_save_73 : decode cX5_save 73 = .ok (.aload_n 0, 1) := by decide +kernel
theorem dX5_save_74 : decode cX5_save 74 = .ok (.getfield 7, 3) := by decide +kernel
theorem dX5_save_77 : decode cX5_save 77 = .ok (.iload_n 1, 1) := by decide +kernel
theorem dX5_save_78 : decode cX5_save 78 = .ok (.iaload, 1) := by decide +kernel
theorem dX5_save_79 : decode cX5_save 79 = .ok (.iastore, 1) := by decide +kernel
theorem dX5_save_80 : decode cX5_save 80 = .ok (.iinc 1 1, 3) := by decide +kernel
theorem dX5_save_83 : decode cX5_save 83 = .ok (.goto (-31), 3) := by decide +kernel
theorem dX5_save_86 : decode cX5_save 86 = .ok (.aload_n 0, 1) := by decide +kernel
theorem dX5_save_87 : decode cX5_save 87 = .ok (.dup, 1) := by decide +kernel
theorem dX5_save_88 : decode cX5_save 88 = .ok (.getfield 49, 3) := by decide +kernel
theorem dX5_save_91 : decode cX5_save 91 = .ok (.iconst 1, 1) := by decide +kernel
theorem dX5_save_92 : decode cX5_save 92 = .ok (.iadd, 1) := by decide +kernel
theorem dX5_save_93 : decode cX5_save 93 = .ok (.putfield 49, 3) := by decide +kernel
theorem dX5_save_96 : decode cX5_save 96 = .ok (.return_, 1) := by decide +kernel
theorem dX5_dayOf_0 : decode cX5_dayOf 0 = .ok (.iload_n 0, 1) := by decide +kernel
theorem dX5_dayOf_1 : decode cX5_dayOf 1 = .ok (.bipush 16, 2) := by decide +kernel
theorem dX5_dayOf_3 : decode cX5_dayOf 3 = .ok (.idiv, 1) := by decide +kernel
theorem dX5_dayOf_4 : decode cX5_dayOf 4 = .ok (.ireturn, 1) := by decide +kernel
theorem dX5_slotOf_0 : decode cX5_slotOf 0 = .ok (.iload_n 0, 1) := by decide +kernel
theorem dX5_slotOf_1 : decode cX5_slotOf 1 = .ok (.iconst 4, 1) := by decide +kernel
theorem dX5_slotOf_2 : decode cX5_slotOf 2 = .ok (.idiv, 1) := by decide +kernel
theorem dX5_slotOf_3 : decode cX5_slotOf 3 = .ok (.iconst 4, 1) := by decide +kernel
theorem dX5_slotOf_4 : decode cX5_slotOf 4 = .ok (.irem, 1) := by decide +kernel
theorem dX5_slotOf_5 : decode cX5_slotOf 5 = .ok (.ireturn, 1) := by decide +kernel
theorem dX5_examinerOf_0 : decode cX5_examinerOf 0 = .ok (.iload_n 0, 1) := by decide +kernel
theorem dX5_examinerOf_1 : decode cX5_examinerOf 1 = .ok (.iconst 4, 1) := by decide +kernel
theorem dX5_examinerOf_2 : decode cX5_examinerOf 2 = .ok (.irem, 1) := by decide +kernel
theorem dX5_examinerOf_3 : decode cX5_examinerOf 3 = .ok (.ireturn, 1) := by decide +kernel
theorem dX5_placeOf_0 : decode cX5_placeOf 0 = .ok (.iload_n 0, 1) := by decide +kernel
theorem dX5_placeOf_1 : decode cX5_placeOf 1 = .ok (.invokestatic 52, 3) := by decide +kernel
theorem dX5_placeOf_4 : decode cX5_placeOf 4 = .ok (.iload_n 0, 1) := by decide +kernel
theorem dX5_placeOf_5 : decode cX5_placeOf 5 = .ok (.invokestatic 56, 3) := by decide +kernel
theorem dX5_placeOf_8 : decode cX5_placeOf 8 = .ok (.iload_n 0, 1) := by decide +kernel
theorem dX5_placeOf_9 : decode cX5_placeOf 9 = .ok (.invokestatic 59, 3) := by decide +kernel
theorem dX5_placeOf_12 : decode cX5_placeOf 12 = .ok (.invokestatic 62, 3) := by decide +kernel
theorem dX5_placeOf_15 : decode cX5_placeOf 15 = .ok (.ireturn, 1) := by decide +kernel
theorem dX5_canHave_0 : decode cX5_canHave 0 = .ok (.iload_n 2, 1) := by decide +kernel
theorem dX5_canHave_1 : decode cX5_canHave 1 = .ok (.invokestatic 52, 3) := by decide +kernel
theorem dX5_canHave_4 : decode cX5_canHave 4 = .ok (.istore_n 3, 1) := by decide +kernel
theorem dX5_canHave_5 : decode cX5_canHave 5 = .ok (.iload_n 3, 1) := by decide +kernel
theorem dX5_canHave_6 : decode cX5_canHave 6 = .ok (.aload_n 0, 1) := by decide +kernel
theorem dX5_canHave_7 : decode cX5_canHave 7 = .ok (.getfield 7, 3) := by decide +kernel
theorem dX5_canHave_10 : decode cX5_canHave 10 = .ok (.iconst 1, 1) := by decide +kernel
theorem dX5_canHave_11 : decode cX5_canHave 11 = .ok (.iaload, 1) := by decide +kernel
theorem dX5_canHave_12 : decode cX5_canHave 12 = .ok (.if_icmp .ge 20, 3) := by decide +kernel
theorem dX5_canHave_15 : decode cX5_canHave 15 = .ok (.aload_n 0, 1) := by decide +kernel
theorem dX5_canHave_16 : decode cX5_canHave 16 = .ok (.getfield 7, 3) := by decide +kernel
theorem dX5_canHave_19 : decode cX5_canHave 19 = .ok (.iload_n 2, 1) := by decide +kernel
theorem dX5_canHave_20 : decode cX5_canHave 20 = .ok (.invokestatic 66, 3) := by decide +kernel
theorem dX5_canHave_23 : decode cX5_canHave 23 = .ok (.iaload, 1) := by decide +kernel
theorem dX5_canHave_24 : decode cX5_canHave 24 = .ok (.iconst (-1), 1) := by decide +kernel
theorem dX5_canHave_25 : decode cX5_canHave 25 = .ok (.if_icmp .ne 7, 3) := by decide +kernel
theorem dX5_canHave_28 : decode cX5_canHave 28 = .ok (.iconst 1, 1) := by decide +kernel
theorem dX5_canHave_29 : decode cX5_canHave 29 = .ok (.goto 4, 3) := by decide +kernel
theorem dX5_canHave_32 : decode cX5_canHave 32 = .ok (.iconst 0, 1) := by decide +kernel
theorem dX5_canHave_33 : decode cX5_canHave 33 = .ok (.istore 4, 2) := by decide +kernel
theorem dX5_canHave_35 : decode cX5_canHave 35 = .ok (.iload 4, 2) := by decide +kernel
theorem dX5_canHave_37 : decode cX5_canHave 37 = .ok (.ifCond .eq 55, 3) := by decide +kernel
theorem dX5_canHave_40 : decode cX5_canHave 40 = .ok (.aload_n 0, 1) := by decide +kernel
theorem dX5_canHave_41 : decode cX5_canHave 41 = .ok (.getfield 7, 3) := by decide +kernel
theorem dX5_canHave_44 : decode cX5_canHave 44 = .ok (.iconst 0, 1) := by decide +kernel
theorem dX5_canHave_45 : decode cX5_canHave 45 = .ok (.iaload, 1) := by decide +kernel
theorem dX5_canHave_46 : decode cX5_canHave 46 = .ok (.iload_n 2, 1) := by decide +kernel
theorem dX5_canHave_47 : decode cX5_canHave 47 = .ok (.invokestatic 56, 3) := by decide +kernel
theorem dX5_canHave_50 : decode cX5_canHave 50 = .ok (.iadd, 1) := by decide +kernel
theorem dX5_canHave_51 : decode cX5_canHave 51 = .ok (.aload_n 0, 1) := by decide +kernel
theorem dX5_canHave_52 : decode cX5_canHave 52 = .ok (.getfield 7, 3) := by decide +kernel
theorem dX5_canHave_55 : decode cX5_canHave 55 = .ok (.iload_n 1, 1) := by decide +kernel
theorem dX5_canHave_56 : decode cX5_canHave 56 = .ok (.iconst 2, 1) := by decide +kernel
theorem dX5_canHave_57 : decode cX5_canHave 57 = .ok (.invokestatic 69, 3) := by decide +kernel
theorem dX5_canHave_60 : decode cX5_canHave 60 = .ok (.iaload, 1) := by decide +kernel
theorem dX5_canHave_61 : decode cX5_canHave 61 = .ok (.if_icmp .lt 31, 3) := by decide +kernel
theorem dX5_canHave_64 : decode cX5_canHave 64 = .ok (.aload_n 0, 1) := by decide +kernel
theorem dX5_canHave_65 : decode cX5_canHave 65 = .ok (.getfield 7, 3) := by decide +kernel
theorem dX5_canHave_68 : decode cX5_canHave 68 = .ok (.bipush 6, 2) := by decide +kernel
theorem dX5_canHave_70 : decode cX5_canHave 70 = .ok (.iaload, 1) := by decide +kernel
theorem dX5_canHave_71 : decode cX5_canHave 71 = .ok (.ifCond .eq 17, 3) := by decide +kernel
theorem dX5_canHave_74 : decode cX5_canHave 74 = .ok (.iload_n 3, 1) := by decide +kernel
theorem dX5_canHave_75 : decode cX5_canHave 75 = .ok (.aload_n 0, 1) := by decide +kernel
theorem dX5_canHave_76 : decode cX5_canHave 76 = .ok (.getfield 7, 3) := by decide +kernel
theorem dX5_canHave_79 : decode cX5_canHave 79 = .ok (.iload_n 1, 1) := by decide +kernel
theorem dX5_canHave_80 : decode cX5_canHave 80 = .ok (.iconst 4, 1) := by decide +kernel
theorem dX5_canHave_81 : decode cX5_canHave 81 = .ok (.invokestatic 69, 3) := by decide +kernel
theorem dX5_canHave_84 : decode cX5_canHave 84 = .ok (.iaload, 1) := by decide +kernel
theorem dX5_canHave_85 : decode cX5_canHave 85 = .ok (.if_icmp .eq 7, 3) := by decide +kernel
theorem dX5_canHave_88 : decode cX5_canHave 88 = .ok (.iconst 1, 1) := by decide +kernel
theorem dX5_canHave_89 : decode cX5_canHave 89 = .ok (.goto 4, 3) := by decide +kernel
theorem dX5_canHave_92 : decode cX5_canHave 92 = .ok (.iconst 0, 1) := by decide +kernel
theorem dX5_canHave_93 : decode cX5_canHave 93 = .ok (.ireturn, 1) := by decide +kernel
theorem dX5_earliestOf_0 : decode cX5_earliestOf 0 = .ok (.iconst 0, 1) := by decide +kernel
theorem dX5_earliestOf_1 : decode cX5_earliestOf 1 = .ok (.istore_n 2, 1) := by decide +kernel
theorem dX5_earliestOf_2 : decode cX5_earliestOf 2 = .ok (.iload_n 2, 1) := by decide +kernel
theorem dX5_earliestOf_3 : decode cX5_earliestOf 3 = .ok (.sipush 160, 3) := by decide +kernel
theorem dX5_earliestOf_6 : decode cX5_earliestOf 6 = .ok (.if_icmp .ge 20, 3) := by decide +kernel
theorem dX5_earliestOf_9 : decode cX5_earliestOf 9 = .ok (.aload_n 0, 1) := by decide +kernel
theorem dX5_earliestOf_10 : decode cX5_earliestOf 10 = .ok (.iload_n 1, 1) := by decide +kernel
theorem dX5_earliestOf_11 : decode cX5_earliestOf 11 = .ok (.iload_n 2, 1) := by decide +kernel
theorem dX5_earliestOf_12 : decode cX5_earliestOf 12 = .ok (.invokevirtual 73, 3) := by decide +kernel
theorem dX5_earliestOf_15 : decode cX5_earliestOf 15 = .ok (.ifCond .eq 5, 3) := by decide +kernel
theorem dX5_earliestOf_18 : decode cX5_earliestOf 18 = .ok (.iload_n 2, 1) := by decide +kernel
theorem dX5_earliestOf_19 : decode cX5_earliestOf 19 = .ok (.ireturn, 1) := by decide +kernel
theorem dX5_earliestOf_20 : decode cX5_earliestOf 20 = .ok (.iinc 2 1, 3) := by decide +kernel
theorem dX5_earliestOf_23 : decode cX5_earliestOf 23 = .ok (.goto (-21), 3) := by decide +kernel
theorem dX5_earliestOf_26 : decode cX5_earliestOf 26 = .ok (.iconst (-1), 1) := by decide +kernel
theorem dX5_earliestOf_27 : decode cX5_earliestOf 27 = .ok (.ireturn, 1) := by decide +kernel
theorem dX5_slotBy_0 : decode cX5_slotBy 0 = .ok (.iconst 0, 1) := by decide +kernel
theorem dX5_slotBy_1 : decode cX5_slotBy 1 = .ok (.istore_n 2, 1) := by decide +kernel
theorem dX5_slotBy_2 : decode cX5_slotBy 2 = .ok (.iload_n 2, 1) := by decide +kernel
theorem dX5_slotBy_3 : decode cX5_slotBy 3 = .ok (.sipush 160, 3) := by decide +kernel
theorem dX5_slotBy_6 : decode cX5_slotBy 6 = .ok (.if_icmp .ge 37, 3) := by decide +kernel
theorem dX5_slotBy_9 : decode cX5_slotBy 9 = .ok (.iload_n 2, 1) := by decide +kernel
theorem dX5_slotBy_10 : decode cX5_slotBy 10 = .ok (.invokestatic 52, 3) := by decide +kernel
theorem dX5_slotBy_13 : decode cX5_slotBy 13 = .ok (.aload_n 0, 1) := by decide +kernel
theorem dX5_slotBy_14 : decode cX5_slotBy 14 = .ok (.getfield 7, 3) := by decide +kernel
theorem dX5_slotBy_17 : decode cX5_slotBy 17 = .ok (.iconst 1, 1) := by decide +kernel
theorem dX5_slotBy_18 : decode cX5_slotBy 18 = .ok (.iaload, 1) := by decide +kernel
theorem dX5_slotBy_19 : decode cX5_slotBy 19 = .ok (.if_icmp .ge 18, 3) := by decide +kernel
theorem dX5_slotBy_22 : decode cX5_slotBy 22 = .ok (.aload_n 0, 1) := by decide +kernel
theorem dX5_slotBy_23 : decode cX5_slotBy 23 = .ok (.getfield 7, 3) := by decide +kernel
theorem dX5_slotBy_26 : decode cX5_slotBy 26 = .ok (.iload_n 2, 1) := by decide +kernel
theorem dX5_slotBy_27 : decode cX5_slotBy 27 = .ok (.invokestatic 66, 3) := by decide +kernel
theorem dX5_slotBy_30 : decode cX5_slotBy 30 = .ok (.iaload, 1) := by decide +kernel
theorem dX5_slotBy_31 : decode cX5_slotBy 31 = .ok (.iload_n 1, 1) := by decide +kernel
theorem dX5_slotBy_32 : decode cX5_slotBy 32 = .ok (.if_icmp .ne 5, 3) := by decide +kernel
theorem dX5_slotBy_35 : decode cX5_slotBy 35 = .ok (.iload_n 2, 1) := by decide +kernel
theorem dX5_slotBy_36 : decode cX5_slotBy 36 = .ok (.ireturn, 1) := by decide +kernel
theorem dX5_slotBy_37 : decode cX5_slotBy 37 = .ok (.iinc 2 1, 3) := by decide +kernel
theorem dX5_slotBy_40 : decode cX5_slotBy 40 = .ok (.goto (-38), 3) := by decide +kernel
theorem dX5_slotBy_43 : decode cX5_slotBy 43 = .ok (.iconst (-1), 1) := by decide +kernel
theorem dX5_slotBy_44 : decode cX5_slotBy 44 = .ok (.ireturn, 1) := by decide +kernel
theorem dX5_isAhead_0 : decode cX5_isAhead 0 = .ok (.aload_n 0, 1) := by decide +kernel
theorem dX5_isAhead_1 : decode cX5_isAhead 1 = .ok (.getfield 7, 3) := by decide +kernel
theorem dX5_isAhead_4 : decode cX5_isAhead 4 = .ok (.iload_n 1, 1) := by decide +kernel
theorem dX5_isAhead_5 : decode cX5_isAhead 5 = .ok (.iconst 5, 1) := by decide +kernel
theorem dX5_isAhead_6 : decode cX5_isAhead 6 = .ok (.invokestatic 69, 3) := by decide +kernel
theorem dX5_isAhead_9 : decode cX5_isAhead 9 = .ok (.iaload, 1) := by decide +kernel
theorem dX5_isAhead_10 : decode cX5_isAhead 10 = .ok (.aload_n 0, 1) := by decide +kernel
theorem dX5_isAhead_11 : decode cX5_isAhead 11 = .ok (.getfield 7, 3) := by decide +kernel
theorem dX5_isAhead_14 : decode cX5_isAhead 14 = .ok (.iload_n 2, 1) := by decide +kernel
theorem dX5_isAhead_15 : decode cX5_isAhead 15 = .ok (.iconst 5, 1) := by decide +kernel
theorem dX5_isAhead_16 : decode cX5_isAhead 16 = .ok (.invokestatic 69, 3) := by decide +kernel
theorem dX5_isAhead_19 : decode cX5_isAhead 19 = .ok (.iaload, 1) := by decide +kernel
theorem dX5_isAhead_20 : decode cX5_isAhead 20 = .ok (.isub, 1) := by decide +kernel
theorem dX5_isAhead_21 : decode cX5_isAhead 21 = .ok (.istore_n 3, 1) := by decide +kernel
theorem dX5_isAhead_22 : decode cX5_isAhead 22 = .ok (.iload_n 3, 1) := by decide +kernel
theorem dX5_isAhead_23 : decode cX5_isAhead 23 = .ok (.ifCond .gt 32, 3) := by decide +kernel
theorem dX5_isAhead_26 : decode cX5_isAhead 26 = .ok (.iload_n 3, 1) := by decide +kernel
theorem dX5_isAhead_27 : decode cX5_isAhead 27 = .ok (.ifCond .ne 32, 3) := by decide +kernel
theorem dX5_isAhead_30 : decode cX5_isAhead 30 = .ok (.aload_n 0, 1) := by decide +kernel
theorem dX5_isAhead_31 : decode cX5_isAhead 31 = .ok (.getfield 7, 3) := by decide +kernel
theorem dX5_isAhead_34 : decode cX5_isAhead 34 = .ok (.iload_n 1, 1) := by decide +kernel
theorem dX5_isAhead_35 : decode cX5_isAhead 35 = .ok (.bipush 6, 2) := by decide +kernel
theorem dX5_isAhead_37 : decode cX5_isAhead 37 = .ok (.invokestatic 69, 3) := by decide +kernel
theorem dX5_isAhead_40 : decode cX5_isAhead 40 = .ok (.iaload, 1) := by decide +kernel
theorem dX5_isAhead_41 : decode cX5_isAhead 41 = .ok (.aload_n 0, 1) := by decide +kernel
theorem dX5_isAhead_42 : decode cX5_isAhead 42 = .ok (.getfield 7, 3) := by decide +kernel
theorem dX5_isAhead_45 : decode cX5_isAhead 45 = .ok (.iload_n 2, 1) := by decide +kernel
theorem dX5_isAhead_46 : decode cX5_isAhead 46 = .ok (.bipush 6, 2) := by decide +kernel
theorem dX5_isAhead_48 : decode cX5_isAhead 48 = .ok (.invokestatic 69, 3) := by decide +kernel
theorem dX5_isAhead_51 : decode cX5_isAhead 51 = .ok (.iaload, 1) := by decide +kernel
theorem dX5_isAhead_52 : decode cX5_isAhead 52 = .ok (.if_icmp .ge 7, 3) := by decide +kernel
theorem dX5_isAhead_55 : decode cX5_isAhead 55 = .ok (.iconst 1, 1) := by decide +kernel
theorem dX5_isAhead_56 : decode cX5_isAhead 56 = .ok (.goto 4, 3) := by decide +kernel
theorem dX5_isAhead_59 : decode cX5_isAhead 59 = .ok (.iconst 0, 1) := by decide +kernel
theorem dX5_isAhead_60 : decode cX5_isAhead 60 = .ok (.ireturn, 1) := by decide +kernel
theorem dX5_placeInOrder_0 : decode cX5_placeInOrder 0 = .ok (.iconst 0, 1) := by decide +kernel
theorem dX5_placeInOrder_1 : decode cX5_placeInOrder 1 = .ok (.istore_n 2, 1) := by decide +kernel
theorem dX5_placeInOrder_2 : decode cX5_placeInOrder 2 = .ok (.iconst 0, 1) := by decide +kernel
theorem dX5_placeInOrder_3 : decode cX5_placeInOrder 3 = .ok (.istore_n 3, 1) := by decide +kernel
theorem dX5_placeInOrder_4 : decode cX5_placeInOrder 4 = .ok (.iload_n 3, 1) := by decide +kernel
theorem dX5_placeInOrder_5 : decode cX5_placeInOrder 5 = .ok (.aload_n 0, 1) := by decide +kernel
theorem dX5_placeInOrder_6 : decode cX5_placeInOrder 6 = .ok (.getfield 7, 3) := by decide +kernel
theorem dX5_placeInOrder_9 : decode cX5_placeInOrder 9 = .ok (.iconst 2, 1) := by decide +kernel
theorem dX5_placeInOrder_10 : decode cX5_placeInOrder 10 = .ok (.iaload, 1) := by decide +kernel
theorem dX5_placeInOrder_11 : decode cX5_placeInOrder 11 = .ok (.if_icmp .ge 40, 3) := by decide +kernel
theorem dX5_placeInOrder_14 : decode cX5_placeInOrder 14 = .ok (.iload_n 2, 1) := by decide +kernel
theorem dX5_placeInOrder_15 : decode cX5_placeInOrder 15 = .ok (.aload_n 0, 1) := by decide +kernel
theorem dX5_placeInOrder_16 : decode cX5_placeInOrder 16 = .ok (.getfield 7, 3) := by decide +kernel
theorem dX5_placeInOrder_19 : decode cX5_placeInOrder 19 = .ok (.iload_n 3, 1) := by decide +kernel
theorem dX5_placeInOrder_20 : decode cX5_placeInOrder 20 = .ok (.iconst 0, 1) := by decide +kernel
theorem dX5_placeInOrder_21 : decode cX5_placeInOrder 21 = .ok (.invokestatic 69, 3) := by decide +kernel
theorem dX5_placeInOrder_24 : decode cX5_placeInOrder 24 = .ok (.iaload, 1) := by decide +kernel
theorem dX5_placeInOrder_25 : decode cX5_placeInOrder 25 = .ok (.iconst 1, 1) := by decide +kernel
theorem dX5_placeInOrder_26 : decode cX5_placeInOrder 26 = .ok (.if_icmp .ne 16, 3) := by decide +kernel
theorem dX5_placeInOrder_29 : decode cX5_placeInOrder 29 = .ok (.aload_n 0, 1) := by decide +kernel
theorem dX5_placeInOrder_30 : decode cX5_placeInOrder 30 = .ok (.iload_n 3, 1) := by decide +kernel
theorem dX5_placeInOrder_31 : decode cX5_placeInOrder 31 = .ok (.iload_n 1, 1) := by decide +kernel
theorem dX5_placeInOrder_32 : decode cX5_placeInOrder 32 = .ok (.invokevirtual 77, 3) := by decide +kernel
theorem dX5_placeInOrder_35 : decode cX5_placeInOrder 35 = .ok (.ifCond .eq 7, 3) := by decide +kernel
theorem dX5_placeInOrder_38 : decode cX5_placeInOrder 38 = .ok (.iconst 1, 1) := by decide +kernel
theorem dX5_placeInOrder_39 : decode cX5_placeInOrder 39 = .ok (.goto 4, 3) := by decide +kernel
theorem dX5_placeInOrder_42 : decode cX5_placeInOrder 42 = .ok (.iconst 0, 1) := by decide +kernel
theorem dX5_placeInOrder_43 : decode cX5_placeInOrder 43 = .ok (.iadd, 1) := by decide +kernel
theorem dX5_placeInOrder_44 : decode cX5_placeInOrder 44 = .ok (.istore_n 2, 1) := by decide +kernel
theorem dX5_placeInOrder_45 : decode cX5_placeInOrder 45 = .ok (.iinc 3 1, 3) := by decide +kernel
theorem dX5_placeInOrder_48 : decode cX5_placeInOrder 48 = .ok (.goto (-44), 3) := by decide +kernel
theorem dX5_placeInOrder_51 : decode cX5_placeInOrder 51 = .ok (.iload_n 2, 1) := by decide +kernel
theorem dX5_placeInOrder_52 : decode cX5_placeInOrder 52 = .ok (.ireturn, 1) := by decide +kernel
theorem dX5_giveOut_0 : decode cX5_giveOut 0 = .ok (.iconst 0, 1) := by decide +kernel
theorem dX5_giveOut_1 : decode cX5_giveOut 1 = .ok (.istore_n 1, 1) := by decide +kernel
theorem dX5_giveOut_2 : decode cX5_giveOut 2 = .ok (.iconst 0, 1) := by decide +kernel
theorem dX5_giveOut_3 : decode cX5_giveOut 3 = .ok (.istore_n 2, 1) := by decide +kernel
theorem dX5_giveOut_4 : decode cX5_giveOut 4 = .ok (.iload_n 2, 1) := by decide +kernel
theorem dX5_giveOut_5 : decode cX5_giveOut 5 = .ok (.aload_n 0, 1) := by decide +kernel
theorem dX5_giveOut_6 : decode cX5_giveOut 6 = .ok (.getfield 7, 3) := by decide +kernel
theorem dX5_giveOut_9 : decode cX5_giveOut 9 = .ok (.iconst 2, 1) := by decide +kernel
theorem dX5_giveOut_10 : decode cX5_giveOut 10 = .ok (.iaload, 1) := by decide +kernel
theorem dX5_giveOut_11 : decode cX5_giveOut 11 = .ok (.if_icmp .ge 37, 3) := by decide +kernel
theorem dX5_giveOut_14 : decode cX5_giveOut 14 = .ok (.aload_n 0, 1) := by decide +kernel
theorem dX5_giveOut_15 : decode cX5_giveOut 15 = .ok (.getfield 7, 3) := by decide +kernel
theorem dX5_giveOut_18 : decode cX5_giveOut 18 = .ok (.iload_n 2, 1) := by decide +kernel
theorem dX5_giveOut_19 : decode cX5_giveOut 19 = .ok (.iconst 0, 1) := by decide +kernel
theorem dX5_giveOut_20 : decode cX5_giveOut 20 = .ok (.invokestatic 69, 3) := by decide +kernel
theorem dX5_giveOut_23 : decode cX5_giveOut 23 = .ok (.iaload, 1) := by decide +kernel
theorem dX5_giveOut_24 : decode cX5_giveOut 24 = .ok (.iconst 1, 1) := by decide +kernel
theorem dX5_giveOut_25 : decode cX5_giveOut 25 = .ok (.if_icmp .ne 17, 3) := by decide +kernel
theorem dX5_giveOut_28 : decode cX5_giveOut 28 = .ok (.aload_n 0, 1) := by decide +kernel
theorem dX5_giveOut_29 : decode cX5_giveOut 29 = .ok (.getfield 22, 3) := by decide +kernel
theorem dX5_giveOut_32 : decode cX5_giveOut 32 = .ok (.aload_n 0, 1) := by decide +kernel
theorem dX5_giveOut_33 : decode cX5_giveOut 33 = .ok (.iload_n 2, 1) := by decide +kernel
theorem dX5_giveOut_34 : decode cX5_giveOut 34 = .ok (.invokevirtual 80, 3) := by decide +kernel
theorem dX5_giveOut_37 : decode cX5_giveOut 37 = .ok (.iload_n 2, 1) := by decide +kernel
theorem dX5_giveOut_38 : decode cX5_giveOut 38 = .ok (.iastore, 1) := by decide +kernel
theorem dX5_giveOut_39 : decode cX5_giveOut 39 = .ok (.iinc 1 1, 3) := by decide +kernel
theorem dX5_giveOut_42 : decode cX5_giveOut 42 = .ok (.iinc 2 1, 3) := by decide +kernel
theorem dX5_giveOut_45 : decode cX5_giveOut 45 = .ok (.goto (-41), 3) := by decide +kernel
theorem dX5_giveOut_48 : decode cX5_giveOut 48 = .ok (.iconst 0, 1) := by decide +kernel
theorem dX5_giveOut_49 : decode cX5_giveOut 49 = .ok (.istore_n 2, 1) := by decide +kernel
theorem dX5_giveOut_50 : decode cX5_giveOut 50 = .ok (.iload_n 2, 1) := by decide +kernel
theorem dX5_giveOut_51 : decode cX5_giveOut 51 = .ok (.iload_n 1, 1) := by decide +kernel
theorem dX5_giveOut_52 : decode cX5_giveOut 52 = .ok (.if_icmp .ge 51, 3) := by decide +kernel
theorem dX5_giveOut_55 : decode cX5_giveOut 55 = .ok (.aload_n 0, 1) := by decide +kernel
theorem dX5_giveOut_56 : decode cX5_giveOut 56 = .ok (.getfield 22, 3) := by decide +kernel
theorem dX5_giveOut_59 : decode cX5_giveOut 59 = .ok (.iload_n 2, 1) := by decide +kernel
theorem dX5_giveOut_60 : decode cX5_giveOut 60 = .ok (.iaload, 1) := by decide +kernel
theorem dX5_giveOut_61 : decode cX5_giveOut 61 = .ok (.istore_n 3, 1) := by decide +kernel
theorem dX5_giveOut_62 : decode cX5_giveOut 62 = .ok (.aload_n 0, 1) := by decide +kernel
theorem dX5_giveOut_63 : decode cX5_giveOut 63 = .ok (.iload_n 3, 1) := by decide +kernel
theorem dX5_giveOut_64 : decode cX5_giveOut 64 = .ok (.invokevirtual 83, 3) := by decide +kernel
theorem dX5_giveOut_67 : decode cX5_giveOut 67 = .ok (.istore 4, 2) := by decide +kernel
theorem dX5_giveOut_69 : decode cX5_giveOut 69 = .ok (.iload 4, 2) := by decide +kernel
theorem dX5_giveOut_71 : decode cX5_giveOut 71 = .ok (.iconst (-1), 1) := by decide +kernel
theorem dX5_giveOut_72 : decode cX5_giveOut 72 = .ok (.if_icmp .eq 25, 3) := by decide +kernel
theorem dX5_giveOut_75 : decode cX5_giveOut 75 = .ok (.aload_n 0, 1) := by decide +kernel
theorem dX5_giveOut_76 : decode cX5_giveOut 76 = .ok (.getfield 7, 3) := by decide +kernel
theorem dX5_giveOut_79 : decode cX5_giveOut 79 = .ok (.iload 4, 2) := by decide +kernel
theorem dX5_giveOut_81 : decode cX5_giveOut 81 = .ok (.invokestatic 66, 3) := by decide +kernel
theorem dX5_giveOut_84 : decode cX5_giveOut 84 = .ok (.iload_n 3, 1) := by decide +kernel
theorem dX5_giveOut_85 : decode cX5_giveOut 85 = .ok (.iastore, 1) := by decide +kernel
theorem dX5_giveOut_86 : decode cX5_giveOut 86 = .ok (.aload_n 0, 1) := by decide +kernel
theorem dX5_giveOut_87 : decode cX5_giveOut 87 = .ok (.getfield 7, 3) := by decide +kernel
theorem dX5_giveOut_90 : decode cX5_giveOut 90 = .ok (.iload_n 3, 1) := by decide +kernel
theorem dX5_giveOut_91 : decode cX5_giveOut 91 = .ok (.iconst 0, 1) := by decide +kernel
theorem dX5_giveOut_92 : decode cX5_giveOut 92 = .ok (.invokestatic 69, 3) := by decide +kernel
theorem dX5_giveOut_95 : decode cX5_giveOut 95 = .ok (.iconst 2, 1) := by decide +kernel
theorem dX5_giveOut_96 : decode cX5_giveOut 96 = .ok (.iastore, 1) := by decide +kernel
theorem dX5_giveOut_97 : decode cX5_giveOut 97 = .ok (.iinc 2 1, 3) := by decide +kernel
theorem dX5_giveOut_100 : decode cX5_giveOut 100 = .ok (.goto (-50), 3) := by decide +kernel
theorem dX5_giveOut_103 : decode cX5_giveOut 103 = .ok (.return_, 1) := by decide +kernel
theorem dX5_wait_0 : decode cX5_wait 0 = .ok (.aload_n 0, 1) := by decide +kernel
theorem dX5_wait_1 : decode cX5_wait 1 = .ok (.getfield 7, 3) := by decide +kernel
theorem dX5_wait_4 : decode cX5_wait 4 = .ok (.iload_n 1, 1) := by decide +kernel
theorem dX5_wait_5 : decode cX5_wait 5 = .ok (.iconst 0, 1) := by decide +kernel
theorem dX5_wait_6 : decode cX5_wait 6 = .ok (.invokestatic 69, 3) := by decide +kernel
theorem dX5_wait_9 : decode cX5_wait 9 = .ok (.iconst 1, 1) := by decide +kernel
theorem dX5_wait_10 : decode cX5_wait 10 = .ok (.iastore, 1) := by decide +kernel
theorem dX5_wait_11 : decode cX5_wait 11 = .ok (.aload_n 0, 1) := by decide +kernel
theorem dX5_wait_12 : decode cX5_wait 12 = .ok (.getfield 7, 3) := by decide +kernel
theorem dX5_wait_15 : decode cX5_wait 15 = .ok (.iload_n 1, 1) := by decide +kernel
theorem dX5_wait_16 : decode cX5_wait 16 = .ok (.bipush 6, 2) := by decide +kernel
theorem dX5_wait_18 : decode cX5_wait 18 = .ok (.invokestatic 69, 3) := by decide +kernel
theorem dX5_wait_21 : decode cX5_wait 21 = .ok (.aload_n 0, 1) := by decide +kernel
theorem dX5_wait_22 : decode cX5_wait 22 = .ok (.getfield 7, 3) := by decide +kernel
theorem dX5_wait_25 : decode cX5_wait 25 = .ok (.iconst 3, 1) := by decide +kernel
theorem dX5_wait_26 : decode cX5_wait 26 = .ok (.iaload, 1) := by decide +kernel
theorem dX5_wait_27 : decode cX5_wait 27 = .ok (.iastore, 1) := by decide +kernel
theorem dX5_wait_28 : decode cX5_wait 28 = .ok (.aload_n 0, 1) := by decide +kernel
theorem dX5_wait_29 : decode cX5_wait 29 = .ok (.getfield 7, 3) := by decide +kernel
theorem dX5_wait_32 : decode cX5_wait 32 = .ok (.iconst 3, 1) := by decide +kernel
theorem dX5_wait_33 : decode cX5_wait 33 = .ok (.dup2, 1) := by decide +kernel
theorem dX5_wait_34 : decode cX5_wait 34 = .ok (.iaload, 1) := by decide +kernel
theorem dX5_wait_35 : decode cX5_wait 35 = .ok (.iconst 1, 1) := by decide +kernel
theorem dX5_wait_36 : decode cX5_wait 36 = .ok (.iadd, 1) := by decide +kernel
theorem dX5_wait_37 : decode cX5_wait 37 = .ok (.iastore, 1) := by decide +kernel
theorem dX5_wait_38 : decode cX5_wait 38 = .ok (.return_, 1) := by decide +kernel
theorem dX5_addExaminer_0 : decode cX5_addExaminer 0 = .ok (.aload_n 0, 1) := by decide +kernel
theorem dX5_addExaminer_1 : decode cX5_addExaminer 1 = .ok (.aload_n 0, 1) := by decide +kernel
theorem dX5_addExaminer_2 : decode cX5_addExaminer 2 = .ok (.getfield 7, 3) := by decide +kernel
theorem dX5_addExaminer_5 : decode cX5_addExaminer 5 = .ok (.iconst 1, 1) := by decide +kernel
theorem dX5_addExaminer_6 : decode cX5_addExaminer 6 = .ok (.iaload, 1) := by decide +kernel
theorem dX5_addExaminer_7 : decode cX5_addExaminer 7 = .ok (.iconst 4, 1) := by decide +kernel
theorem dX5_addExaminer_8 : decode cX5_addExaminer 8 = .ok (.if_icmp .ne 7, 3) := by decide +kernel
theorem dX5_addExaminer_11 : decode cX5_addExaminer 11 = .ok (.iconst 1, 1) := by decide +kernel
theorem dX5_addExaminer_12 : decode cX5_addExaminer 12 = .ok (.goto 4, 3) := by decide +kernel
theorem dX5_addExaminer_15 : decode cX5_addExaminer 15 = .ok (.iconst 0, 1) := by decide +kernel
theorem dX5_addExaminer_16 : decode cX5_addExaminer 16 = .ok (.invokevirtual 86, 3) := by decide +kernel
theorem dX5_addExaminer_19 : decode cX5_addExaminer 19 = .ok (.ifCond .ne 5, 3) := by decide +kernel
theorem dX5_addExaminer_22 : decode cX5_addExaminer 22 = .ok (.iconst 0, 1) := by decide +kernel
theorem dX5_addExaminer_23 : decode cX5_addExaminer 23 = .ok (.ireturn, 1) := by decide +kernel
theorem dX5_addExaminer_24 : decode cX5_addExaminer 24 = .ok (.aload_n 0, 1) := by decide +kernel
theorem dX5_addExaminer_25 : decode cX5_addExaminer 25 = .ok (.invokevirtual 90, 3) := by decide +kernel
theorem dX5_addExaminer_28 : decode cX5_addExaminer 28 = .ok (.aload_n 0, 1) := by decide +kernel
theorem dX5_addExaminer_29 : decode cX5_addExaminer 29 = .ok (.getfield 7, 3) := by decide +kernel
theorem dX5_addExaminer_32 : decode cX5_addExaminer 32 = .ok (.iconst 1, 1) := by decide +kernel
theorem dX5_addExaminer_33 : decode cX5_addExaminer 33 = .ok (.iaload, 1) := by decide +kernel
theorem dX5_addExaminer_34 : decode cX5_addExaminer 34 = .ok (.istore_n 1, 1) := by decide +kernel
theorem dX5_addExaminer_35 : decode cX5_addExaminer 35 = .ok (.iconst 0, 1) := by decide +kernel
theorem dX5_addExaminer_36 : decode cX5_addExaminer 36 = .ok (.istore_n 2, 1) := by decide +kernel
theorem dX5_addExaminer_37 : decode cX5_addExaminer 37 = .ok (.iload_n 2, 1) := by decide +kernel
theorem dX5_addExaminer_38 : decode cX5_addExaminer 38 = .ok (.bipush 40, 2) := by decide +kernel
theorem dX5_addExaminer_40 : decode cX5_addExaminer 40 = .ok (.if_icmp .ge 24, 3) := by decide +kernel
theorem dX5_addExaminer_43 : decode cX5_addExaminer 43 = .ok (.aload_n 0, 1) := by decide +kernel
theorem dX5_addExaminer_44 : decode cX5_addExaminer 44 = .ok (.getfield 7, 3) := by decide +kernel
theorem dX5_addExaminer_47 : decode cX5_addExaminer 47 = .ok (.bipush 9, 2) := by decide +kernel
theorem dX5_addExaminer_49 : decode cX5_addExaminer 49 = .ok (.bipush 40, 2) := by decide +kernel
theorem dX5_addExaminer_51 : decode cX5_addExaminer 51 = .ok (.iload_n 1, 1) := by decide +kernel
theorem dX5_addExaminer_52 : decode cX5_addExaminer 52 = .ok (.imul, 1) := by decide +kernel
theorem dX5_addExaminer_53 : decode cX5_addExaminer 53 = .ok (.iadd, 1) := by decide +kernel
theorem dX5_addExaminer_54 : decode cX5_addExaminer 54 = .ok (.iload_n 2, 1) := by decide +kernel
theorem dX5_addExaminer_55 : decode cX5_addExaminer 55 = .ok (.iadd, 1) := by decide +kernel
theorem dX5_addExaminer_56 : decode cX5_addExaminer 56 = .ok (.iconst (-1), 1) := by decide +kernel
theorem dX5_addExaminer_57 : decode cX5_addExaminer 57 = .ok (.iastore, 1) := by decide +kernel
theorem dX5_addExaminer_58 : decode cX5_addExaminer 58 = .ok (.iinc 2 1, 3) := by decide +kernel
theorem dX5_addExaminer_61 : decode cX5_addExaminer 61 = .ok (.goto (-24), 3) := by decide +kernel
theorem dX5_addExaminer_64 : decode cX5_addExaminer 64 = .ok (.iconst 0, 1) := by decide +kernel
theorem dX5_addExaminer_65 : decode cX5_addExaminer 65 = .ok (.istore_n 2, 1) := by decide +kernel
theorem dX5_addExaminer_66 : decode cX5_addExaminer 66 = .ok (.iload_n 2, 1) := by decide +kernel
theorem dX5_addExaminer_67 : decode cX5_addExaminer 67 = .ok (.bipush 7, 2) := by decide +kernel
theorem dX5_addExaminer_69 : decode cX5_addExaminer 69 = .ok (.if_icmp .ge 20, 3) := by decide +kernel
theorem dX5_addExaminer_72 : decode cX5_addExaminer 72 = .ok (.aload_n 0, 1) := by decide +kernel
theorem dX5_addExaminer_73 : decode cX5_addExaminer 73 = .ok (.getfield 7, 3) := by decide +kernel
theorem dX5_addExaminer_76 : decode cX5_addExaminer 76 = .ok (.iload_n 1, 1) := by decide +kernel
theorem dX5_addExaminer_77 : decode cX5_addExaminer 77 = .ok (.iload_n 2, 1) := by decide +kernel
theorem dX5_addExaminer_78 : decode cX5_addExaminer 78 = .ok (.invokestatic 93, 3) := by decide +kernel
theorem dX5_addExaminer_81 : decode cX5_addExaminer 81 = .ok (.iconst 0, 1) := by decide +kernel
theorem dX5_addExaminer_82 : decode cX5_addExaminer 82 = .ok (.iastore, 1) := by decide +kernel
theorem dX5_addExaminer_83 : decode cX5_addExaminer 83 = .ok (.iinc 2 1, 3) := by decide +kernel
theorem dX5_addExaminer_86 : decode cX5_addExaminer 86 = .ok (.goto (-20), 3) := by decide +kernel
theorem dX5_addExaminer_89 : decode cX5_addExaminer 89 = .ok (.aload_n 0, 1) := by decide +kernel
theorem dX5_addExaminer_90 : decode cX5_addExaminer 90 = .ok (.getfield 7, 3) := by decide +kernel
theorem dX5_addExaminer_93 : decode cX5_addExaminer 93 = .ok (.iconst 1, 1) := by decide +kernel
theorem dX5_addExaminer_94 : decode cX5_addExaminer 94 = .ok (.dup2, 1) := by decide +kernel
theorem dX5_addExaminer_95 : decode cX5_addExaminer 95 = .ok (.iaload, 1) := by decide +kernel
theorem dX5_addExaminer_96 : decode cX5_addExaminer 96 = .ok (.iconst 1, 1) := by decide +kernel
theorem dX5_addExaminer_97 : decode cX5_addExaminer 97 = .ok (.iadd, 1) := by decide +kernel
theorem dX5_addExaminer_98 : decode cX5_addExaminer 98 = .ok (.iastore, 1) := by decide +kernel
theorem dX5_addExaminer_99 : decode cX5_addExaminer 99 = .ok (.aload_n 0, 1) := by decide +kernel
theorem dX5_addExaminer_100 : decode cX5_addExaminer 100 = .ok (.invokevirtual 96, 3) := by decide +kernel
theorem dX5_addExaminer_103 : decode cX5_addExaminer 103 = .ok (.iload_n 1, 1) := by decide +kernel
theorem dX5_addExaminer_104 : decode cX5_addExaminer 104 = .ok (.ireturn, 1) := by decide +kernel
theorem dX5_addPupil_0 : decode cX5_addPupil 0 = .ok (.aload_n 0, 1) := by decide +kernel
theorem dX5_addPupil_1 : decode cX5_addPupil 1 = .ok (.aload_n 0, 1) := by decide +kernel
theorem dX5_addPupil_2 : decode cX5_addPupil 2 = .ok (.getfield 7, 3) := by decide +kernel
theorem dX5_addPupil_5 : decode cX5_addPupil 5 = .ok (.iconst 2, 1) := by decide +kernel
theorem dX5_addPupil_6 : decode cX5_addPupil 6 = .ok (.iaload, 1) := by decide +kernel
theorem dX5_addPupil_7 : decode cX5_addPupil 7 = .ok (.bipush 12, 2) := by decide +kernel
theorem dX5_addPupil_9 : decode cX5_addPupil 9 = .ok (.if_icmp .ne 7, 3) := by decide +kernel
theorem dX5_addPupil_12 : decode cX5_addPupil 12 = .ok (.iconst 1, 1) := by decide +kernel
theorem dX5_addPupil_13 : decode cX5_addPupil 13 = .ok (.goto 4, 3) := by decide +kernel
theorem dX5_addPupil_16 : decode cX5_addPupil 16 = .ok (.iconst 0, 1) := by decide +kernel
theorem dX5_addPupil_17 : decode cX5_addPupil 17 = .ok (.invokevirtual 86, 3) := by decide +kernel
theorem dX5_addPupil_20 : decode cX5_addPupil 20 = .ok (.ifCond .ne 5, 3) := by decide +kernel
theorem dX5_addPupil_23 : decode cX5_addPupil 23 = .ok (.iconst 0, 1) := by decide +kernel
theorem dX5_addPupil_24 : decode cX5_addPupil 24 = .ok (.ireturn, 1) := by decide +kernel
theorem dX5_addPupil_25 : decode cX5_addPupil 25 = .ok (.aload_n 0, 1) := by decide +kernel
theorem dX5_addPupil_26 : decode cX5_addPupil 26 = .ok (.invokevirtual 90, 3) := by decide +kernel
theorem dX5_addPupil_29 : decode cX5_addPupil 29 = .ok (.aload_n 0, 1) := by decide +kernel
theorem dX5_addPupil_30 : decode cX5_addPupil 30 = .ok (.getfield 7, 3) := by decide +kernel
theorem dX5_addPupil_33 : decode cX5_addPupil 33 = .ok (.iconst 2, 1) := by decide +kernel
theorem dX5_addPupil_34 : decode cX5_addPupil 34 = .ok (.iaload, 1) := by decide +kernel
theorem dX5_addPupil_35 : decode cX5_addPupil 35 = .ok (.istore_n 1, 1) := by decide +kernel
theorem dX5_addPupil_36 : decode cX5_addPupil 36 = .ok (.iconst 0, 1) := by decide +kernel
theorem dX5_addPupil_37 : decode cX5_addPupil 37 = .ok (.istore_n 2, 1) := by decide +kernel
theorem dX5_addPupil_38 : decode cX5_addPupil 38 = .ok (.iload_n 2, 1) := by decide +kernel
theorem dX5_addPupil_39 : decode cX5_addPupil 39 = .ok (.bipush 12, 2) := by decide +kernel
theorem dX5_addPupil_41 : decode cX5_addPupil 41 = .ok (.if_icmp .ge 20, 3) := by decide +kernel
theorem dX5_addPupil_44 : decode cX5_addPupil 44 = .ok (.aload_n 0, 1) := by decide +kernel
theorem dX5_addPupil_45 : decode cX5_addPupil 45 = .ok (.getfield 7, 3) := by decide +kernel
theorem dX5_addPupil_48 : decode cX5_addPupil 48 = .ok (.iload_n 1, 1) := by decide +kernel
theorem dX5_addPupil_49 : decode cX5_addPupil 49 = .ok (.iload_n 2, 1) := by decide +kernel
theorem dX5_addPupil_50 : decode cX5_addPupil 50 = .ok (.invokestatic 69, 3) := by decide +kernel
theorem dX5_addPupil_53 : decode cX5_addPupil 53 = .ok (.iconst 0, 1) := by decide +kernel
theorem dX5_addPupil_54 : decode cX5_addPupil 54 = .ok (.iastore, 1) := by decide +kernel
theorem dX5_addPupil_55 : decode cX5_addPupil 55 = .ok (.iinc 2 1, 3) := by decide +kernel
theorem dX5_addPupil_58 : decode cX5_addPupil 58 = .ok (.goto (-20), 3) := by decide +kernel
theorem dX5_addPupil_61 : decode cX5_addPupil 61 = .ok (.aload_n 0, 1) := by decide +kernel
theorem dX5_addPupil_62 : decode cX5_addPupil 62 = .ok (.getfield 7, 3) := by decide +kernel
theorem dX5_addPupil_65 : decode cX5_addPupil 65 = .ok (.iload_n 1, 1) := by decide +kernel
theorem dX5_addPupil_66 : decode cX5_addPupil 66 = .ok (.iconst 2, 1) := by decide +kernel
theorem dX5_addPupil_67 : decode cX5_addPupil 67 = .ok (.invokestatic 69, 3) := by decide +kernel
theorem dX5_addPupil_70 : decode cX5_addPupil 70 = .ok (.aload_n 0, 1) := by decide +kernel
theorem dX5_addPupil_71 : decode cX5_addPupil 71 = .ok (.getfield 7, 3) := by decide +kernel
theorem dX5_addPupil_74 : decode cX5_addPupil 74 = .ok (.iconst 0, 1) := by decide +kernel
theorem dX5_addPupil_75 : decode cX5_addPupil 75 = .ok (.iaload, 1) := by decide +kernel
theorem dX5_addPupil_76 : decode cX5_addPupil 76 = .ok (.iastore, 1) := by decide +kernel
theorem dX5_addPupil_77 : decode cX5_addPupil 77 = .ok (.aload_n 0, 1) := by decide +kernel
theorem dX5_addPupil_78 : decode cX5_addPupil 78 = .ok (.getfield 7, 3) := by decide +kernel
theorem dX5_addPupil_81 : decode cX5_addPupil 81 = .ok (.iload_n 1, 1) := by decide +kernel
theorem dX5_addPupil_82 : decode cX5_addPupil 82 = .ok (.iconst 3, 1) := by decide +kernel
theorem dX5_addPupil_83 : decode cX5_addPupil 83 = .ok (.invokestatic 69, 3) := by decide +kernel
theorem dX5_addPupil_86 : decode cX5_addPupil 86 = .ok (.iconst (-1), 1) := by decide +kernel
theorem dX5_addPupil_87 : decode cX5_addPupil 87 = .ok (.iastore, 1) := by decide +kernel
theorem dX5_addPupil_88 : decode cX5_addPupil 88 = .ok (.aload_n 0, 1) := by decide +kernel
theorem dX5_addPupil_89 : decode cX5_addPupil 89 = .ok (.getfield 7, 3) := by decide +kernel
theorem dX5_addPupil_92 : decode cX5_addPupil 92 = .ok (.iload_n 1, 1) := by decide +kernel
theorem dX5_addPupil_93 : decode cX5_addPupil 93 = .ok (.iconst 4, 1) := by decide +kernel
theorem dX5_addPupil_94 : decode cX5_addPupil 94 = .ok (.invokestatic 69, 3) := by decide +kernel
theorem dX5_addPupil_97 : decode cX5_addPupil 97 = .ok (.iconst (-1), 1) := by decide +kernel
theorem dX5_addPupil_98 : decode cX5_addPupil 98 = .ok (.iastore, 1) := by decide +kernel
theorem dX5_addPupil_99 : decode cX5_addPupil 99 = .ok (.aload_n 0, 1) := by decide +kernel
theorem dX5_addPupil_100 : decode cX5_addPupil 100 = .ok (.getfield 7, 3) := by decide +kernel
theorem dX5_addPupil_103 : decode cX5_addPupil 103 = .ok (.iconst 2, 1) := by decide +kernel
theorem dX5_addPupil_104 : decode cX5_addPupil 104 = .ok (.dup2, 1) := by decide +kernel
theorem dX5_addPupil_105 : decode cX5_addPupil 105 = .ok (.iaload, 1) := by decide +kernel
theorem dX5_addPupil_106 : decode cX5_addPupil 106 = .ok (.iconst 1, 1) := by decide +kernel
theorem dX5_addPupil_107 : decode cX5_addPupil 107 = .ok (.iadd, 1) := by decide +kernel
theorem dX5_addPupil_108 : decode cX5_addPupil 108 = .ok (.iastore, 1) := by decide +kernel
theorem dX5_addPupil_109 : decode cX5_addPupil 109 = .ok (.iload_n 1, 1) := by decide +kernel
theorem dX5_addPupil_110 : decode cX5_addPupil 110 = .ok (.ireturn, 1) := by decide +kernel
theorem dX5_askFault_0 : decode cX5_askFault 0 = .ok (.aload_n 0, 1) := by decide +kernel
theorem dX5_askFault_1 : decode cX5_askFault 1 = .ok (.iload_n 1, 1) := by decide +kernel
theorem dX5_askFault_2 : decode cX5_askFault 2 = .ok (.invokevirtual 99, 3) := by decide +kernel
theorem dX5_askFault_5 : decode cX5_askFault 5 = .ok (.ifCond .ne 7, 3) := by decide +kernel
theorem dX5_askFault_8 : decode cX5_askFault 8 = .ok (.iconst 1, 1) := by decide +kernel
theorem dX5_askFault_9 : decode cX5_askFault 9 = .ok (.goto 21, 3) := by decide +kernel
theorem dX5_askFault_12 : decode cX5_askFault 12 = .ok (.aload_n 0, 1) := by decide +kernel
theorem dX5_askFault_13 : decode cX5_askFault 13 = .ok (.getfield 7, 3) := by decide +kernel
theorem dX5_askFault_16 : decode cX5_askFault 16 = .ok (.iload_n 1, 1) := by decide +kernel
theorem dX5_askFault_17 : decode cX5_askFault 17 = .ok (.iconst 0, 1) := by decide +kernel
theorem dX5_askFault_18 : decode cX5_askFault 18 = .ok (.invokestatic 69, 3) := by decide +kernel
theorem dX5_askFault_21 : decode cX5_askFault 21 = .ok (.iaload, 1) := by decide +kernel
theorem dX5_askFault_22 : decode cX5_askFault 22 = .ok (.ifCond .eq 7, 3) := by decide +kernel
theorem dX5_askFault_25 : decode cX5_askFault 25 = .ok (.iconst 2, 1) := by decide +kernel
theorem dX5_askFault_26 : decode cX5_askFault 26 = .ok (.goto 4, 3) := by decide +kernel
theorem dX5_askFault_29 : decode cX5_askFault 29 = .ok (.iconst 0, 1) := by decide +kernel
theorem dX5_askFault_30 : decode cX5_askFault 30 = .ok (.ireturn, 1) := by decide +kernel
theorem dX5_asks_0 : decode cX5_asks 0 = .ok (.aload_n 0, 1) := by decide +kernel
theorem dX5_asks_1 : decode cX5_asks 1 = .ok (.getfield 7, 3) := by decide +kernel
theorem dX5_asks_4 : decode cX5_asks 4 = .ok (.iload_n 1, 1) := by decide +kernel
theorem dX5_asks_5 : decode cX5_asks 5 = .ok (.bipush 7, 2) := by decide +kernel
theorem dX5_asks_7 : decode cX5_asks 7 = .ok (.invokestatic 69, 3) := by decide +kernel
theorem dX5_asks_10 : decode cX5_asks 10 = .ok (.dup2, 1) := by decide +kernel
theorem dX5_asks_11 : decode cX5_asks 11 = .ok (.iaload, 1) := by decide +kernel
theorem dX5_asks_12 : decode cX5_asks 12 = .ok (.aload_n 0, 1) := by decide +kernel
theorem dX5_asks_13 : decode cX5_asks 13 = .ok (.getfield 7, 3) := by decide +kernel
theorem dX5_asks_16 : decode cX5_asks 16 = .ok (.bipush 8, 2) := by decide +kernel
theorem dX5_asks_18 : decode cX5_asks 18 = .ok (.iaload, 1) := by decide +kernel
theorem dX5_asks_19 : decode cX5_asks 19 = .ok (.iadd, 1) := by decide +kernel
theorem dX5_asks_20 : decode cX5_asks 20 = .ok (.iastore, 1) := by decide +kernel
theorem dX5_asks_21 : decode cX5_asks 21 = .ok (.aload_n 0, 1) := by decide +kernel
theorem dX5_asks_22 : decode cX5_asks 22 = .ok (.getfield 7, 3) := by decide +kernel
theorem dX5_asks_25 : decode cX5_asks 25 = .ok (.iload_n 1, 1) := by decide +kernel
theorem dX5_asks_26 : decode cX5_asks 26 = .ok (.bipush 8, 2) := by decide +kernel
theorem dX5_asks_28 : decode cX5_asks 28 = .ok (.invokestatic 69, 3) := by decide +kernel
theorem dX5_asks_31 : decode cX5_asks 31 = .ok (.aload_n 0, 1) := by decide +kernel
theorem dX5_asks_32 : decode cX5_asks 32 = .ok (.getfield 7, 3) := by decide +kernel
theorem dX5_asks_35 : decode cX5_asks 35 = .ok (.bipush 8, 2) := by decide +kernel
theorem dX5_asks_37 : decode cX5_asks 37 = .ok (.iaload, 1) := by decide +kernel
theorem dX5_asks_38 : decode cX5_asks 38 = .ok (.iastore, 1) := by decide +kernel
theorem dX5_asks_39 : decode cX5_asks 39 = .ok (.aload_n 0, 1) := by decide +kernel
theorem dX5_asks_40 : decode cX5_asks 40 = .ok (.iload_n 1, 1) := by decide +kernel
theorem dX5_asks_41 : decode cX5_asks 41 = .ok (.invokevirtual 102, 3) := by decide +kernel
theorem dX5_asks_44 : decode cX5_asks 44 = .ok (.aload_n 0, 1) := by decide +kernel
theorem dX5_asks_45 : decode cX5_asks 45 = .ok (.invokevirtual 96, 3) := by decide +kernel
theorem dX5_asks_48 : decode cX5_asks 48 = .ok (.aload_n 0, 1) := by decide +kernel
theorem dX5_asks_49 : decode cX5_asks 49 = .ok (.iload_n 1, 1) := by decide +kernel
theorem dX5_asks_50 : decode cX5_asks 50 = .ok (.invokevirtual 106, 3) := by decide +kernel
theorem dX5_asks_53 : decode cX5_asks 53 = .ok (.istore_n 2, 1) := by decide +kernel
theorem dX5_asks_54 : decode cX5_asks 54 = .ok (.iload_n 2, 1) := by decide +kernel
theorem dX5_asks_55 : decode cX5_asks 55 = .ok (.iconst (-1), 1) := by decide +kernel
theorem dX5_asks_56 : decode cX5_asks 56 = .ok (.if_icmp .ne 7, 3) := by decide +kernel
theorem dX5_asks_59 : decode cX5_asks 59 = .ok (.iconst (-1), 1) := by decide +kernel
theorem dX5_asks_60 : decode cX5_asks 60 = .ok (.goto 7, 3) := by decide +kernel
theorem dX5_asks_63 : decode cX5_asks 63 = .ok (.iload_n 2, 1) := by decide +kernel
theorem dX5_asks_64 : decode cX5_asks 64 = .ok (.invokestatic 56, 3) := by decide +kernel
theorem dX5_asks_67 : decode cX5_asks 67 = .ok (.ireturn, 1) := by decide +kernel
theorem dX5_ask_0 : decode cX5_ask 0 = .ok (.aload_n 0, 1) := by decide +kernel
theorem dX5_ask_1 : decode cX5_ask 1 = .ok (.aload_n 0, 1) := by decide +kernel
theorem dX5_ask_2 : decode cX5_ask 2 = .ok (.iload_n 1, 1) := by decide +kernel
theorem dX5_ask_3 : decode cX5_ask 3 = .ok (.invokevirtual 109, 3) := by decide +kernel
theorem dX5_ask_6 : decode cX5_ask 6 = .ok (.invokevirtual 86, 3) := by decide +kernel
theorem dX5_ask_9 : decode cX5_ask 9 = .ok (.ifCond .ne 5, 3) := by decide +kernel
theorem dX5_ask_12 : decode cX5_ask 12 = .ok (.iconst 0, 1) := by decide +kernel
theorem dX5_ask_13 : decode cX5_ask 13 = .ok (.ireturn, 1) := by decide +kernel
theorem dX5_ask_14 : decode cX5_ask 14 = .ok (.aload_n 0, 1) := by decide +kernel
theorem dX5_ask_15 : decode cX5_ask 15 = .ok (.invokevirtual 90, 3) := by decide +kernel
theorem dX5_ask_18 : decode cX5_ask 18 = .ok (.aload_n 0, 1) := by decide +kernel
theorem dX5_ask_19 : decode cX5_ask 19 = .ok (.iload_n 1, 1) := by decide +kernel
theorem dX5_ask_20 : decode cX5_ask 20 = .ok (.invokevirtual 112, 3) := by decide +kernel
theorem dX5_ask_23 : decode cX5_ask 23 = .ok (.ireturn, 1) := by decide +kernel
theorem dX5_quitFault_0 : decode cX5_quitFault 0 = .ok (.aload_n 0, 1) := by decide +kernel
theorem dX5_quitFault_1 : decode cX5_quitFault 1 = .ok (.iload_n 1, 1) := by decide +kernel
theorem dX5_quitFault_2 : decode cX5_quitFault 2 = .ok (.invokevirtual 99, 3) := by decide +kernel
theorem dX5_quitFault_5 : decode cX5_quitFault 5 = .ok (.ifCond .ne 7, 3) := by decide +kernel
theorem dX5_quitFault_8 : decode cX5_quitFault 8 = .ok (.iconst 1, 1) := by decide +kernel
theorem dX5_quitFault_9 : decode cX5_quitFault 9 = .ok (.goto 26, 3) := by decide +kernel
theorem dX5_quitFault_12 : decode cX5_quitFault 12 = .ok (.aload_n 0, 1) := by decide +kernel
theorem dX5_quitFault_13 : decode cX5_quitFault 13 = .ok (.getfield 7, 3) := by decide +kernel
theorem dX5_quitFault_16 : decode cX5_quitFault 16 = .ok (.iload_n 1, 1) := by decide +kernel
theorem dX5_quitFault_17 : decode cX5_quitFault 17 = .ok (.iconst 0, 1) := by decide +kernel
theorem dX5_quitFault_18 : decode cX5_quitFault 18 = .ok (.invokestatic 69, 3) := by decide +kernel
theorem dX5_quitFault_21 : decode cX5_quitFault 21 = .ok (.iaload, 1) := by decide +kernel
theorem dX5_quitFault_22 : decode cX5_quitFault 22 = .ok (.iconst 1, 1) := by decide +kernel
theorem dX5_quitFault_23 : decode cX5_quitFault 23 = .ok (.iconst 2, 1) := by decide +kernel
theorem dX5_quitFault_24 : decode cX5_quitFault 24 = .ok (.invokestatic 45, 3) := by decide +kernel
theorem dX5_quitFault_27 : decode cX5_quitFault 27 = .ok (.ifCond .ne 7, 3) := by decide +kernel
end
section
theorem dX5_quitFault_30 : decode cX5_quitFault 30 = .ok (.iconst 2, 1) := by decide +kernel
theorem dX5_quitFault_31 : decode cX5_quitFault 31 = .ok (.goto 4, 3) := by decide +kernel
theorem dX5_quitFault_34 : decode cX5_quitFault 34 = .ok (.iconst 0, 1) := by decide +kernel
theorem dX5_quitFault_35 : decode cX5_quitFault 35 = .ok (.ireturn, 1) := by decide +kernel
theorem dX5_quits_0 : decode cX5_quits 0 = .ok (.aload_n 0, 1) := by decide +kernel
theorem dX5_quits_1 : decode cX5_quits 1 = .ok (.iload_n 1, 1) := by decide +kernel
theorem dX5_quits_2 : decode cX5_quits 2 = .ok (.invokevirtual 106, 3) := by decide +kernel
theorem dX5_quits_5 : decode cX5_quits 5 = .ok (.istore_n 2, 1) := by decide +kernel
theorem dX5_quits_6 : decode cX5_quits 6 = .ok (.iload_n 2, 1) := by decide +kernel
theorem dX5_quits_7 : decode cX5_quits 7 = .ok (.iconst (-1), 1) := by decide +kernel
theorem dX5_quits_8 : decode cX5_quits 8 = .ok (.if_icmp .eq 21, 3) := by decide +kernel
theorem dX5_quits_11 : decode cX5_quits 11 = .ok (.iload_n 2, 1) := by decide +kernel
theorem dX5_quits_12 : decode cX5_quits 12 = .ok (.invokestatic 56, 3) := by decide +kernel
theorem dX5_quits_15 : decode cX5_quits 15 = .ok (.aload_n 0, 1) := by decide +kernel
theorem dX5_quits_16 : decode cX5_quits 16 = .ok (.getfield 7, 3) := by decide +kernel
theorem dX5_quits_19 : decode cX5_quits 19 = .ok (.bipush 7, 2) := by decide +kernel
theorem dX5_quits_21 : decode cX5_quits 21 = .ok (.iaload, 1) := by decide +kernel
theorem dX5_quits_22 : decode cX5_quits 22 = .ok (.if_icmp .ge 7, 3) := by decide +kernel
theorem dX5_quits_25 : decode cX5_quits 25 = .ok (.iconst 0, 1) := by decide +kernel
theorem dX5_quits_26 : decode cX5_quits 26 = .ok (.goto 14, 3) := by decide +kernel
theorem dX5_quits_29 : decode cX5_quits 29 = .ok (.aload_n 0, 1) := by decide +kernel
theorem dX5_quits_30 : decode cX5_quits 30 = .ok (.getfield 7, 3) := by decide +kernel
theorem dX5_quits_33 : decode cX5_quits 33 = .ok (.iload_n 1, 1) := by decide +kernel
theorem dX5_quits_34 : decode cX5_quits 34 = .ok (.bipush 8, 2) := by decide +kernel
theorem dX5_quits_36 : decode cX5_quits 36 = .ok (.invokestatic 69, 3) := by decide +kernel
theorem dX5_quits_39 : decode cX5_quits 39 = .ok (.iaload, 1) := by decide +kernel
theorem dX5_quits_40 : decode cX5_quits 40 = .ok (.istore_n 3, 1) := by decide +kernel
theorem dX5_quits_41 : decode cX5_quits 41 = .ok (.iload_n 2, 1) := by decide +kernel
theorem dX5_quits_42 : decode cX5_quits 42 = .ok (.iconst (-1), 1) := by decide +kernel
theorem dX5_quits_43 : decode cX5_quits 43 = .ok (.if_icmp .eq 13, 3) := by decide +kernel
theorem dX5_quits_46 : decode cX5_quits 46 = .ok (.aload_n 0, 1) := by decide +kernel
theorem dX5_quits_47 : decode cX5_quits 47 = .ok (.getfield 7, 3) := by decide +kernel
theorem dX5_quits_50 : decode cX5_quits 50 = .ok (.iload_n 2, 1) := by decide +kernel
theorem dX5_quits_51 : decode cX5_quits 51 = .ok (.invokestatic 66, 3) := by decide +kernel
theorem dX5_quits_54 : decode cX5_quits 54 = .ok (.iconst (-1), 1) := by decide +kernel
theorem dX5_quits_55 : decode cX5_quits 55 = .ok (.iastore, 1) := by decide +kernel
theorem dX5_quits_56 : decode cX5_quits 56 = .ok (.aload_n 0, 1) := by decide +kernel
theorem dX5_quits_57 : decode cX5_quits 57 = .ok (.getfield 7, 3) := by decide +kernel
theorem dX5_quits_60 : decode cX5_quits 60 = .ok (.iload_n 1, 1) := by decide +kernel
theorem dX5_quits_61 : decode cX5_quits 61 = .ok (.iconst 0, 1) := by decide +kernel
theorem dX5_quits_62 : decode cX5_quits 62 = .ok (.invokestatic 69, 3) := by decide +kernel
theorem dX5_quits_65 : decode cX5_quits 65 = .ok (.iconst 0, 1) := by decide +kernel
theorem dX5_quits_66 : decode cX5_quits 66 = .ok (.iastore, 1) := by decide +kernel
theorem dX5_quits_67 : decode cX5_quits 67 = .ok (.aload_n 0, 1) := by decide +kernel
theorem dX5_quits_68 : decode cX5_quits 68 = .ok (.getfield 7, 3) := by decide +kernel
theorem dX5_quits_71 : decode cX5_quits 71 = .ok (.iload_n 1, 1) := by decide +kernel
theorem dX5_quits_72 : decode cX5_quits 72 = .ok (.bipush 7, 2) := by decide +kernel
theorem dX5_quits_74 : decode cX5_quits 74 = .ok (.invokestatic 69, 3) := by decide +kernel
theorem dX5_quits_77 : decode cX5_quits 77 = .ok (.dup2, 1) := by decide +kernel
theorem dX5_quits_78 : decode cX5_quits 78 = .ok (.iaload, 1) := by decide +kernel
theorem dX5_quits_79 : decode cX5_quits 79 = .ok (.iload_n 3, 1) := by decide +kernel
theorem dX5_quits_80 : decode cX5_quits 80 = .ok (.isub, 1) := by decide +kernel
theorem dX5_quits_81 : decode cX5_quits 81 = .ok (.iastore, 1) := by decide +kernel
theorem dX5_quits_82 : decode cX5_quits 82 = .ok (.aload_n 0, 1) := by decide +kernel
theorem dX5_quits_83 : decode cX5_quits 83 = .ok (.invokevirtual 96, 3) := by decide +kernel
theorem dX5_quits_86 : decode cX5_quits 86 = .ok (.iload_n 3, 1) := by decide +kernel
theorem dX5_quits_87 : decode cX5_quits 87 = .ok (.ireturn, 1) := by decide +kernel
theorem dX5_quit_0 : decode cX5_quit 0 = .ok (.aload_n 0, 1) := by decide +kernel
theorem dX5_quit_1 : decode cX5_quit 1 = .ok (.aload_n 0, 1) := by decide +kernel
theorem dX5_quit_2 : decode cX5_quit 2 = .ok (.iload_n 1, 1) := by decide +kernel
theorem dX5_quit_3 : decode cX5_quit 3 = .ok (.invokevirtual 115, 3) := by decide +kernel
theorem dX5_quit_6 : decode cX5_quit 6 = .ok (.invokevirtual 86, 3) := by decide +kernel
theorem dX5_quit_9 : decode cX5_quit 9 = .ok (.ifCond .ne 5, 3) := by decide +kernel
theorem dX5_quit_12 : decode cX5_quit 12 = .ok (.iconst 0, 1) := by decide +kernel
theorem dX5_quit_13 : decode cX5_quit 13 = .ok (.ireturn, 1) := by decide +kernel
theorem dX5_quit_14 : decode cX5_quit 14 = .ok (.aload_n 0, 1) := by decide +kernel
theorem dX5_quit_15 : decode cX5_quit 15 = .ok (.invokevirtual 90, 3) := by decide +kernel
theorem dX5_quit_18 : decode cX5_quit 18 = .ok (.aload_n 0, 1) := by decide +kernel
theorem dX5_quit_19 : decode cX5_quit 19 = .ok (.iload_n 1, 1) := by decide +kernel
theorem dX5_quit_20 : decode cX5_quit 20 = .ok (.invokevirtual 118, 3) := by decide +kernel
theorem dX5_quit_23 : decode cX5_quit 23 = .ok (.ireturn, 1) := by decide +kernel
theorem dX5_cancelFault_0 : decode cX5_cancelFault 0 = .ok (.aload_n 0, 1) := by decide +kernel
theorem dX5_cancelFault_1 : decode cX5_cancelFault 1 = .ok (.iload_n 1, 1) := by decide +kernel
theorem dX5_cancelFault_2 : decode cX5_cancelFault 2 = .ok (.invokevirtual 121, 3) := by decide +kernel
theorem dX5_cancelFault_5 : decode cX5_cancelFault 5 = .ok (.ifCond .ne 7, 3) := by decide +kernel
theorem dX5_cancelFault_8 : decode cX5_cancelFault 8 = .ok (.iconst 1, 1) := by decide +kernel
theorem dX5_cancelFault_9 : decode cX5_cancelFault 9 = .ok (.goto 18, 3) := by decide +kernel
theorem dX5_cancelFault_12 : decode cX5_cancelFault 12 = .ok (.iload_n 2, 1) := by decide +kernel
theorem dX5_cancelFault_13 : decode cX5_cancelFault 13 = .ok (.iconst 0, 1) := by decide +kernel
theorem dX5_cancelFault_14 : decode cX5_cancelFault 14 = .ok (.bipush 9, 2) := by decide +kernel
theorem dX5_cancelFault_16 : decode cX5_cancelFault 16 = .ok (.invokestatic 45, 3) := by decide +kernel
theorem dX5_cancelFault_19 : decode cX5_cancelFault 19 = .ok (.ifCond .ne 7, 3) := by decide +kernel
theorem dX5_cancelFault_22 : decode cX5_cancelFault 22 = .ok (.iconst 2, 1) := by decide +kernel
theorem dX5_cancelFault_23 : decode cX5_cancelFault 23 = .ok (.goto 4, 3) := by decide +kernel
theorem dX5_cancelFault_26 : decode cX5_cancelFault 26 = .ok (.iconst 0, 1) := by decide +kernel
theorem dX5_cancelFault_27 : decode cX5_cancelFault 27 = .ok (.ireturn, 1) := by decide +kernel
theorem dX5_cancels_0 : decode cX5_cancels 0 = .ok (.iconst 0, 1) := by decide +kernel
theorem dX5_cancels_1 : decode cX5_cancels 1 = .ok (.istore_n 3, 1) := by decide +kernel
theorem dX5_cancels_2 : decode cX5_cancels 2 = .ok (.iconst 0, 1) := by decide +kernel
theorem dX5_cancels_3 : decode cX5_cancels 3 = .ok (.istore 4, 2) := by decide +kernel
theorem dX5_cancels_5 : decode cX5_cancels 5 = .ok (.iload 4, 2) := by decide +kernel
theorem dX5_cancels_7 : decode cX5_cancels 7 = .ok (.iconst 2, 1) := by decide +kernel
theorem dX5_cancels_8 : decode cX5_cancels 8 = .ok (.if_icmp .ge 66, 3) := by decide +kernel
theorem dX5_cancels_11 : decode cX5_cancels 11 = .ok (.aload_n 0, 1) := by decide +kernel
theorem dX5_cancels_12 : decode cX5_cancels 12 = .ok (.getfield 7, 3) := by decide +kernel
theorem dX5_cancels_15 : decode cX5_cancels 15 = .ok (.iload_n 1, 1) := by decide +kernel
theorem dX5_cancels_16 : decode cX5_cancels 16 = .ok (.iload_n 2, 1) := by decide +kernel
theorem dX5_cancels_17 : decode cX5_cancels 17 = .ok (.iload 4, 2) := by decide +kernel
theorem dX5_cancels_19 : decode cX5_cancels 19 = .ok (.invokestatic 62, 3) := by decide +kernel
theorem dX5_cancels_22 : decode cX5_cancels 22 = .ok (.iaload, 1) := by decide +kernel
theorem dX5_cancels_23 : decode cX5_cancels 23 = .ok (.istore 5, 2) := by decide +kernel
theorem dX5_cancels_25 : decode cX5_cancels 25 = .ok (.aload_n 0, 1) := by decide +kernel
theorem dX5_cancels_26 : decode cX5_cancels 26 = .ok (.getfield 7, 3) := by decide +kernel
theorem dX5_cancels_29 : decode cX5_cancels 29 = .ok (.iload_n 1, 1) := by decide +kernel
theorem dX5_cancels_30 : decode cX5_cancels 30 = .ok (.iload_n 2, 1) := by decide +kernel
theorem dX5_cancels_31 : decode cX5_cancels 31 = .ok (.iload 4, 2) := by decide +kernel
theorem dX5_cancels_33 : decode cX5_cancels 33 = .ok (.invokestatic 62, 3) := by decide +kernel
theorem dX5_cancels_36 : decode cX5_cancels 36 = .ok (.bipush (-2), 2) := by decide +kernel
theorem dX5_cancels_38 : decode cX5_cancels 38 = .ok (.iastore, 1) := by decide +kernel
theorem dX5_cancels_39 : decode cX5_cancels 39 = .ok (.iload 5, 2) := by decide +kernel
theorem dX5_cancels_41 : decode cX5_cancels 41 = .ok (.ifCond .lt 27, 3) := by decide +kernel
theorem dX5_cancels_44 : decode cX5_cancels 44 = .ok (.aload_n 0, 1) := by decide +kernel
theorem dX5_cancels_45 : decode cX5_cancels 45 = .ok (.getfield 7, 3) := by decide +kernel
theorem dX5_cancels_48 : decode cX5_cancels 48 = .ok (.iload 5, 2) := by decide +kernel
theorem dX5_cancels_50 : decode cX5_cancels 50 = .ok (.iconst 5, 1) := by decide +kernel
theorem dX5_cancels_51 : decode cX5_cancels 51 = .ok (.invokestatic 69, 3) := by decide +kernel
theorem dX5_cancels_54 : decode cX5_cancels 54 = .ok (.dup2, 1) := by decide +kernel
theorem dX5_cancels_55 : decode cX5_cancels 55 = .ok (.iaload, 1) := by decide +kernel
theorem dX5_cancels_56 : decode cX5_cancels 56 = .ok (.iconst 1, 1) := by decide +kernel
theorem dX5_cancels_57 : decode cX5_cancels 57 = .ok (.iadd, 1) := by decide +kernel
theorem dX5_cancels_58 : decode cX5_cancels 58 = .ok (.iastore, 1) := by decide +kernel
theorem dX5_cancels_59 : decode cX5_cancels 59 = .ok (.aload_n 0, 1) := by decide +kernel
theorem dX5_cancels_60 : decode cX5_cancels 60 = .ok (.iload 5, 2) := by decide +kernel
theorem dX5_cancels_62 : decode cX5_cancels 62 = .ok (.invokevirtual 102, 3) := by decide +kernel
theorem dX5_cancels_65 : decode cX5_cancels 65 = .ok (.iinc 3 1, 3) := by decide +kernel
theorem dX5_cancels_68 : decode cX5_cancels 68 = .ok (.iinc 4 1, 3) := by decide +kernel
theorem dX5_cancels_71 : decode cX5_cancels 71 = .ok (.goto (-66), 3) := by decide +kernel
theorem dX5_cancels_74 : decode cX5_cancels 74 = .ok (.aload_n 0, 1) := by decide +kernel
theorem dX5_cancels_75 : decode cX5_cancels 75 = .ok (.getfield 7, 3) := by decide +kernel
theorem dX5_cancels_78 : decode cX5_cancels 78 = .ok (.iload_n 1, 1) := by decide +kernel
theorem dX5_cancels_79 : decode cX5_cancels 79 = .ok (.iconst 2, 1) := by decide +kernel
theorem dX5_cancels_80 : decode cX5_cancels 80 = .ok (.invokestatic 93, 3) := by decide +kernel
theorem dX5_cancels_83 : decode cX5_cancels 83 = .ok (.dup2, 1) := by decide +kernel
theorem dX5_cancels_84 : decode cX5_cancels 84 = .ok (.iaload, 1) := by decide +kernel
theorem dX5_cancels_85 : decode cX5_cancels 85 = .ok (.iconst 1, 1) := by decide +kernel
theorem dX5_cancels_86 : decode cX5_cancels 86 = .ok (.iadd, 1) := by decide +kernel
theorem dX5_cancels_87 : decode cX5_cancels 87 = .ok (.iastore, 1) := by decide +kernel
theorem dX5_cancels_88 : decode cX5_cancels 88 = .ok (.aload_n 0, 1) := by decide +kernel
theorem dX5_cancels_89 : decode cX5_cancels 89 = .ok (.invokevirtual 96, 3) := by decide +kernel
theorem dX5_cancels_92 : decode cX5_cancels 92 = .ok (.iload_n 3, 1) := by decide +kernel
theorem dX5_cancels_93 : decode cX5_cancels 93 = .ok (.ireturn, 1) := by decide +kernel
theorem dX5_cancel_0 : decode cX5_cancel 0 = .ok (.aload_n 0, 1) := by decide +kernel
theorem dX5_cancel_1 : decode cX5_cancel 1 = .ok (.aload_n 0, 1) := by decide +kernel
theorem dX5_cancel_2 : decode cX5_cancel 2 = .ok (.iload_n 1, 1) := by decide +kernel
theorem dX5_cancel_3 : decode cX5_cancel 3 = .ok (.iload_n 2, 1) := by decide +kernel
theorem dX5_cancel_4 : decode cX5_cancel 4 = .ok (.invokevirtual 124, 3) := by decide +kernel
theorem dX5_cancel_7 : decode cX5_cancel 7 = .ok (.invokevirtual 86, 3) := by decide +kernel
theorem dX5_cancel_10 : decode cX5_cancel 10 = .ok (.ifCond .ne 5, 3) := by decide +kernel
theorem dX5_cancel_13 : decode cX5_cancel 13 = .ok (.iconst 0, 1) := by decide +kernel
theorem dX5_cancel_14 : decode cX5_cancel 14 = .ok (.ireturn, 1) := by decide +kernel
theorem dX5_cancel_15 : decode cX5_cancel 15 = .ok (.aload_n 0, 1) := by decide +kernel
theorem dX5_cancel_16 : decode cX5_cancel 16 = .ok (.invokevirtual 90, 3) := by decide +kernel
theorem dX5_cancel_19 : decode cX5_cancel 19 = .ok (.aload_n 0, 1) := by decide +kernel
theorem dX5_cancel_20 : decode cX5_cancel 20 = .ok (.iload_n 1, 1) := by decide +kernel
theorem dX5_cancel_21 : decode cX5_cancel 21 = .ok (.iload_n 2, 1) := by decide +kernel
theorem dX5_cancel_22 : decode cX5_cancel 22 = .ok (.invokevirtual 127, 3) := by decide +kernel
theorem dX5_cancel_25 : decode cX5_cancel 25 = .ok (.ireturn, 1) := by decide +kernel
theorem dX5_routeFor_0 : decode cX5_routeFor 0 = .ok (.iconst (-1), 1) := by decide +kernel
theorem dX5_routeFor_1 : decode cX5_routeFor 1 = .ok (.istore_n 3, 1) := by decide +kernel
theorem dX5_routeFor_2 : decode cX5_routeFor 2 = .ok (.iconst 0, 1) := by decide +kernel
theorem dX5_routeFor_3 : decode cX5_routeFor 3 = .ok (.istore 4, 2) := by decide +kernel
theorem dX5_routeFor_5 : decode cX5_routeFor 5 = .ok (.iload 4, 2) := by decide +kernel
theorem dX5_routeFor_7 : decode cX5_routeFor 7 = .ok (.iconst 4, 1) := by decide +kernel
theorem dX5_routeFor_8 : decode cX5_routeFor 8 = .ok (.if_icmp .ge 80, 3) := by decide +kernel
theorem dX5_routeFor_11 : decode cX5_routeFor 11 = .ok (.aload_n 0, 1) := by decide +kernel
theorem dX5_routeFor_12 : decode cX5_routeFor 12 = .ok (.getfield 7, 3) := by decide +kernel
theorem dX5_routeFor_15 : decode cX5_routeFor 15 = .ok (.iload_n 2, 1) := by decide +kernel
theorem dX5_routeFor_16 : decode cX5_routeFor 16 = .ok (.iconst 3, 1) := by decide +kernel
theorem dX5_routeFor_17 : decode cX5_routeFor 17 = .ok (.iload 4, 2) := by decide +kernel
theorem dX5_routeFor_19 : decode cX5_routeFor 19 = .ok (.iadd, 1) := by decide +kernel
theorem dX5_routeFor_20 : decode cX5_routeFor 20 = .ok (.invokestatic 93, 3) := by decide +kernel
theorem dX5_routeFor_23 : decode cX5_routeFor 23 = .ok (.iaload, 1) := by decide +kernel
theorem dX5_routeFor_24 : decode cX5_routeFor 24 = .ok (.istore 5, 2) := by decide +kernel
theorem dX5_routeFor_26 : decode cX5_routeFor 26 = .ok (.iload_n 3, 1) := by decide +kernel
theorem dX5_routeFor_27 : decode cX5_routeFor 27 = .ok (.iconst (-1), 1) := by decide +kernel
theorem dX5_routeFor_28 : decode cX5_routeFor 28 = .ok (.if_icmp .eq 20, 3) := by decide +kernel
theorem dX5_routeFor_31 : decode cX5_routeFor 31 = .ok (.iload 5, 2) := by decide +kernel
theorem dX5_routeFor_33 : decode cX5_routeFor 33 = .ok (.aload_n 0, 1) := by decide +kernel
theorem dX5_routeFor_34 : decode cX5_routeFor 34 = .ok (.getfield 7, 3) := by decide +kernel
theorem dX5_routeFor_37 : decode cX5_routeFor 37 = .ok (.iload_n 2, 1) := by decide +kernel
theorem dX5_routeFor_38 : decode cX5_routeFor 38 = .ok (.iconst 3, 1) := by decide +kernel
theorem dX5_routeFor_39 : decode cX5_routeFor 39 = .ok (.iload_n 3, 1) := by decide +kernel
theorem dX5_routeFor_40 : decode cX5_routeFor 40 = .ok (.iadd, 1) := by decide +kernel
theorem dX5_routeFor_41 : decode cX5_routeFor 41 = .ok (.invokestatic 93, 3) := by decide +kernel
theorem dX5_routeFor_44 : decode cX5_routeFor 44 = .ok (.iaload, 1) := by decide +kernel
theorem dX5_routeFor_45 : decode cX5_routeFor 45 = .ok (.if_icmp .ge 7, 3) := by decide +kernel
theorem dX5_routeFor_48 : decode cX5_routeFor 48 = .ok (.iconst 1, 1) := by decide +kernel
theorem dX5_routeFor_49 : decode cX5_routeFor 49 = .ok (.goto 4, 3) := by decide +kernel
theorem dX5_routeFor_52 : decode cX5_routeFor 52 = .ok (.iconst 0, 1) := by decide +kernel
theorem dX5_routeFor_53 : decode cX5_routeFor 53 = .ok (.istore 6, 2) := by decide +kernel
theorem dX5_routeFor_55 : decode cX5_routeFor 55 = .ok (.iload 4, 2) := by decide +kernel
theorem dX5_routeFor_57 : decode cX5_routeFor 57 = .ok (.aload_n 0, 1) := by decide +kernel
theorem dX5_routeFor_58 : decode cX5_routeFor 58 = .ok (.getfield 7, 3) := by decide +kernel
theorem dX5_routeFor_61 : decode cX5_routeFor 61 = .ok (.iload_n 1, 1) := by decide +kernel
theorem dX5_routeFor_62 : decode cX5_routeFor 62 = .ok (.iconst 3, 1) := by decide +kernel
theorem dX5_routeFor_63 : decode cX5_routeFor 63 = .ok (.invokestatic 69, 3) := by decide +kernel
theorem dX5_routeFor_66 : decode cX5_routeFor 66 = .ok (.iaload, 1) := by decide +kernel
theorem dX5_routeFor_67 : decode cX5_routeFor 67 = .ok (.if_icmp .eq 13, 3) := by decide +kernel
theorem dX5_routeFor_70 : decode cX5_routeFor 70 = .ok (.iload 6, 2) := by decide +kernel
theorem dX5_routeFor_72 : decode cX5_routeFor 72 = .ok (.ifCond .eq 8, 3) := by decide +kernel
theorem dX5_routeFor_75 : decode cX5_routeFor 75 = .ok (.iload 4, 2) := by decide +kernel
theorem dX5_routeFor_77 : decode cX5_routeFor 77 = .ok (.goto 4, 3) := by decide +kernel
theorem dX5_routeFor_80 : decode cX5_routeFor 80 = .ok (.iload_n 3, 1) := by decide +kernel
theorem dX5_routeFor_81 : decode cX5_routeFor 81 = .ok (.istore_n 3, 1) := by decide +kernel
theorem dX5_routeFor_82 : decode cX5_routeFor 82 = .ok (.iinc 4 1, 3) := by decide +kernel
theorem dX5_routeFor_85 : decode cX5_routeFor 85 = .ok (.goto (-80), 3) := by decide +kernel
theorem dX5_routeFor_88 : decode cX5_routeFor 88 = .ok (.iload_n 3, 1) := by decide +kernel
theorem dX5_routeFor_89 : decode cX5_routeFor 89 = .ok (.ireturn, 1) := by decide +kernel
theorem dX5_testFault_0 : decode cX5_testFault 0 = .ok (.aload_n 0, 1) := by decide +kernel
theorem dX5_testFault_1 : decode cX5_testFault 1 = .ok (.iload_n 1, 1) := by decide +kernel
theorem dX5_testFault_2 : decode cX5_testFault 2 = .ok (.invokevirtual 99, 3) := by decide +kernel
theorem dX5_testFault_5 : decode cX5_testFault 5 = .ok (.ifCond .ne 5, 3) := by decide +kernel
theorem dX5_testFault_8 : decode cX5_testFault 8 = .ok (.iconst 1, 1) := by decide +kernel
theorem dX5_testFault_9 : decode cX5_testFault 9 = .ok (.ireturn, 1) := by decide +kernel
theorem dX5_testFault_10 : decode cX5_testFault 10 = .ok (.aload_n 0, 1) := by decide +kernel
theorem dX5_testFault_11 : decode cX5_testFault 11 = .ok (.iload_n 1, 1) := by decide +kernel
theorem dX5_testFault_12 : decode cX5_testFault 12 = .ok (.invokevirtual 106, 3) := by decide +kernel
theorem dX5_testFault_15 : decode cX5_testFault 15 = .ok (.istore_n 2, 1) := by decide +kernel
theorem dX5_testFault_16 : decode cX5_testFault 16 = .ok (.iload_n 2, 1) := by decide +kernel
theorem dX5_testFault_17 : decode cX5_testFault 17 = .ok (.iconst (-1), 1) := by decide +kernel
theorem dX5_testFault_18 : decode cX5_testFault 18 = .ok (.if_icmp .eq 10, 3) := by decide +kernel
theorem dX5_testFault_21 : decode cX5_testFault 21 = .ok (.iload_n 2, 1) := by decide +kernel
theorem dX5_testFault_22 : decode cX5_testFault 22 = .ok (.invokestatic 56, 3) := by decide +kernel
theorem dX5_testFault_25 : decode cX5_testFault 25 = .ok (.ifCond .le 7, 3) := by decide +kernel
theorem dX5_testFault_28 : decode cX5_testFault 28 = .ok (.iconst 2, 1) := by decide +kernel
theorem dX5_testFault_29 : decode cX5_testFault 29 = .ok (.goto 4, 3) := by decide +kernel
theorem dX5_testFault_32 : decode cX5_testFault 32 = .ok (.iconst 0, 1) := by decide +kernel
theorem dX5_testFault_33 : decode cX5_testFault 33 = .ok (.ireturn, 1) := by decide +kernel
theorem dX5_tests_0 : decode cX5_tests 0 = .ok (.aload_n 0, 1) := by decide +kernel
theorem dX5_tests_1 : decode cX5_tests 1 = .ok (.iload_n 1, 1) := by decide +kernel
theorem dX5_tests_2 : decode cX5_tests 2 = .ok (.invokevirtual 106, 3) := by decide +kernel
theorem dX5_tests_5 : decode cX5_tests 5 = .ok (.istore_n 3, 1) := by decide +kernel
theorem dX5_tests_6 : decode cX5_tests 6 = .ok (.iload_n 3, 1) := by decide +kernel
theorem dX5_tests_7 : decode cX5_tests 7 = .ok (.invokestatic 52, 3) := by decide +kernel
theorem dX5_tests_10 : decode cX5_tests 10 = .ok (.istore 4, 2) := by decide +kernel
theorem dX5_tests_12 : decode cX5_tests 12 = .ok (.aload_n 0, 1) := by decide +kernel
theorem dX5_tests_13 : decode cX5_tests 13 = .ok (.iload_n 1, 1) := by decide +kernel
theorem dX5_tests_14 : decode cX5_tests 14 = .ok (.iload 4, 2) := by decide +kernel
theorem dX5_tests_16 : decode cX5_tests 16 = .ok (.invokevirtual 130, 3) := by decide +kernel
theorem dX5_tests_19 : decode cX5_tests 19 = .ok (.istore 5, 2) := by decide +kernel
theorem dX5_tests_21 : decode cX5_tests 21 = .ok (.aload_n 0, 1) := by decide +kernel
theorem dX5_tests_22 : decode cX5_tests 22 = .ok (.getfield 7, 3) := by decide +kernel
theorem dX5_tests_25 : decode cX5_tests 25 = .ok (.iload_n 3, 1) := by decide +kernel
theorem dX5_tests_26 : decode cX5_tests 26 = .ok (.invokestatic 66, 3) := by decide +kernel
theorem dX5_tests_29 : decode cX5_tests 29 = .ok (.bipush (-2), 2) := by decide +kernel
theorem dX5_tests_31 : decode cX5_tests 31 = .ok (.iastore, 1) := by decide +kernel
theorem dX5_tests_32 : decode cX5_tests 32 = .ok (.aload_n 0, 1) := by decide +kernel
theorem dX5_tests_33 : decode cX5_tests 33 = .ok (.getfield 7, 3) := by decide +kernel
theorem dX5_tests_36 : decode cX5_tests 36 = .ok (.iload 4, 2) := by decide +kernel
theorem dX5_tests_38 : decode cX5_tests 38 = .ok (.iconst 0, 1) := by decide +kernel
theorem dX5_tests_39 : decode cX5_tests 39 = .ok (.invokestatic 93, 3) := by decide +kernel
theorem dX5_tests_42 : decode cX5_tests 42 = .ok (.dup2, 1) := by decide +kernel
theorem dX5_tests_43 : decode cX5_tests 43 = .ok (.iaload, 1) := by decide +kernel
theorem dX5_tests_44 : decode cX5_tests 44 = .ok (.iconst 1, 1) := by decide +kernel
theorem dX5_tests_45 : decode cX5_tests 45 = .ok (.iadd, 1) := by decide +kernel
theorem dX5_tests_46 : decode cX5_tests 46 = .ok (.iastore, 1) := by decide +kernel
theorem dX5_tests_47 : decode cX5_tests 47 = .ok (.aload_n 0, 1) := by decide +kernel
theorem dX5_tests_48 : decode cX5_tests 48 = .ok (.getfield 7, 3) := by decide +kernel
theorem dX5_tests_51 : decode cX5_tests 51 = .ok (.iload 4, 2) := by decide +kernel
theorem dX5_tests_53 : decode cX5_tests 53 = .ok (.iconst 3, 1) := by decide +kernel
theorem dX5_tests_54 : decode cX5_tests 54 = .ok (.iload 5, 2) := by decide +kernel
theorem dX5_tests_56 : decode cX5_tests 56 = .ok (.iadd, 1) := by decide +kernel
theorem dX5_tests_57 : decode cX5_tests 57 = .ok (.invokestatic 93, 3) := by decide +kernel
theorem dX5_tests_60 : decode cX5_tests 60 = .ok (.dup2, 1) := by decide +kernel
theorem dX5_tests_61 : decode cX5_tests 61 = .ok (.iaload, 1) := by decide +kernel
theorem dX5_tests_62 : decode cX5_tests 62 = .ok (.iconst 1, 1) := by decide +kernel
theorem dX5_tests_63 : decode cX5_tests 63 = .ok (.iadd, 1) := by decide +kernel
theorem dX5_tests_64 : decode cX5_tests 64 = .ok (.iastore, 1) := by decide +kernel
theorem dX5_tests_65 : decode cX5_tests 65 = .ok (.aload_n 0, 1) := by decide +kernel
theorem dX5_tests_66 : decode cX5_tests 66 = .ok (.getfield 7, 3) := by decide +kernel
theorem dX5_tests_69 : decode cX5_tests 69 = .ok (.iload_n 1, 1) := by decide +kernel
theorem dX5_tests_70 : decode cX5_tests 70 = .ok (.iconst 3, 1) := by decide +kernel
theorem dX5_tests_71 : decode cX5_tests 71 = .ok (.invokestatic 69, 3) := by decide +kernel
theorem dX5_tests_74 : decode cX5_tests 74 = .ok (.iload 5, 2) := by decide +kernel
theorem dX5_tests_76 : decode cX5_tests 76 = .ok (.iastore, 1) := by decide +kernel
theorem dX5_tests_77 : decode cX5_tests 77 = .ok (.aload_n 0, 1) := by decide +kernel
theorem dX5_tests_78 : decode cX5_tests 78 = .ok (.getfield 7, 3) := by decide +kernel
theorem dX5_tests_81 : decode cX5_tests 81 = .ok (.iload_n 1, 1) := by decide +kernel
theorem dX5_tests_82 : decode cX5_tests 82 = .ok (.iconst 4, 1) := by decide +kernel
theorem dX5_tests_83 : decode cX5_tests 83 = .ok (.invokestatic 69, 3) := by decide +kernel
theorem dX5_tests_86 : decode cX5_tests 86 = .ok (.iload 4, 2) := by decide +kernel
theorem dX5_tests_88 : decode cX5_tests 88 = .ok (.iastore, 1) := by decide +kernel
theorem dX5_tests_89 : decode cX5_tests 89 = .ok (.iload_n 2, 1) := by decide +kernel
theorem dX5_tests_90 : decode cX5_tests 90 = .ok (.ifCond .eq 32, 3) := by decide +kernel
theorem dX5_tests_93 : decode cX5_tests 93 = .ok (.aload_n 0, 1) := by decide +kernel
theorem dX5_tests_94 : decode cX5_tests 94 = .ok (.getfield 7, 3) := by decide +kernel
theorem dX5_tests_97 : decode cX5_tests 97 = .ok (.iload 4, 2) := by decide +kernel
theorem dX5_tests_99 : decode cX5_tests 99 = .ok (.iconst 1, 1) := by decide +kernel
theorem dX5_tests_100 : decode cX5_tests 100 = .ok (.invokestatic 93, 3) := by decide +kernel
theorem dX5_tests_103 : decode cX5_tests 103 = .ok (.dup2, 1) := by decide +kernel
theorem dX5_tests_104 : decode cX5_tests 104 = .ok (.iaload, 1) := by decide +kernel
theorem dX5_tests_105 : decode cX5_tests 105 = .ok (.iconst 1, 1) := by decide +kernel
theorem dX5_tests_106 : decode cX5_tests 106 = .ok (.iadd, 1) := by decide +kernel
theorem dX5_tests_107 : decode cX5_tests 107 = .ok (.iastore, 1) := by decide +kernel
theorem dX5_tests_108 : decode cX5_tests 108 = .ok (.aload_n 0, 1) := by decide +kernel
theorem dX5_tests_109 : decode cX5_tests 109 = .ok (.getfield 7, 3) := by decide +kernel
theorem dX5_tests_112 : decode cX5_tests 112 = .ok (.iload_n 1, 1) := by decide +kernel
theorem dX5_tests_113 : decode cX5_tests 113 = .ok (.iconst 0, 1) := by decide +kernel
theorem dX5_tests_114 : decode cX5_tests 114 = .ok (.invokestatic 69, 3) := by decide +kernel
theorem dX5_tests_117 : decode cX5_tests 117 = .ok (.iconst 3, 1) := by decide +kernel
theorem dX5_tests_118 : decode cX5_tests 118 = .ok (.iastore, 1) := by decide +kernel
theorem dX5_tests_119 : decode cX5_tests 119 = .ok (.iload 5, 2) := by decide +kernel
theorem dX5_tests_121 : decode cX5_tests 121 = .ok (.ireturn, 1) := by decide +kernel
theorem dX5_tests_122 : decode cX5_tests 122 = .ok (.aload_n 0, 1) := by decide +kernel
theorem dX5_tests_123 : decode cX5_tests 123 = .ok (.getfield 7, 3) := by decide +kernel
theorem dX5_tests_126 : decode cX5_tests 126 = .ok (.iload_n 1, 1) := by decide +kernel
theorem dX5_tests_127 : decode cX5_tests 127 = .ok (.iconst 1, 1) := by decide +kernel
theorem dX5_tests_128 : decode cX5_tests 128 = .ok (.invokestatic 69, 3) := by decide +kernel
theorem dX5_tests_131 : decode cX5_tests 131 = .ok (.dup2, 1) := by decide +kernel
theorem dX5_tests_132 : decode cX5_tests 132 = .ok (.iaload, 1) := by decide +kernel
theorem dX5_tests_133 : decode cX5_tests 133 = .ok (.iconst 1, 1) := by decide +kernel
theorem dX5_tests_134 : decode cX5_tests 134 = .ok (.iadd, 1) := by decide +kernel
theorem dX5_tests_135 : decode cX5_tests 135 = .ok (.iastore, 1) := by decide +kernel
theorem dX5_tests_136 : decode cX5_tests 136 = .ok (.aload_n 0, 1) := by decide +kernel
theorem dX5_tests_137 : decode cX5_tests 137 = .ok (.getfield 7, 3) := by decide +kernel
theorem dX5_tests_140 : decode cX5_tests 140 = .ok (.iload_n 1, 1) := by decide +kernel
theorem dX5_tests_141 : decode cX5_tests 141 = .ok (.iconst 0, 1) := by decide +kernel
theorem dX5_tests_142 : decode cX5_tests 142 = .ok (.invokestatic 69, 3) := by decide +kernel
theorem dX5_tests_145 : decode cX5_tests 145 = .ok (.iconst 0, 1) := by decide +kernel
theorem dX5_tests_146 : decode cX5_tests 146 = .ok (.iastore, 1) := by decide +kernel
theorem dX5_tests_147 : decode cX5_tests 147 = .ok (.aload_n 0, 1) := by decide +kernel
theorem dX5_tests_148 : decode cX5_tests 148 = .ok (.getfield 7, 3) := by decide +kernel
theorem dX5_tests_151 : decode cX5_tests 151 = .ok (.iconst 5, 1) := by decide +kernel
theorem dX5_tests_152 : decode cX5_tests 152 = .ok (.iaload, 1) := by decide +kernel
theorem dX5_tests_153 : decode cX5_tests 153 = .ok (.aload_n 0, 1) := by decide +kernel
theorem dX5_tests_154 : decode cX5_tests 154 = .ok (.getfield 7, 3) := by decide +kernel
theorem dX5_tests_157 : decode cX5_tests 157 = .ok (.iload_n 1, 1) := by decide +kernel
theorem dX5_tests_158 : decode cX5_tests 158 = .ok (.iconst 1, 1) := by decide +kernel
theorem dX5_tests_159 : decode cX5_tests 159 = .ok (.invokestatic 69, 3) := by decide +kernel
theorem dX5_tests_162 : decode cX5_tests 162 = .ok (.iaload, 1) := by decide +kernel
theorem dX5_tests_163 : decode cX5_tests 163 = .ok (.imul, 1) := by decide +kernel
theorem dX5_tests_164 : decode cX5_tests 164 = .ok (.istore 6, 2) := by decide +kernel
theorem dX5_tests_166 : decode cX5_tests 166 = .ok (.aload_n 0, 1) := by decide +kernel
theorem dX5_tests_167 : decode cX5_tests 167 = .ok (.getfield 7, 3) := by decide +kernel
theorem dX5_tests_170 : decode cX5_tests 170 = .ok (.iload_n 1, 1) := by decide +kernel
theorem dX5_tests_171 : decode cX5_tests 171 = .ok (.iconst 2, 1) := by decide +kernel
theorem dX5_tests_172 : decode cX5_tests 172 = .ok (.invokestatic 69, 3) := by decide +kernel
theorem dX5_tests_175 : decode cX5_tests 175 = .ok (.aload_n 0, 1) := by decide +kernel
theorem dX5_tests_176 : decode cX5_tests 176 = .ok (.getfield 7, 3) := by decide +kernel
theorem dX5_tests_179 : decode cX5_tests 179 = .ok (.iconst 0, 1) := by decide +kernel
theorem dX5_tests_180 : decode cX5_tests 180 = .ok (.iaload, 1) := by decide +kernel
theorem dX5_tests_181 : decode cX5_tests 181 = .ok (.iload 6, 2) := by decide +kernel
theorem dX5_tests_183 : decode cX5_tests 183 = .ok (.bipush 60, 2) := by decide +kernel
theorem dX5_tests_185 : decode cX5_tests 185 = .ok (.if_icmp .le 8, 3) := by decide +kernel
theorem dX5_tests_188 : decode cX5_tests 188 = .ok (.bipush 60, 2) := by decide +kernel
theorem dX5_tests_190 : decode cX5_tests 190 = .ok (.goto 5, 3) := by decide +kernel
theorem dX5_tests_193 : decode cX5_tests 193 = .ok (.iload 6, 2) := by decide +kernel
theorem dX5_tests_195 : decode cX5_tests 195 = .ok (.iadd, 1) := by decide +kernel
theorem dX5_tests_196 : decode cX5_tests 196 = .ok (.iastore, 1) := by decide +kernel
theorem dX5_tests_197 : decode cX5_tests 197 = .ok (.iload 5, 2) := by decide +kernel
theorem dX5_tests_199 : decode cX5_tests 199 = .ok (.ireturn, 1) := by decide +kernel
theorem dX5_test_0 : decode cX5_test 0 = .ok (.aload_n 0, 1) := by decide +kernel
theorem dX5_test_1 : decode cX5_test 1 = .ok (.aload_n 0, 1) := by decide +kernel
theorem dX5_test_2 : decode cX5_test 2 = .ok (.iload_n 1, 1) := by decide +kernel
theorem dX5_test_3 : decode cX5_test 3 = .ok (.invokevirtual 133, 3) := by decide +kernel
theorem dX5_test_6 : decode cX5_test 6 = .ok (.invokevirtual 86, 3) := by decide +kernel
theorem dX5_test_9 : decode cX5_test 9 = .ok (.ifCond .ne 5, 3) := by decide +kernel
theorem dX5_test_12 : decode cX5_test 12 = .ok (.iconst 0, 1) := by decide +kernel
theorem dX5_test_13 : decode cX5_test 13 = .ok (.ireturn, 1) := by decide +kernel
theorem dX5_test_14 : decode cX5_test 14 = .ok (.aload_n 0, 1) := by decide +kernel
theorem dX5_test_15 : decode cX5_test 15 = .ok (.invokevirtual 90, 3) := by decide +kernel
theorem dX5_test_18 : decode cX5_test 18 = .ok (.aload_n 0, 1) := by decide +kernel
theorem dX5_test_19 : decode cX5_test 19 = .ok (.iload_n 1, 1) := by decide +kernel
theorem dX5_test_20 : decode cX5_test 20 = .ok (.iload_n 2, 1) := by decide +kernel
theorem dX5_test_21 : decode cX5_test 21 = .ok (.invokevirtual 136, 3) := by decide +kernel
theorem dX5_test_24 : decode cX5_test 24 = .ok (.ireturn, 1) := by decide +kernel
theorem dX5_nextFault_0 : decode cX5_nextFault 0 = .ok (.aload_n 0, 1) := by decide +kernel
theorem dX5_nextFault_1 : decode cX5_nextFault 1 = .ok (.getfield 7, 3) := by decide +kernel
theorem dX5_nextFault_4 : decode cX5_nextFault 4 = .ok (.iconst 0, 1) := by decide +kernel
theorem dX5_nextFault_5 : decode cX5_nextFault 5 = .ok (.iaload, 1) := by decide +kernel
theorem dX5_nextFault_6 : decode cX5_nextFault 6 = .ok (.sipush 9999, 3) := by decide +kernel
theorem dX5_nextFault_9 : decode cX5_nextFault 9 = .ok (.if_icmp .ne 7, 3) := by decide +kernel
theorem dX5_nextFault_12 : decode cX5_nextFault 12 = .ok (.iconst 1, 1) := by decide +kernel
theorem dX5_nextFault_13 : decode cX5_nextFault 13 = .ok (.goto 4, 3) := by decide +kernel
theorem dX5_nextFault_16 : decode cX5_nextFault 16 = .ok (.iconst 0, 1) := by decide +kernel
theorem dX5_nextFault_17 : decode cX5_nextFault 17 = .ok (.ireturn, 1) := by decide +kernel
theorem dX5_goesOn_0 : decode cX5_goesOn 0 = .ok (.iconst 0, 1) := by decide +kernel
theorem dX5_goesOn_1 : decode cX5_goesOn 1 = .ok (.istore_n 1, 1) := by decide +kernel
theorem dX5_goesOn_2 : decode cX5_goesOn 2 = .ok (.iconst 0, 1) := by decide +kernel
theorem dX5_goesOn_3 : decode cX5_goesOn 3 = .ok (.istore_n 2, 1) := by decide +kernel
theorem dX5_goesOn_4 : decode cX5_goesOn 4 = .ok (.iload_n 2, 1) := by decide +kernel
theorem dX5_goesOn_5 : decode cX5_goesOn 5 = .ok (.aload_n 0, 1) := by decide +kernel
theorem dX5_goesOn_6 : decode cX5_goesOn 6 = .ok (.getfield 7, 3) := by decide +kernel
theorem dX5_goesOn_9 : decode cX5_goesOn 9 = .ok (.iconst 1, 1) := by decide +kernel
theorem dX5_goesOn_10 : decode cX5_goesOn 10 = .ok (.iaload, 1) := by decide +kernel
theorem dX5_goesOn_11 : decode cX5_goesOn 11 = .ok (.if_icmp .ge 109, 3) := by decide +kernel
theorem dX5_goesOn_14 : decode cX5_goesOn 14 = .ok (.iconst 0, 1) := by decide +kernel
theorem dX5_goesOn_15 : decode cX5_goesOn 15 = .ok (.istore_n 3, 1) := by decide +kernel
theorem dX5_goesOn_16 : decode cX5_goesOn 16 = .ok (.iload_n 3, 1) := by decide +kernel
theorem dX5_goesOn_17 : decode cX5_goesOn 17 = .ok (.iconst 4, 1) := by decide +kernel
theorem dX5_goesOn_18 : decode cX5_goesOn 18 = .ok (.if_icmp .ge 42, 3) := by decide +kernel
theorem dX5_goesOn_21 : decode cX5_goesOn 21 = .ok (.aload_n 0, 1) := by decide +kernel
theorem dX5_goesOn_22 : decode cX5_goesOn 22 = .ok (.getfield 7, 3) := by decide +kernel
theorem dX5_goesOn_25 : decode cX5_goesOn 25 = .ok (.iload_n 2, 1) := by decide +kernel
theorem dX5_goesOn_26 : decode cX5_goesOn 26 = .ok (.iconst 0, 1) := by decide +kernel
theorem dX5_goesOn_27 : decode cX5_goesOn 27 = .ok (.iload_n 3, 1) := by decide +kernel
theorem dX5_goesOn_28 : decode cX5_goesOn 28 = .ok (.invokestatic 62, 3) := by decide +kernel
theorem dX5_goesOn_31 : decode cX5_goesOn 31 = .ok (.iaload, 1) := by decide +kernel
theorem dX5_goesOn_32 : decode cX5_goesOn 32 = .ok (.istore 4, 2) := by decide +kernel
theorem dX5_goesOn_34 : decode cX5_goesOn 34 = .ok (.iload 4, 2) := by decide +kernel
theorem dX5_goesOn_36 : decode cX5_goesOn 36 = .ok (.ifCond .lt 18, 3) := by decide +kernel
theorem dX5_goesOn_39 : decode cX5_goesOn 39 = .ok (.aload_n 0, 1) := by decide +kernel
theorem dX5_goesOn_40 : decode cX5_goesOn 40 = .ok (.getfield 7, 3) := by decide +kernel
theorem dX5_goesOn_43 : decode cX5_goesOn 43 = .ok (.iload 4, 2) := by decide +kernel
theorem dX5_goesOn_45 : decode cX5_goesOn 45 = .ok (.iconst 0, 1) := by decide +kernel
theorem dX5_goesOn_46 : decode cX5_goesOn 46 = .ok (.invokestatic 69, 3) := by decide +kernel
theorem dX5_goesOn_49 : decode cX5_goesOn 49 = .ok (.iconst 0, 1) := by decide +kernel
theorem dX5_goesOn_50 : decode cX5_goesOn 50 = .ok (.iastore, 1) := by decide +kernel
theorem dX5_goesOn_51 : decode cX5_goesOn 51 = .ok (.iinc 1 1, 3) := by decide +kernel
theorem dX5_goesOn_54 : decode cX5_goesOn 54 = .ok (.iinc 3 1, 3) := by decide +kernel
theorem dX5_goesOn_57 : decode cX5_goesOn 57 = .ok (.goto (-41), 3) := by decide +kernel
theorem dX5_goesOn_60 : decode cX5_goesOn 60 = .ok (.iconst 0, 1) := by decide +kernel
theorem dX5_goesOn_61 : decode cX5_goesOn 61 = .ok (.istore_n 3, 1) := by decide +kernel
theorem dX5_goesOn_62 : decode cX5_goesOn 62 = .ok (.iload_n 3, 1) := by decide +kernel
theorem dX5_goesOn_63 : decode cX5_goesOn 63 = .ok (.bipush 40, 2) := by decide +kernel
theorem dX5_goesOn_65 : decode cX5_goesOn 65 = .ok (.if_icmp .ge 49, 3) := by decide +kernel
theorem dX5_goesOn_68 : decode cX5_goesOn 68 = .ok (.aload_n 0, 1) := by decide +kernel
theorem dX5_goesOn_69 : decode cX5_goesOn 69 = .ok (.getfield 7, 3) := by decide +kernel
theorem dX5_goesOn_72 : decode cX5_goesOn 72 = .ok (.bipush 9, 2) := by decide +kernel
theorem dX5_goesOn_74 : decode cX5_goesOn 74 = .ok (.bipush 40, 2) := by decide +kernel
theorem dX5_goesOn_76 : decode cX5_goesOn 76 = .ok (.iload_n 2, 1) := by decide +kernel
theorem dX5_goesOn_77 : decode cX5_goesOn 77 = .ok (.imul, 1) := by decide +kernel
theorem dX5_goesOn_78 : decode cX5_goesOn 78 = .ok (.iadd, 1) := by decide +kernel
theorem dX5_goesOn_79 : decode cX5_goesOn 79 = .ok (.iload_n 3, 1) := by decide +kernel
theorem dX5_goesOn_80 : decode cX5_goesOn 80 = .ok (.iadd, 1) := by decide +kernel
theorem dX5_goesOn_81 : decode cX5_goesOn 81 = .ok (.iload_n 3, 1) := by decide +kernel
theorem dX5_goesOn_82 : decode cX5_goesOn 82 = .ok (.bipush 36, 2) := by decide +kernel
theorem dX5_goesOn_84 : decode cX5_goesOn 84 = .ok (.if_icmp .ge 22, 3) := by decide +kernel
theorem dX5_goesOn_87 : decode cX5_goesOn 87 = .ok (.aload_n 0, 1) := by decide +kernel
theorem dX5_goesOn_88 : decode cX5_goesOn 88 = .ok (.getfield 7, 3) := by decide +kernel
theorem dX5_goesOn_91 : decode cX5_goesOn 91 = .ok (.bipush 9, 2) := by decide +kernel
theorem dX5_goesOn_93 : decode cX5_goesOn 93 = .ok (.bipush 40, 2) := by decide +kernel
theorem dX5_goesOn_95 : decode cX5_goesOn 95 = .ok (.iload_n 2, 1) := by decide +kernel
theorem dX5_goesOn_96 : decode cX5_goesOn 96 = .ok (.imul, 1) := by decide +kernel
theorem dX5_goesOn_97 : decode cX5_goesOn 97 = .ok (.iadd, 1) := by decide +kernel
theorem dX5_goesOn_98 : decode cX5_goesOn 98 = .ok (.iload_n 3, 1) := by decide +kernel
theorem dX5_goesOn_99 : decode cX5_goesOn 99 = .ok (.iadd, 1) := by decide +kernel
theorem dX5_goesOn_100 : decode cX5_goesOn 100 = .ok (.iconst 4, 1) := by decide +kernel
theorem dX5_goesOn_101 : decode cX5_goesOn 101 = .ok (.iadd, 1) := by decide +kernel
theorem dX5_goesOn_102 : decode cX5_goesOn 102 = .ok (.iaload, 1) := by decide +kernel
theorem dX5_goesOn_103 : decode cX5_goesOn 103 = .ok (.goto 4, 3) := by decide +kernel
theorem dX5_goesOn_106 : decode cX5_goesOn 106 = .ok (.iconst (-1), 1) := by decide +kernel
theorem dX5_goesOn_107 : decode cX5_goesOn 107 = .ok (.iastore, 1) := by decide +kernel
theorem dX5_goesOn_108 : decode cX5_goesOn 108 = .ok (.iinc 3 1, 3) := by decide +kernel
theorem dX5_goesOn_111 : decode cX5_goesOn 111 = .ok (.goto (-49), 3) := by decide +kernel
theorem dX5_goesOn_114 : decode cX5_goesOn 114 = .ok (.iinc 2 1, 3) := by decide +kernel
theorem dX5_goesOn_117 : decode cX5_goesOn 117 = .ok (.goto (-113), 3) := by decide +kernel
theorem dX5_goesOn_120 : decode cX5_goesOn 120 = .ok (.aload_n 0, 1) := by decide +kernel
theorem dX5_goesOn_121 : decode cX5_goesOn 121 = .ok (.getfield 7, 3) := by decide +kernel
theorem dX5_goesOn_124 : decode cX5_goesOn 124 = .ok (.iconst 4, 1) := by decide +kernel
theorem dX5_goesOn_125 : decode cX5_goesOn 125 = .ok (.dup2, 1) := by decide +kernel
theorem dX5_goesOn_126 : decode cX5_goesOn 126 = .ok (.iaload, 1) := by decide +kernel
theorem dX5_goesOn_127 : decode cX5_goesOn 127 = .ok (.iload_n 1, 1) := by decide +kernel
theorem dX5_goesOn_128 : decode cX5_goesOn 128 = .ok (.iadd, 1) := by decide +kernel
theorem dX5_goesOn_129 : decode cX5_goesOn 129 = .ok (.iastore, 1) := by decide +kernel
theorem dX5_goesOn_130 : decode cX5_goesOn 130 = .ok (.aload_n 0, 1) := by decide +kernel
theorem dX5_goesOn_131 : decode cX5_goesOn 131 = .ok (.getfield 7, 3) := by decide +kernel
theorem dX5_goesOn_134 : decode cX5_goesOn 134 = .ok (.iconst 0, 1) := by decide +kernel
theorem dX5_goesOn_135 : decode cX5_goesOn 135 = .ok (.dup2, 1) := by decide +kernel
theorem dX5_goesOn_136 : decode cX5_goesOn 136 = .ok (.iaload, 1) := by decide +kernel
theorem dX5_goesOn_137 : decode cX5_goesOn 137 = .ok (.iconst 1, 1) := by decide +kernel
theorem dX5_goesOn_138 : decode cX5_goesOn 138 = .ok (.iadd, 1) := by decide +kernel
theorem dX5_goesOn_139 : decode cX5_goesOn 139 = .ok (.iastore, 1) := by decide +kernel
theorem dX5_goesOn_140 : decode cX5_goesOn 140 = .ok (.aload_n 0, 1) := by decide +kernel
theorem dX5_goesOn_141 : decode cX5_goesOn 141 = .ok (.invokevirtual 96, 3) := by decide +kernel
theorem dX5_goesOn_144 : decode cX5_goesOn 144 = .ok (.iload_n 1, 1) := by decide +kernel
theorem dX5_goesOn_145 : decode cX5_goesOn 145 = .ok (.ireturn, 1) := by decide +kernel
theorem dX5_next_0 : decode cX5_next 0 = .ok (.aload_n 0, 1) := by decide +kernel
theorem dX5_next_1 : decode cX5_next 1 = .ok (.aload_n 0, 1) := by decide +kernel
theorem dX5_next_2 : decode cX5_next 2 = .ok (.invokevirtual 140, 3) := by decide +kernel
theorem dX5_next_5 : decode cX5_next 5 = .ok (.invokevirtual 86, 3) := by decide +kernel
theorem dX5_next_8 : decode cX5_next 8 = .ok (.ifCond .ne 5, 3) := by decide +kernel
theorem dX5_next_11 : decode cX5_next 11 = .ok (.iconst 0, 1) := by decide +kernel
theorem dX5_next_12 : decode cX5_next 12 = .ok (.ireturn, 1) := by decide +kernel
theorem dX5_next_13 : decode cX5_next 13 = .ok (.aload_n 0, 1) := by decide +kernel
theorem dX5_next_14 : decode cX5_next 14 = .ok (.invokevirtual 90, 3) := by decide +kernel
theorem dX5_next_17 : decode cX5_next 17 = .ok (.aload_n 0, 1) := by decide +kernel
theorem dX5_next_18 : decode cX5_next 18 = .ok (.invokevirtual 144, 3) := by decide +kernel
theorem dX5_next_21 : decode cX5_next 21 = .ok (.ireturn, 1) := by decide +kernel
theorem dX5_set_0 : decode cX5_set 0 = .ok (.iload_n 1, 1) := by decide +kernel
theorem dX5_set_1 : decode cX5_set 1 = .ok (.ifCond .ne 8, 3) := by decide +kernel
theorem dX5_set_4 : decode cX5_set 4 = .ok (.bipush 20, 2) := by decide +kernel
theorem dX5_set_6 : decode cX5_set 6 = .ok (.goto 25, 3) := by decide +kernel
theorem dX5_set_9 : decode cX5_set 9 = .ok (.iload_n 1, 1) := by decide +kernel
theorem dX5_set_10 : decode cX5_set 10 = .ok (.iconst 1, 1) := by decide +kernel
theorem dX5_set_11 : decode cX5_set 11 = .ok (.if_icmp .ne 7, 3) := by decide +kernel
theorem dX5_set_14 : decode cX5_set 14 = .ok (.iconst 1, 1) := by decide +kernel
theorem dX5_set_15 : decode cX5_set 15 = .ok (.goto 16, 3) := by decide +kernel
theorem dX5_set_18 : decode cX5_set 18 = .ok (.iload_n 1, 1) := by decide +kernel
theorem dX5_set_19 : decode cX5_set 19 = .ok (.iconst 2, 1) := by decide +kernel
theorem dX5_set_20 : decode cX5_set 20 = .ok (.if_icmp .ne 8, 3) := by decide +kernel
theorem dX5_set_23 : decode cX5_set 23 = .ok (.bipush 9, 2) := by decide +kernel
theorem dX5_set_25 : decode cX5_set 25 = .ok (.goto 6, 3) := by decide +kernel
theorem dX5_set_28 : decode cX5_set 28 = .ok (.sipush 999, 3) := by decide +kernel
theorem dX5_set_31 : decode cX5_set 31 = .ok (.istore_n 3, 1) := by decide +kernel
theorem dX5_set_32 : decode cX5_set 32 = .ok (.aload_n 0, 1) := by decide +kernel
theorem dX5_set_33 : decode cX5_set 33 = .ok (.iload_n 1, 1) := by decide +kernel
theorem dX5_set_34 : decode cX5_set 34 = .ok (.iconst 0, 1) := by decide +kernel
theorem dX5_set_35 : decode cX5_set 35 = .ok (.iconst 3, 1) := by decide +kernel
theorem dX5_set_36 : decode cX5_set 36 = .ok (.invokestatic 45, 3) := by decide +kernel
theorem dX5_set_39 : decode cX5_set 39 = .ok (.ifCond .ne 7, 3) := by decide +kernel
theorem dX5_set_42 : decode cX5_set 42 = .ok (.iconst 1, 1) := by decide +kernel
theorem dX5_set_43 : decode cX5_set 43 = .ok (.goto 17, 3) := by decide +kernel
theorem dX5_set_46 : decode cX5_set 46 = .ok (.iload_n 2, 1) := by decide +kernel
theorem dX5_set_47 : decode cX5_set 47 = .ok (.iconst 0, 1) := by decide +kernel
theorem dX5_set_48 : decode cX5_set 48 = .ok (.iload_n 3, 1) := by decide +kernel
theorem dX5_set_49 : decode cX5_set 49 = .ok (.invokestatic 45, 3) := by decide +kernel
theorem dX5_set_52 : decode cX5_set 52 = .ok (.ifCond .ne 7, 3) := by decide +kernel
theorem dX5_set_55 : decode cX5_set 55 = .ok (.iconst 2, 1) := by decide +kernel
theorem dX5_set_56 : decode cX5_set 56 = .ok (.goto 4, 3) := by decide +kernel
theorem dX5_set_59 : decode cX5_set 59 = .ok (.iconst 0, 1) := by decide +kernel
theorem dX5_set_60 : decode cX5_set 60 = .ok (.invokevirtual 86, 3) := by decide +kernel
theorem dX5_set_63 : decode cX5_set 63 = .ok (.ifCond .ne 5, 3) := by decide +kernel
theorem dX5_set_66 : decode cX5_set 66 = .ok (.iconst 0, 1) := by decide +kernel
theorem dX5_set_67 : decode cX5_set 67 = .ok (.ireturn, 1) := by decide +kernel
theorem dX5_set_68 : decode cX5_set 68 = .ok (.aload_n 0, 1) := by decide +kernel
theorem dX5_set_69 : decode cX5_set 69 = .ok (.invokevirtual 90, 3) := by decide +kernel
theorem dX5_set_72 : decode cX5_set 72 = .ok (.aload_n 0, 1) := by decide +kernel
theorem dX5_set_73 : decode cX5_set 73 = .ok (.getfield 7, 3) := by decide +kernel
theorem dX5_set_76 : decode cX5_set 76 = .ok (.iconst 5, 1) := by decide +kernel
theorem dX5_set_77 : decode cX5_set 77 = .ok (.iload_n 1, 1) := by decide +kernel
theorem dX5_set_78 : decode cX5_set 78 = .ok (.iadd, 1) := by decide +kernel
theorem dX5_set_79 : decode cX5_set 79 = .ok (.iaload, 1) := by decide +kernel
theorem dX5_set_80 : decode cX5_set 80 = .ok (.istore 4, 2) := by decide +kernel
theorem dX5_set_82 : decode cX5_set 82 = .ok (.aload_n 0, 1) := by decide +kernel
theorem dX5_set_83 : decode cX5_set 83 = .ok (.getfield 7, 3) := by decide +kernel
theorem dX5_set_86 : decode cX5_set 86 = .ok (.iconst 5, 1) := by decide +kernel
theorem dX5_set_87 : decode cX5_set 87 = .ok (.iload_n 1, 1) := by decide +kernel
theorem dX5_set_88 : decode cX5_set 88 = .ok (.iadd, 1) := by decide +kernel
theorem dX5_set_89 : decode cX5_set 89 = .ok (.iload_n 2, 1) := by decide +kernel
theorem dX5_set_90 : decode cX5_set 90 = .ok (.iastore, 1) := by decide +kernel
theorem dX5_set_91 : decode cX5_set 91 = .ok (.iload 4, 2) := by decide +kernel
theorem dX5_set_93 : decode cX5_set 93 = .ok (.ireturn, 1) := by decide +kernel
theorem dX5_append_0 : decode cX5_append 0 = .ok (.aload_n 0, 1) := by decide +kernel
theorem dX5_append_1 : decode cX5_append 1 = .ok (.iload_n 1, 1) := by decide +kernel
theorem dX5_append_2 : decode cX5_append 2 = .ok (.bipush 33, 2) := by decide +kernel
theorem dX5_append_4 : decode cX5_append 4 = .ok (.bipush 126, 2) := by decide +kernel
theorem dX5_append_6 : decode cX5_append 6 = .ok (.invokestatic 45, 3) := by decide +kernel
theorem dX5_append_9 : decode cX5_append 9 = .ok (.ifCond .ne 7, 3) := by decide +kernel
theorem dX5_append_12 : decode cX5_append 12 = .ok (.iconst 1, 1) := by decide +kernel
theorem dX5_append_13 : decode cX5_append 13 = .ok (.goto 17, 3) := by decide +kernel
theorem dX5_append_16 : decode cX5_append 16 = .ok (.aload_n 0, 1) := by decide +kernel
theorem dX5_append_17 : decode cX5_append 17 = .ok (.getfield 147, 3) := by decide +kernel
theorem dX5_append_20 : decode cX5_append 20 = .ok (.bipush 60, 2) := by decide +kernel
theorem dX5_append_22 : decode cX5_append 22 = .ok (.if_icmp .ne 7, 3) := by decide +kernel
theorem dX5_append_25 : decode cX5_append 25 = .ok (.iconst 2, 1) := by decide +kernel
theorem dX5_append_26 : decode cX5_append 26 = .ok (.goto 4, 3) := by decide +kernel
theorem dX5_append_29 : decode cX5_append 29 = .ok (.iconst 0, 1) := by decide +kernel
theorem dX5_append_30 : decode cX5_append 30 = .ok (.invokevirtual 86, 3) := by decide +kernel
theorem dX5_append_33 : decode cX5_append 33 = .ok (.ifCond .ne 5, 3) := by decide +kernel
theorem dX5_append_36 : decode cX5_append 36 = .ok (.iconst 0, 1) := by decide +kernel
theorem dX5_append_37 : decode cX5_append 37 = .ok (.ireturn, 1) := by decide +kernel
theorem dX5_append_38 : decode cX5_append 38 = .ok (.aload_n 0, 1) := by decide +kernel
theorem dX5_append_39 : decode cX5_append 39 = .ok (.getfield 19, 3) := by decide +kernel
theorem dX5_append_42 : decode cX5_append 42 = .ok (.aload_n 0, 1) := by decide +kernel
theorem dX5_append_43 : decode cX5_append 43 = .ok (.getfield 147, 3) := by decide +kernel
theorem dX5_append_46 : decode cX5_append 46 = .ok (.iload_n 1, 1) := by decide +kernel
theorem dX5_append_47 : decode cX5_append 47 = .ok (.iastore, 1) := by decide +kernel
theorem dX5_append_48 : decode cX5_append 48 = .ok (.aload_n 0, 1) := by decide +kernel
theorem dX5_append_49 : decode cX5_append 49 = .ok (.dup, 1) := by decide +kernel
theorem dX5_append_50 : decode cX5_append 50 = .ok (.getfield 147, 3) := by decide +kernel
theorem dX5_append_53 : decode cX5_append 53 = .ok (.iconst 1, 1) := by decide +kernel
theorem dX5_append_54 : decode cX5_append 54 = .ok (.iadd, 1) := by decide +kernel
theorem dX5_append_55 : decode cX5_append 55 = .ok (.putfield 147, 3) := by decide +kernel
theorem dX5_append_58 : decode cX5_append 58 = .ok (.aload_n 0, 1) := by decide +kernel
theorem dX5_append_59 : decode cX5_append 59 = .ok (.getfield 147, 3) := by decide +kernel
theorem dX5_append_62 : decode cX5_append 62 = .ok (.ireturn, 1) := by decide +kernel
theorem dX5_clearBuffer_0 : decode cX5_clearBuffer 0 = .ok (.aload_n 0, 1) := by decide +kernel
theorem dX5_clearBuffer_1 : decode cX5_clearBuffer 1 = .ok (.iconst 0, 1) := by decide +kernel
theorem dX5_clearBuffer_2 : decode cX5_clearBuffer 2 = .ok (.putfield 41, 3) := by decide +kernel
theorem dX5_clearBuffer_5 : decode cX5_clearBuffer 5 = .ok (.aload_n 0, 1) := by decide +kernel
theorem dX5_clearBuffer_6 : decode cX5_clearBuffer 6 = .ok (.getfield 147, 3) := by decide +kernel
theorem dX5_clearBuffer_9 : decode cX5_clearBuffer 9 = .ok (.istore_n 1, 1) := by decide +kernel
theorem dX5_clearBuffer_10 : decode cX5_clearBuffer 10 = .ok (.aload_n 0, 1) := by decide +kernel
theorem dX5_clearBuffer_11 : decode cX5_clearBuffer 11 = .ok (.iconst 0, 1) := by decide +kernel
theorem dX5_clearBuffer_12 : decode cX5_clearBuffer 12 = .ok (.putfield 147, 3) := by decide +kernel
theorem dX5_clearBuffer_15 : decode cX5_clearBuffer 15 = .ok (.iload_n 1, 1) := by decide +kernel
theorem dX5_clearBuffer_16 : decode cX5_clearBuffer 16 = .ok (.ireturn, 1) := by decide +kernel
theorem dX5_sign_0 : decode cX5_sign 0 = .ok (.aload_n 0, 1) := by decide +kernel
theorem dX5_sign_1 : decode cX5_sign 1 = .ok (.getfield 150, 3) := by decide +kernel
theorem dX5_sign_4 : decode cX5_sign 4 = .ok (.aload_n 0, 1) := by decide +kernel
theorem dX5_sign_5 : decode cX5_sign 5 = .ok (.getfield 147, 3) := by decide +kernel
theorem dX5_sign_8 : decode cX5_sign 8 = .ok (.if_icmp .ge 15, 3) := by decide +kernel
theorem dX5_sign_11 : decode cX5_sign 11 = .ok (.aload_n 0, 1) := by decide +kernel
theorem dX5_sign_12 : decode cX5_sign 12 = .ok (.getfield 19, 3) := by decide +kernel
theorem dX5_sign_15 : decode cX5_sign 15 = .ok (.aload_n 0, 1) := by decide +kernel
theorem dX5_sign_16 : decode cX5_sign 16 = .ok (.getfield 150, 3) := by decide +kernel
theorem dX5_sign_19 : decode cX5_sign 19 = .ok (.iaload, 1) := by decide +kernel
theorem dX5_sign_20 : decode cX5_sign 20 = .ok (.goto 4, 3) := by decide +kernel
theorem dX5_sign_23 : decode cX5_sign 23 = .ok (.iconst 0, 1) := by decide +kernel
theorem dX5_sign_24 : decode cX5_sign 24 = .ok (.istore_n 3, 1) := by decide +kernel
theorem dX5_sign_25 : decode cX5_sign 25 = .ok (.aload_n 0, 1) := by decide +kernel
theorem dX5_sign_26 : decode cX5_sign 26 = .ok (.aload_n 0, 1) := by decide +kernel
theorem dX5_sign_27 : decode cX5_sign 27 = .ok (.getfield 153, 3) := by decide +kernel
theorem dX5_sign_30 : decode cX5_sign 30 = .ok (.ifCond .ne 12, 3) := by decide +kernel
theorem dX5_sign_33 : decode cX5_sign 33 = .ok (.iload_n 3, 1) := by decide +kernel
theorem dX5_sign_34 : decode cX5_sign 34 = .ok (.iload_n 1, 1) := by decide +kernel
theorem dX5_sign_35 : decode cX5_sign 35 = .ok (.iload_n 2, 1) := by decide +kernel
theorem dX5_sign_36 : decode cX5_sign 36 = .ok (.invokestatic 45, 3) := by decide +kernel
theorem dX5_sign_39 : decode cX5_sign 39 = .ok (.ifCond .ne 7, 3) := by decide +kernel
theorem dX5_sign_42 : decode cX5_sign 42 = .ok (.iconst 1, 1) := by decide +kernel
theorem dX5_sign_43 : decode cX5_sign 43 = .ok (.goto 4, 3) := by decide +kernel
theorem dX5_sign_46 : decode cX5_sign 46 = .ok (.iconst 0, 1) := by decide +kernel
theorem dX5_sign_47 : decode cX5_sign 47 = .ok (.putfield 153, 3) := by decide +kernel
theorem dX5_sign_50 : decode cX5_sign 50 = .ok (.aload_n 0, 1) := by decide +kernel
theorem dX5_sign_51 : decode cX5_sign 51 = .ok (.dup, 1) := by decide +kernel
theorem dX5_sign_52 : decode cX5_sign 52 = .ok (.getfield 150, 3) := by decide +kernel
theorem dX5_sign_55 : decode cX5_sign 55 = .ok (.aload_n 0, 1) := by decide +kernel
theorem dX5_sign_56 : decode cX5_sign 56 = .ok (.getfield 153, 3) := by decide +kernel
theorem dX5_sign_59 : decode cX5_sign 59 = .ok (.ifCond .eq 7, 3) := by decide +kernel
theorem dX5_sign_62 : decode cX5_sign 62 = .ok (.iconst 0, 1) := by decide +kernel
theorem dX5_sign_63 : decode cX5_sign 63 = .ok (.goto 4, 3) := by decide +kernel
theorem dX5_sign_66 : decode cX5_sign 66 = .ok (.iconst 1, 1) := by decide +kernel
theorem dX5_sign_67 : decode cX5_sign 67 = .ok (.iadd, 1) := by decide +kernel
theorem dX5_sign_68 : decode cX5_sign 68 = .ok (.putfield 150, 3) := by decide +kernel
theorem dX5_sign_71 : decode cX5_sign 71 = .ok (.iload_n 3, 1) := by decide +kernel
theorem dX5_sign_72 : decode cX5_sign 72 = .ok (.ireturn, 1) := by decide +kernel
theorem dX5_word_0 : decode cX5_word 0 = .ok (.ldc 157, 2) := by decide +kernel
theorem dX5_word_2 : decode cX5_word 2 = .ok (.istore_n 2, 1) := by decide +kernel
theorem dX5_word_3 : decode cX5_word 3 = .ok (.iload_n 2, 1) := by decide +kernel
theorem dX5_word_4 : decode cX5_word 4 = .ok (.ifCond .le 36, 3) := by decide +kernel
theorem dX5_word_7 : decode cX5_word 7 = .ok (.iload_n 1, 1) := by decide +kernel
theorem dX5_word_8 : decode cX5_word 8 = .ok (.iload_n 2, 1) := by decide +kernel
theorem dX5_word_9 : decode cX5_word 9 = .ok (.idiv, 1) := by decide +kernel
theorem dX5_word_10 : decode cX5_word 10 = .ok (.sipush 256, 3) := by decide +kernel
theorem dX5_word_13 : decode cX5_word 13 = .ok (.irem, 1) := by decide +kernel
theorem dX5_word_14 : decode cX5_word 14 = .ok (.istore_n 3, 1) := by decide +kernel
theorem dX5_word_15 : decode cX5_word 15 = .ok (.iload_n 3, 1) := by decide +kernel
theorem dX5_word_16 : decode cX5_word 16 = .ok (.ifCond .ne 7, 3) := by decide +kernel
theorem dX5_word_19 : decode cX5_word 19 = .ok (.iconst 0, 1) := by decide +kernel
theorem dX5_word_20 : decode cX5_word 20 = .ok (.goto 9, 3) := by decide +kernel
theorem dX5_word_23 : decode cX5_word 23 = .ok (.aload_n 0, 1) := by decide +kernel
theorem dX5_word_24 : decode cX5_word 24 = .ok (.iload_n 3, 1) := by decide +kernel
theorem dX5_word_25 : decode cX5_word 25 = .ok (.iload_n 3, 1) := by decide +kernel
theorem dX5_word_26 : decode cX5_word 26 = .ok (.invokevirtual 158, 3) := by decide +kernel
theorem dX5_word_29 : decode cX5_word 29 = .ok (.istore 4, 2) := by decide +kernel
theorem dX5_word_31 : decode cX5_word 31 = .ok (.iload_n 2, 1) := by decide +kernel
theorem dX5_word_32 : decode cX5_word 32 = .ok (.sipush 256, 3) := by decide +kernel
theorem dX5_word_35 : decode cX5_word 35 = .ok (.idiv, 1) := by decide +kernel
theorem dX5_word_36 : decode cX5_word 36 = .ok (.istore_n 2, 1) := by decide +kernel
theorem dX5_word_37 : decode cX5_word 37 = .ok (.goto (-34), 3) := by decide +kernel
theorem dX5_word_40 : decode cX5_word 40 = .ok (.return_, 1) := by decide +kernel
theorem dX5_order_0 : decode cX5_order 0 = .ok (.aload_n 0, 1) := by decide +kernel
theorem dX5_order_1 : decode cX5_order 1 = .ok (.getfield 150, 3) := by decide +kernel
theorem dX5_order_4 : decode cX5_order 4 = .ok (.aload_n 0, 1) := by decide +kernel
theorem dX5_order_5 : decode cX5_order 5 = .ok (.getfield 147, 3) := by decide +kernel
theorem dX5_order_8 : decode cX5_order 8 = .ok (.if_icmp .ge 15, 3) := by decide +kernel
theorem dX5_order_11 : decode cX5_order 11 = .ok (.aload_n 0, 1) := by decide +kernel
theorem dX5_order_12 : decode cX5_order 12 = .ok (.getfield 19, 3) := by decide +kernel
theorem dX5_order_15 : decode cX5_order 15 = .ok (.aload_n 0, 1) := by decide +kernel
theorem dX5_order_16 : decode cX5_order 16 = .ok (.getfield 150, 3) := by decide +kernel
theorem dX5_order_19 : decode cX5_order 19 = .ok (.iaload, 1) := by decide +kernel
theorem dX5_order_20 : decode cX5_order 20 = .ok (.goto 4, 3) := by decide +kernel
theorem dX5_order_23 : decode cX5_order 23 = .ok (.iconst 0, 1) := by decide +kernel
theorem dX5_order_24 : decode cX5_order 24 = .ok (.istore_n 1, 1) := by decide +kernel
theorem dX5_order_25 : decode cX5_order 25 = .ok (.aload_n 0, 1) := by decide +kernel
theorem dX5_order_26 : decode cX5_order 26 = .ok (.aload_n 0, 1) := by decide +kernel
theorem dX5_order_27 : decode cX5_order 27 = .ok (.getfield 153, 3) := by decide +kernel
theorem dX5_order_30 : decode cX5_order 30 = .ok (.ifCond .ne 39, 3) := by decide +kernel
theorem dX5_order_33 : decode cX5_order 33 = .ok (.iload_n 1, 1) := by decide +kernel
theorem dX5_order_34 : decode cX5_order 34 = .ok (.bipush 97, 2) := by decide +kernel
theorem dX5_order_36 : decode cX5_order 36 = .ok (.if_icmp .eq 37, 3) := by decide +kernel
theorem dX5_order_39 : decode cX5_order 39 = .ok (.iload_n 1, 1) := by decide +kernel
theorem dX5_order_40 : decode cX5_order 40 = .ok (.bipush 113, 2) := by decide +kernel
theorem dX5_order_42 : decode cX5_order 42 = .ok (.if_icmp .eq 31, 3) := by decide +kernel
theorem dX5_order_45 : decode cX5_order 45 = .ok (.iload_n 1, 1) := by decide +kernel
theorem dX5_order_46 : decode cX5_order 46 = .ok (.bipush 112, 2) := by decide +kernel
theorem dX5_order_48 : decode cX5_order 48 = .ok (.if_icmp .eq 25, 3) := by decide +kernel
theorem dX5_order_51 : decode cX5_order 51 = .ok (.iload_n 1, 1) := by decide +kernel
theorem dX5_order_52 : decode cX5_order 52 = .ok (.bipush 102, 2) := by decide +kernel
theorem dX5_order_54 : decode cX5_order 54 = .ok (.if_icmp .eq 19, 3) := by decide +kernel
theorem dX5_order_57 : decode cX5_order 57 = .ok (.iload_n 1, 1) := by decide +kernel
theorem dX5_order_58 : decode cX5_order 58 = .ok (.bipush 105, 2) := by decide +kernel
theorem dX5_order_60 : decode cX5_order 60 = .ok (.if_icmp .eq 13, 3) := by decide +kernel
theorem dX5_order_63 : decode cX5_order 63 = .ok (.iload_n 1, 1) := by decide +kernel
theorem dX5_order_64 : decode cX5_order 64 = .ok (.bipush 110, 2) := by decide +kernel
theorem dX5_order_66 : decode cX5_order 66 = .ok (.if_icmp .eq 7, 3) := by decide +kernel
theorem dX5_order_69 : decode cX5_order 69 = .ok (.iconst 1, 1) := by decide +kernel
theorem dX5_order_70 : decode cX5_order 70 = .ok (.goto 4, 3) := by decide +kernel
theorem dX5_order_73 : decode cX5_order 73 = .ok (.iconst 0, 1) := by decide +kernel
theorem dX5_order_74 : decode cX5_order 74 = .ok (.putfield 153, 3) := by decide +kernel
theorem dX5_order_77 : decode cX5_order 77 = .ok (.aload_n 0, 1) := by decide +kernel
theorem dX5_order_78 : decode cX5_order 78 = .ok (.dup, 1) := by decide +kernel
theorem dX5_order_79 : decode cX5_order 79 = .ok (.getfield 150, 3) := by decide +kernel
theorem dX5_order_82 : decode cX5_order 82 = .ok (.aload_n 0, 1) := by decide +kernel
theorem dX5_order_83 : decode cX5_order 83 = .ok (.getfield 153, 3) := by decide +kernel
theorem dX5_order_86 : decode cX5_order 86 = .ok (.ifCond .eq 7, 3) := by decide +kernel
theorem dX5_order_89 : decode cX5_order 89 = .ok (.iconst 0, 1) := by decide +kernel
theorem dX5_order_90 : decode cX5_order 90 = .ok (.goto 4, 3) := by decide +kernel
theorem dX5_order_93 : decode cX5_order 93 = .ok (.iconst 1, 1) := by decide +kernel
theorem dX5_order_94 : decode cX5_order 94 = .ok (.iadd, 1) := by decide +kernel
theorem dX5_order_95 : decode cX5_order 95 = .ok (.putfield 150, 3) := by decide +kernel
theorem dX5_order_98 : decode cX5_order 98 = .ok (.aload_n 0, 1) := by decide +kernel
theorem dX5_order_99 : decode cX5_order 99 = .ok (.getfield 25, 3) := by decide +kernel
theorem dX5_order_102 : decode cX5_order 102 = .ok (.iconst 0, 1) := by decide +kernel
theorem dX5_order_103 : decode cX5_order 103 = .ok (.iload_n 1, 1) := by decide +kernel
theorem dX5_order_104 : decode cX5_order 104 = .ok (.iastore, 1) := by decide +kernel
theorem dX5_order_105 : decode cX5_order 105 = .ok (.aload_n 0, 1) := by decide +kernel
theorem dX5_order_106 : decode cX5_order 106 = .ok (.getfield 153, 3) := by decide +kernel
theorem dX5_order_109 : decode cX5_order 109 = .ok (.ifCond .eq 4, 3) := by decide +kernel
theorem dX5_order_112 : decode cX5_order 112 = .ok (.return_, 1) := by decide +kernel
theorem dX5_order_113 : decode cX5_order 113 = .ok (.iload_n 1, 1) := by decide +kernel
theorem dX5_order_114 : decode cX5_order 114 = .ok (.bipush 97, 2) := by decide +kernel
theorem dX5_order_116 : decode cX5_order 116 = .ok (.if_icmp .ne 9, 3) := by decide +kernel
theorem dX5_order_119 : decode cX5_order 119 = .ok (.sipush 29547, 3) := by decide +kernel
theorem dX5_order_122 : decode cX5_order 122 = .ok (.goto 26, 3) := by decide +kernel
theorem dX5_order_125 : decode cX5_order 125 = .ok (.iload_n 1, 1) := by decide +kernel
theorem dX5_order_126 : decode cX5_order 126 = .ok (.bipush 113, 2) := by decide +kernel
theorem dX5_order_128 : decode cX5_order 128 = .ok (.if_icmp .ne 8, 3) := by decide +kernel
theorem dX5_order_131 : decode cX5_order 131 = .ok (.ldc 161, 2) := by decide +kernel
theorem dX5_order_133 : decode cX5_order 133 = .ok (.goto 15, 3) := by decide +kernel
theorem dX5_order_136 : decode cX5_order 136 = .ok (.iload_n 1, 1) := by decide +kernel
theorem dX5_order_137 : decode cX5_order 137 = .ok (.bipush 112, 2) := by decide +kernel
theorem dX5_order_139 : decode cX5_order 139 = .ok (.if_icmp .ne 8, 3) := by decide +kernel
theorem dX5_order_142 : decode cX5_order 142 = .ok (.ldc 162, 2) := by decide +kernel
theorem dX5_order_144 : decode cX5_order 144 = .ok (.goto 4, 3) := by decide +kernel
theorem dX5_order_147 : decode cX5_order 147 = .ok (.iconst 0, 1) := by decide +kernel
theorem dX5_order_148 : decode cX5_order 148 = .ok (.istore_n 2, 1) := by decide +kernel
theorem dX5_order_149 : decode cX5_order 149 = .ok (.iload_n 1, 1) := by decide +kernel
theorem dX5_order_150 : decode cX5_order 150 = .ok (.bipush 102, 2) := by decide +kernel
theorem dX5_order_152 : decode cX5_order 152 = .ok (.if_icmp .ne 8, 3) := by decide +kernel
theorem dX5_order_155 : decode cX5_order 155 = .ok (.ldc 163, 2) := by decide +kernel
theorem dX5_order_157 : decode cX5_order 157 = .ok (.goto 27, 3) := by decide +kernel
theorem dX5_order_160 : decode cX5_order 160 = .ok (.iload_n 1, 1) := by decide +kernel
theorem dX5_order_161 : decode cX5_order 161 = .ok (.bipush 105, 2) := by decide +kernel
theorem dX5_order_163 : decode cX5_order 163 = .ok (.if_icmp .ne 9, 3) := by decide +kernel
theorem dX5_order_166 : decode cX5_order 166 = .ok (.sipush 27756, 3) := by decide +kernel
theorem dX5_order_169 : decode cX5_order 169 = .ok (.goto 15, 3) := by decide +kernel
theorem dX5_order_172 : decode cX5_order 172 = .ok (.iload_n 1, 1) := by decide +kernel
theorem dX5_order_173 : decode cX5_order 173 = .ok (.bipush 110, 2) := by decide +kernel
theorem dX5_order_175 : decode cX5_order 175 = .ok (.if_icmp .ne 8, 3) := by decide +kernel
theorem dX5_order_178 : decode cX5_order 178 = .ok (.ldc 164, 2) := by decide +kernel
theorem dX5_order_180 : decode cX5_order 180 = .ok (.goto 4, 3) := by decide +kernel
theorem dX5_order_183 : decode cX5_order 183 = .ok (.iload_n 2, 1) := by decide +kernel
theorem dX5_order_184 : decode cX5_order 184 = .ok (.istore_n 2, 1) := by decide +kernel
theorem dX5_order_185 : decode cX5_order 185 = .ok (.aload_n 0, 1) := by decide +kernel
theorem dX5_order_186 : decode cX5_order 186 = .ok (.iload_n 2, 1) := by decide +kernel
theorem dX5_order_187 : decode cX5_order 187 = .ok (.invokevirtual 165, 3) := by decide +kernel
theorem dX5_order_190 : decode cX5_order 190 = .ok (.aload_n 0, 1) := by decide +kernel
theorem dX5_order_191 : decode cX5_order 191 = .ok (.getfield 25, 3) := by decide +kernel
theorem dX5_order_194 : decode cX5_order 194 = .ok (.iconst 1, 1) := by decide +kernel
theorem dX5_order_195 : decode cX5_order 195 = .ok (.iconst 0, 1) := by decide +kernel
theorem dX5_order_196 : decode cX5_order 196 = .ok (.iastore, 1) := by decide +kernel
theorem dX5_order_197 : decode cX5_order 197 = .ok (.aload_n 0, 1) := by decide +kernel
theorem dX5_order_198 : decode cX5_order 198 = .ok (.getfield 25, 3) := by decide +kernel
theorem dX5_order_201 : decode cX5_order 201 = .ok (.iconst 2, 1) := by decide +kernel
theorem dX5_order_202 : decode cX5_order 202 = .ok (.iconst 0, 1) := by decide +kernel
theorem dX5_order_203 : decode cX5_order 203 = .ok (.iastore, 1) := by decide +kernel
theorem dX5_order_204 : decode cX5_order 204 = .ok (.iload_n 1, 1) := by decide +kernel
theorem dX5_order_205 : decode cX5_order 205 = .ok (.bipush 105, 2) := by decide +kernel
theorem dX5_order_207 : decode cX5_order 207 = .ok (.if_icmp .ne 49, 3) := by decide +kernel
theorem dX5_order_210 : decode cX5_order 210 = .ok (.aload_n 0, 1) := by decide +kernel
theorem dX5_order_211 : decode cX5_order 211 = .ok (.getfield 25, 3) := by decide +kernel
theorem dX5_order_214 : decode cX5_order 214 = .ok (.iconst 1, 1) := by decide +kernel
theorem dX5_order_215 : decode cX5_order 215 = .ok (.aload_n 0, 1) := by decide +kernel
theorem dX5_order_216 : decode cX5_order 216 = .ok (.bipush 48, 2) := by decide +kernel
theorem dX5_order_218 : decode cX5_order 218 = .ok (.bipush 51, 2) := by decide +kernel
theorem dX5_order_220 : decode cX5_order 220 = .ok (.invokevirtual 158, 3) := by decide +kernel
theorem dX5_order_223 : decode cX5_order 223 = .ok (.bipush 48, 2) := by decide +kernel
theorem dX5_order_225 : decode cX5_order 225 = .ok (.isub, 1) := by decide +kernel
theorem dX5_order_226 : decode cX5_order 226 = .ok (.iastore, 1) := by decide +kernel
theorem dX5_order_227 : decode cX5_order 227 = .ok (.aload_n 0, 1) := by decide +kernel
theorem dX5_order_228 : decode cX5_order 228 = .ok (.bipush 64, 2) := by decide +kernel
theorem dX5_order_230 : decode cX5_order 230 = .ok (.bipush 64, 2) := by decide +kernel
theorem dX5_order_232 : decode cX5_order 232 = .ok (.invokevirtual 158, 3) := by decide +kernel
theorem dX5_order_235 : decode cX5_order 235 = .ok (.istore_n 3, 1) := by decide +kernel
theorem dX5_order_236 : decode cX5_order 236 = .ok (.aload_n 0, 1) := by decide +kernel
theorem dX5_order_237 : decode cX5_order 237 = .ok (.getfield 25, 3) := by decide +kernel
theorem dX5_order_240 : decode cX5_order 240 = .ok (.iconst 2, 1) := by decide +kernel
theorem dX5_order_241 : decode cX5_order 241 = .ok (.aload_n 0, 1) := by decide +kernel
theorem dX5_order_242 : decode cX5_order 242 = .ok (.bipush 48, 2) := by decide +kernel
theorem dX5_order_244 : decode cX5_order 244 = .ok (.bipush 57, 2) := by decide +kernel
theorem dX5_order_246 : decode cX5_order 246 = .ok (.invokevirtual 158, 3) := by decide +kernel
theorem dX5_order_249 : decode cX5_order 249 = .ok (.bipush 48, 2) := by decide +kernel
theorem dX5_order_251 : decode cX5_order 251 = .ok (.isub, 1) := by decide +kernel
theorem dX5_order_252 : decode cX5_order 252 = .ok (.iastore, 1) := by decide +kernel
theorem dX5_order_253 : decode cX5_order 253 = .ok (.goto 112, 3) := by decide +kernel
theorem dX5_order_256 : decode cX5_order 256 = .ok (.iload_n 1, 1) := by decide +kernel
theorem dX5_order_257 : decode cX5_order 257 = .ok (.bipush 110, 2) := by decide +kernel
theorem dX5_order_259 : decode cX5_order 259 = .ok (.if_icmp .eq 106, 3) := by decide +kernel
theorem dX5_order_262 : decode cX5_order 262 = .ok (.aload_n 0, 1) := by decide +kernel
theorem dX5_order_263 : decode cX5_order 263 = .ok (.getfield 25, 3) := by decide +kernel
theorem dX5_order_266 : decode cX5_order 266 = .ok (.iconst 1, 1) := by decide +kernel
theorem dX5_order_267 : decode cX5_order 267 = .ok (.aload_n 0, 1) := by decide +kernel
theorem dX5_order_268 : decode cX5_order 268 = .ok (.bipush 48, 2) := by decide +kernel
theorem dX5_order_270 : decode cX5_order 270 = .ok (.bipush 57, 2) := by decide +kernel
theorem dX5_order_272 : decode cX5_order 272 = .ok (.invokevirtual 158, 3) := by decide +kernel
theorem dX5_order_275 : decode cX5_order 275 = .ok (.bipush 48, 2) := by decide +kernel
theorem dX5_order_277 : decode cX5_order 277 = .ok (.isub, 1) := by decide +kernel
theorem dX5_order_278 : decode cX5_order 278 = .ok (.iastore, 1) := by decide +kernel
theorem dX5_order_279 : decode cX5_order 279 = .ok (.aload_n 0, 1) := by decide +kernel
theorem dX5_order_280 : decode cX5_order 280 = .ok (.getfield 153, 3) := by decide +kernel
theorem dX5_order_283 : decode cX5_order 283 = .ok (.ifCond .ne 47, 3) := by decide +kernel
theorem dX5_order_286 : decode cX5_order 286 = .ok (.aload_n 0, 1) := by decide +kernel
theorem dX5_order_287 : decode cX5_order 287 = .ok (.getfield 25, 3) := by decide +kernel
theorem dX5_order_290 : decode cX5_order 290 = .ok (.iconst 1, 1) := by decide +kernel
theorem dX5_order_291 : decode cX5_order 291 = .ok (.iaload, 1) := by decide +kernel
theorem dX5_order_292 : decode cX5_order 292 = .ok (.iconst 1, 1) := by decide +kernel
theorem dX5_order_293 : decode cX5_order 293 = .ok (.if_icmp .ne 37, 3) := by decide +kernel
theorem dX5_order_296 : decode cX5_order 296 = .ok (.aload_n 0, 1) := by decide +kernel
theorem dX5_order_297 : decode cX5_order 297 = .ok (.getfield 150, 3) := by decide +kernel
theorem dX5_order_300 : decode cX5_order 300 = .ok (.aload_n 0, 1) := by decide +kernel
theorem dX5_order_301 : decode cX5_order 301 = .ok (.getfield 147, 3) := by decide +kernel
theorem dX5_order_304 : decode cX5_order 304 = .ok (.if_icmp .ge 26, 3) := by decide +kernel
theorem dX5_order_307 : decode cX5_order 307 = .ok (.aload_n 0, 1) := by decide +kernel
theorem dX5_order_308 : decode cX5_order 308 = .ok (.getfield 19, 3) := by decide +kernel
theorem dX5_order_311 : decode cX5_order 311 = .ok (.aload_n 0, 1) := by decide +kernel
theorem dX5_order_312 : decode cX5_order 312 = .ok (.getfield 150, 3) := by decide +kernel
theorem dX5_order_315 : decode cX5_order 315 = .ok (.iaload, 1) := by decide +kernel
theorem dX5_order_316 : decode cX5_order 316 = .ok (.bipush 48, 2) := by decide +kernel
theorem dX5_order_318 : decode cX5_order 318 = .ok (.bipush 49, 2) := by decide +kernel
theorem dX5_order_320 : decode cX5_order 320 = .ok (.invokestatic 45, 3) := by decide +kernel
theorem dX5_order_323 : decode cX5_order 323 = .ok (.ifCond .eq 7, 3) := by decide +kernel
theorem dX5_order_326 : decode cX5_order 326 = .ok (.iconst 1, 1) := by decide +kernel
theorem dX5_order_327 : decode cX5_order 327 = .ok (.goto 4, 3) := by decide +kernel
theorem dX5_order_330 : decode cX5_order 330 = .ok (.iconst 0, 1) := by decide +kernel
theorem dX5_order_331 : decode cX5_order 331 = .ok (.istore_n 3, 1) := by decide +kernel
theorem dX5_order_332 : decode cX5_order 332 = .ok (.aload_n 0, 1) := by decide +kernel
theorem dX5_order_333 : decode cX5_order 333 = .ok (.getfield 25, 3) := by decide +kernel
theorem dX5_order_336 : decode cX5_order 336 = .ok (.iconst 1, 1) := by decide +kernel
theorem dX5_order_337 : decode cX5_order 337 = .ok (.iload_n 3, 1) := by decide +kernel
theorem dX5_order_338 : decode cX5_order 338 = .ok (.ifCond .eq 20, 3) := by decide +kernel
theorem dX5_order_341 : decode cX5_order 341 = .ok (.bipush 10, 2) := by decide +kernel
theorem dX5_order_343 : decode cX5_order 343 = .ok (.aload_n 0, 1) := by decide +kernel
theorem dX5_order_344 : decode cX5_order 344 = .ok (.bipush 48, 2) := by decide +kernel
theorem dX5_order_346 : decode cX5_order 346 = .ok (.bipush 49, 2) := by decide +kernel
theorem dX5_order_348 : decode cX5_order 348 = .ok (.invokevirtual 158, 3) := by decide +kernel
theorem dX5_order_351 : decode cX5_order 351 = .ok (.iadd, 1) := by decide +kernel
theorem dX5_order_352 : decode cX5_order 352 = .ok (.bipush 48, 2) := by decide +kernel
theorem dX5_order_354 : decode cX5_order 354 = .ok (.isub, 1) := by decide +kernel
theorem dX5_order_355 : decode cX5_order 355 = .ok (.goto 9, 3) := by decide +kernel
theorem dX5_order_358 : decode cX5_order 358 = .ok (.aload_n 0, 1) := by decide +kernel
theorem dX5_order_359 : decode cX5_order 359 = .ok (.getfield 25, 3) := by decide +kernel
theorem dX5_order_362 : decode cX5_order 362 = .ok (.iconst 1, 1) := by decide +kernel
theorem dX5_order_363 : decode cX5_order 363 = .ok (.iaload, 1) := by decide +kernel
theorem dX5_order_364 : decode cX5_order 364 = .ok (.iastore, 1) := by decide +kernel
theorem dX5_order_365 : decode cX5_order 365 = .ok (.return_, 1) := by decide +kernel
theorem dX5_does_0 : decode cX5_does 0 = .ok (.aload_n 0, 1) := by decide +kernel
theorem dX5_does_1 : decode cX5_does 1 = .ok (.getfield 25, 3) := by decide +kernel
theorem dX5_does_4 : decode cX5_does 4 = .ok (.iconst 0, 1) := by decide +kernel
theorem dX5_does_5 : decode cX5_does 5 = .ok (.iaload, 1) := by decide +kernel
theorem dX5_does_6 : decode cX5_does 6 = .ok (.istore_n 1, 1) := by decide +kernel
theorem dX5_does_7 : decode cX5_does 7 = .ok (.aload_n 0, 1) := by decide +kernel
theorem dX5_does_8 : decode cX5_does 8 = .ok (.getfield 25, 3) := by decide +kernel
theorem dX5_does_11 : decode cX5_does 11 = .ok (.iconst 1, 1) := by decide +kernel
theorem dX5_does_12 : decode cX5_does 12 = .ok (.iaload, 1) := by decide +kernel
theorem dX5_does_13 : decode cX5_does 13 = .ok (.istore_n 2, 1) := by decide +kernel
theorem dX5_does_14 : decode cX5_does 14 = .ok (.aload_n 0, 1) := by decide +kernel
theorem dX5_does_15 : decode cX5_does 15 = .ok (.getfield 25, 3) := by decide +kernel
theorem dX5_does_18 : decode cX5_does 18 = .ok (.iconst 2, 1) := by decide +kernel
theorem dX5_does_19 : decode cX5_does 19 = .ok (.iaload, 1) := by decide +kernel
theorem dX5_does_20 : decode cX5_does 20 = .ok (.istore_n 3, 1) := by decide +kernel
theorem dX5_does_21 : decode cX5_does 21 = .ok (.iload_n 1, 1) := by decide +kernel
theorem dX5_does_22 : decode cX5_does 22 = .ok (.bipush 97, 2) := by decide +kernel
theorem dX5_does_24 : decode cX5_does 24 = .ok (.if_icmp .ne 11, 3) := by decide +kernel
theorem dX5_does_27 : decode cX5_does 27 = .ok (.aload_n 0, 1) := by decide +kernel
theorem dX5_does_28 : decode cX5_does 28 = .ok (.iload_n 2, 1) := by decide +kernel
theorem dX5_does_29 : decode cX5_does 29 = .ok (.invokevirtual 109, 3) := by decide +kernel
theorem dX5_does_32 : decode cX5_does 32 = .ok (.goto 56, 3) := by decide +kernel
theorem dX5_does_35 : decode cX5_does 35 = .ok (.iload_n 1, 1) := by decide +kernel
theorem dX5_does_36 : decode cX5_does 36 = .ok (.bipush 113, 2) := by decide +kernel
theorem dX5_does_38 : decode cX5_does 38 = .ok (.if_icmp .ne 11, 3) := by decide +kernel
theorem dX5_does_41 : decode cX5_does 41 = .ok (.aload_n 0, 1) := by decide +kernel
theorem dX5_does_42 : decode cX5_does 42 = .ok (.iload_n 2, 1) := by decide +kernel
theorem dX5_does_43 : decode cX5_does 43 = .ok (.invokevirtual 115, 3) := by decide +kernel
theorem dX5_does_46 : decode cX5_does 46 = .ok (.goto 42, 3) := by decide +kernel
theorem dX5_does_49 : decode cX5_does 49 = .ok (.iload_n 1, 1) := by decide +kernel
theorem dX5_does_50 : decode cX5_does 50 = .ok (.bipush 112, 2) := by decide +kernel
theorem dX5_does_52 : decode cX5_does 52 = .ok (.if_icmp .eq 9, 3) := by decide +kernel
theorem dX5_does_55 : decode cX5_does 55 = .ok (.iload_n 1, 1) := by decide +kernel
theorem dX5_does_56 : decode cX5_does 56 = .ok (.bipush 102, 2) := by decide +kernel
theorem dX5_does_58 : decode cX5_does 58 = .ok (.if_icmp .ne 11, 3) := by decide +kernel
theorem dX5_does_61 : decode cX5_does 61 = .ok (.aload_n 0, 1) := by decide +kernel
theorem dX5_does_62 : decode cX5_does 62 = .ok (.iload_n 2, 1) := by decide +kernel
theorem dX5_does_63 : decode cX5_does 63 = .ok (.invokevirtual 133, 3) := by decide +kernel
theorem dX5_does_66 : decode cX5_does 66 = .ok (.goto 22, 3) := by decide +kernel
theorem dX5_does_69 : decode cX5_does 69 = .ok (.iload_n 1, 1) := by decide +kernel
theorem dX5_does_70 : decode cX5_does 70 = .ok (.bipush 105, 2) := by decide +kernel
theorem dX5_does_72 : decode cX5_does 72 = .ok (.if_icmp .ne 12, 3) := by decide +kernel
theorem dX5_does_75 : decode cX5_does 75 = .ok (.aload_n 0, 1) := by decide +kernel
theorem dX5_does_76 : decode cX5_does 76 = .ok (.iload_n 2, 1) := by decide +kernel
theorem dX5_does_77 : decode cX5_does 77 = .ok (.iload_n 3, 1) := by decide +kernel
theorem dX5_does_78 : decode cX5_does 78 = .ok (.invokevirtual 124, 3) := by decide +kernel
theorem dX5_does_81 : decode cX5_does 81 = .ok (.goto 7, 3) := by decide +kernel
theorem dX5_does_84 : decode cX5_does 84 = .ok (.aload_n 0, 1) := by decide +kernel
theorem dX5_does_85 : decode cX5_does 85 = .ok (.invokevirtual 140, 3) := by decide +kernel
theorem dX5_does_88 : decode cX5_does 88 = .ok (.istore 4, 2) := by decide +kernel
theorem dX5_does_90 : decode cX5_does 90 = .ok (.iload 4, 2) := by decide +kernel
theorem dX5_does_92 : decode cX5_does 92 = .ok (.ifCond .ne 83, 3) := by decide +kernel
theorem dX5_does_95 : decode cX5_does 95 = .ok (.iload_n 1, 1) := by decide +kernel
theorem dX5_does_96 : decode cX5_does 96 = .ok (.bipush 97, 2) := by decide +kernel
theorem dX5_does_98 : decode cX5_does 98 = .ok (.if_icmp .ne 11, 3) := by decide +kernel
theorem dX5_does_101 : decode cX5_does 101 = .ok (.aload_n 0, 1) := by decide +kernel
theorem dX5_does_102 : decode cX5_does 102 = .ok (.iload_n 2, 1) := by decide +kernel
theorem dX5_does_103 : decode cX5_does 103 = .ok (.invokevirtual 112, 3) := by decide +kernel
theorem dX5_does_106 : decode cX5_does 106 = .ok (.goto 67, 3) := by decide +kernel
theorem dX5_does_109 : decode cX5_does 109 = .ok (.iload_n 1, 1) := by decide +kernel
theorem dX5_does_110 : decode cX5_does 110 = .ok (.bipush 113, 2) := by decide +kernel
theorem dX5_does_112 : decode cX5_does 112 = .ok (.if_icmp .ne 11, 3) := by decide +kernel
theorem dX5_does_115 : decode cX5_does 115 = .ok (.aload_n 0, 1) := by decide +kernel
theorem dX5_does_116 : decode cX5_does 116 = .ok (.iload_n 2, 1) := by decide +kernel
theorem dX5_does_117 : decode cX5_does 117 = .ok (.invokevirtual 118, 3) := by decide +kernel
theorem dX5_does_120 : decode cX5_does 120 = .ok (.goto 53, 3) := by decide +kernel
theorem dX5_does_123 : decode cX5_does 123 = .ok (.iload_n 1, 1) := by decide +kernel
theorem dX5_does_124 : decode cX5_does 124 = .ok (.bipush 112, 2) := by decide +kernel
theorem dX5_does_126 : decode cX5_does 126 = .ok (.if_icmp .eq 9, 3) := by decide +kernel
theorem dX5_does_129 : decode cX5_does 129 = .ok (.iload_n 1, 1) := by decide +kernel
theorem dX5_does_130 : decode cX5_does 130 = .ok (.bipush 102, 2) := by decide +kernel
theorem dX5_does_132 : decode cX5_does 132 = .ok (.if_icmp .ne 22, 3) := by decide +kernel
theorem dX5_does_135 : decode cX5_does 135 = .ok (.aload_n 0, 1) := by decide +kernel
theorem dX5_does_136 : decode cX5_does 136 = .ok (.iload_n 2, 1) := by decide +kernel
theorem dX5_does_137 : decode cX5_does 137 = .ok (.iload_n 1, 1) := by decide +kernel
theorem dX5_does_138 : decode cX5_does 138 = .ok (.bipush 112, 2) := by decide +kernel
theorem dX5_does_140 : decode cX5_does 140 = .ok (.if_icmp .ne 7, 3) := by decide +kernel
theorem dX5_does_143 : decode cX5_does 143 = .ok (.iconst 1, 1) := by decide +kernel
theorem dX5_does_144 : decode cX5_does 144 = .ok (.goto 4, 3) := by decide +kernel
theorem dX5_does_147 : decode cX5_does 147 = .ok (.iconst 0, 1) := by decide +kernel
theorem dX5_does_148 : decode cX5_does 148 = .ok (.invokevirtual 136, 3) := by decide +kernel
theorem dX5_does_151 : decode cX5_does 151 = .ok (.goto 22, 3) := by decide +kernel
theorem dX5_does_154 : decode cX5_does 154 = .ok (.iload_n 1, 1) := by decide +kernel
theorem dX5_does_155 : decode cX5_does 155 = .ok (.bipush 105, 2) := by decide +kernel
theorem dX5_does_157 : decode cX5_does 157 = .ok (.if_icmp .ne 12, 3) := by decide +kernel
theorem dX5_does_160 : decode cX5_does 160 = .ok (.aload_n 0, 1) := by decide +kernel
theorem dX5_does_161 : decode cX5_does 161 = .ok (.iload_n 2, 1) := by decide +kernel
theorem dX5_does_162 : decode cX5_does 162 = .ok (.iload_n 3, 1) := by decide +kernel
theorem dX5_does_163 : decode cX5_does 163 = .ok (.invokevirtual 127, 3) := by decide +kernel
theorem dX5_does_166 : decode cX5_does 166 = .ok (.goto 7, 3) := by decide +kernel
theorem dX5_does_169 : decode cX5_does 169 = .ok (.aload_n 0, 1) := by decide +kernel
theorem dX5_does_170 : decode cX5_does 170 = .ok (.invokevirtual 144, 3) := by decide +kernel
theorem dX5_does_173 : decode cX5_does 173 = .ok (.istore 5, 2) := by decide +kernel
theorem dX5_does_175 : decode cX5_does 175 = .ok (.iload 4, 2) := by decide +kernel
theorem dX5_does_177 : decode cX5_does 177 = .ok (.ifCond .ne 7, 3) := by decide +kernel
theorem dX5_does_180 : decode cX5_does 180 = .ok (.iconst 1, 1) := by decide +kernel
theorem dX5_does_181 : decode cX5_does 181 = .ok (.goto 4, 3) := by decide +kernel
theorem dX5_does_184 : decode cX5_does 184 = .ok (.iconst 0, 1) := by decide +kernel
theorem dX5_does_185 : decode cX5_does 185 = .ok (.ireturn, 1) := by decide +kernel
theorem dX5_go_0 : decode cX5_go 0 = .ok (.aload_n 0, 1) := by decide +kernel
theorem dX5_go_1 : decode cX5_go 1 = .ok (.iconst 0, 1) := by decide +kernel
theorem dX5_go_2 : decode cX5_go 2 = .ok (.putfield 150, 3) := by decide +kernel
theorem dX5_go_5 : decode cX5_go 5 = .ok (.aload_n 0, 1) := by decide +kernel
theorem dX5_go_6 : decode cX5_go 6 = .ok (.iconst 0, 1) := by decide +kernel
theorem dX5_go_7 : decode cX5_go 7 = .ok (.putfield 153, 3) := by decide +kernel
theorem dX5_go_10 : decode cX5_go 10 = .ok (.iconst 0, 1) := by decide +kernel
theorem dX5_go_11 : decode cX5_go 11 = .ok (.istore_n 2, 1) := by decide +kernel
theorem dX5_go_12 : decode cX5_go 12 = .ok (.iconst 1, 1) := by decide +kernel
theorem dX5_go_13 : decode cX5_go 13 = .ok (.istore_n 3, 1) := by decide +kernel
theorem dX5_go_14 : decode cX5_go 14 = .ok (.iload_n 3, 1) := by decide +kernel
theorem dX5_go_15 : decode cX5_go 15 = .ok (.ifCond .eq 101, 3) := by decide +kernel
theorem dX5_go_18 : decode cX5_go 18 = .ok (.aload_n 0, 1) := by decide +kernel
theorem dX5_go_19 : decode cX5_go 19 = .ok (.invokevirtual 168, 3) := by decide +kernel
theorem dX5_go_22 : decode cX5_go 22 = .ok (.iload_n 1, 1) := by decide +kernel
theorem dX5_go_23 : decode cX5_go 23 = .ok (.ifCond .eq 14, 3) := by decide +kernel
theorem dX5_go_26 : decode cX5_go 26 = .ok (.aload_n 0, 1) := by decide +kernel
theorem dX5_go_27 : decode cX5_go 27 = .ok (.invokevirtual 170, 3) := by decide +kernel
theorem dX5_go_30 : decode cX5_go 30 = .ok (.ifCond .eq 7, 3) := by decide +kernel
theorem dX5_go_33 : decode cX5_go 33 = .ok (.iconst 1, 1) := by decide +kernel
theorem dX5_go_34 : decode cX5_go 34 = .ok (.goto 4, 3) := by decide +kernel
theorem dX5_go_37 : decode cX5_go 37 = .ok (.iconst 0, 1) := by decide +kernel
theorem dX5_go_38 : decode cX5_go 38 = .ok (.istore 4, 2) := by decide +kernel
theorem dX5_go_40 : decode cX5_go 40 = .ok (.iload_n 2, 1) := by decide +kernel
theorem dX5_go_41 : decode cX5_go 41 = .ok (.iload 4, 2) := by decide +kernel
theorem dX5_go_43 : decode cX5_go 43 = .ok (.ifCond .eq 7, 3) := by decide +kernel
theorem dX5_go_46 : decode cX5_go 46 = .ok (.iconst 1, 1) := by decide +kernel
theorem dX5_go_47 : decode cX5_go 47 = .ok (.goto 4, 3) := by decide +kernel
theorem dX5_go_50 : decode cX5_go 50 = .ok (.iconst 0, 1) := by decide +kernel
theorem dX5_go_51 : decode cX5_go 51 = .ok (.iadd, 1) := by decide +kernel
theorem dX5_go_52 : decode cX5_go 52 = .ok (.istore_n 2, 1) := by decide +kernel
theorem dX5_go_53 : decode cX5_go 53 = .ok (.aload_n 0, 1) := by decide +kernel
theorem dX5_go_54 : decode cX5_go 54 = .ok (.getfield 153, 3) := by decide +kernel
theorem dX5_go_57 : decode cX5_go 57 = .ok (.ifCond .ne 27, 3) := by decide +kernel
theorem dX5_go_60 : decode cX5_go 60 = .ok (.iload 4, 2) := by decide +kernel
theorem dX5_go_62 : decode cX5_go 62 = .ok (.ifCond .ne 7, 3) := by decide +kernel
theorem dX5_go_65 : decode cX5_go 65 = .ok (.iload_n 1, 1) := by decide +kernel
theorem dX5_go_66 : decode cX5_go 66 = .ok (.ifCond .ne 18, 3) := by decide +kernel
theorem dX5_go_69 : decode cX5_go 69 = .ok (.aload_n 0, 1) := by decide +kernel
theorem dX5_go_70 : decode cX5_go 70 = .ok (.getfield 150, 3) := by decide +kernel
theorem dX5_go_73 : decode cX5_go 73 = .ok (.aload_n 0, 1) := by decide +kernel
theorem dX5_go_74 : decode cX5_go 74 = .ok (.getfield 147, 3) := by decide +kernel
theorem dX5_go_77 : decode cX5_go 77 = .ok (.if_icmp .ge 7, 3) := by decide +kernel
theorem dX5_go_80 : decode cX5_go 80 = .ok (.iconst 1, 1) := by decide +kernel
theorem dX5_go_81 : decode cX5_go 81 = .ok (.goto 4, 3) := by decide +kernel
theorem dX5_go_84 : decode cX5_go 84 = .ok (.iconst 0, 1) := by decide +kernel
theorem dX5_go_85 : decode cX5_go 85 = .ok (.istore_n 3, 1) := by decide +kernel
theorem dX5_go_86 : decode cX5_go 86 = .ok (.iload_n 3, 1) := by decide +kernel
theorem dX5_go_87 : decode cX5_go 87 = .ok (.ifCond .eq 26, 3) := by decide +kernel
theorem dX5_go_90 : decode cX5_go 90 = .ok (.aload_n 0, 1) := by decide +kernel
theorem dX5_go_91 : decode cX5_go 91 = .ok (.bipush 59, 2) := by decide +kernel
theorem dX5_go_93 : decode cX5_go 93 = .ok (.bipush 59, 2) := by decide +kernel
theorem dX5_go_95 : decode cX5_go 95 = .ok (.invokevirtual 158, 3) := by decide +kernel
theorem dX5_go_98 : decode cX5_go 98 = .ok (.istore 5, 2) := by decide +kernel
theorem dX5_go_100 : decode cX5_go 100 = .ok (.aload_n 0, 1) := by decide +kernel
theorem dX5_go_101 : decode cX5_go 101 = .ok (.getfield 153, 3) := by decide +kernel
theorem dX5_go_104 : decode cX5_go 104 = .ok (.ifCond .ne 7, 3) := by decide +kernel
theorem dX5_go_107 : decode cX5_go 107 = .ok (.iconst 1, 1) := by decide +kernel
theorem dX5_go_108 : decode cX5_go 108 = .ok (.goto 4, 3) := by decide +kernel
theorem dX5_go_111 : decode cX5_go 111 = .ok (.iconst 0, 1) := by decide +kernel
theorem dX5_go_112 : decode cX5_go 112 = .ok (.istore_n 3, 1) := by decide +kernel
theorem dX5_go_113 : decode cX5_go 113 = .ok (.goto (-99), 3) := by decide +kernel
theorem dX5_go_116 : decode cX5_go 116 = .ok (.iload_n 2, 1) := by decide +kernel
theorem dX5_go_117 : decode cX5_go 117 = .ok (.ireturn, 1) := by decide +kernel
theorem dX5_firstError_0 : decode cX5_firstError 0 = .ok (.aload_n 0, 1) := by decide +kernel
theorem dX5_firstError_1 : decode cX5_firstError 1 = .ok (.iconst 0, 1) := by decide +kernel
theorem dX5_firstError_2 : decode cX5_firstError 2 = .ok (.putfield 41, 3) := by decide +kernel
theorem dX5_firstError_5 : decode cX5_firstError 5 = .ok (.aload_n 0, 1) := by decide +kernel
theorem dX5_firstError_6 : decode cX5_firstError 6 = .ok (.iconst 0, 1) := by decide +kernel
theorem dX5_firstError_7 : decode cX5_firstError 7 = .ok (.invokevirtual 174, 3) := by decide +kernel
theorem dX5_firstError_10 : decode cX5_firstError 10 = .ok (.istore_n 1, 1) := by decide +kernel
theorem dX5_firstError_11 : decode cX5_firstError 11 = .ok (.aload_n 0, 1) := by decide +kernel
theorem dX5_firstError_12 : decode cX5_firstError 12 = .ok (.getfield 153, 3) := by decide +kernel
theorem dX5_firstError_15 : decode cX5_firstError 15 = .ok (.ifCond .eq 10, 3) := by decide +kernel
theorem dX5_firstError_18 : decode cX5_firstError 18 = .ok (.aload_n 0, 1) := by decide +kernel
theorem dX5_firstError_19 : decode cX5_firstError 19 = .ok (.getfield 150, 3) := by decide +kernel
theorem dX5_firstError_22 : decode cX5_firstError 22 = .ok (.goto 7, 3) := by decide +kernel
theorem dX5_firstError_25 : decode cX5_firstError 25 = .ok (.aload_n 0, 1) := by decide +kernel
theorem dX5_firstError_26 : decode cX5_firstError 26 = .ok (.getfield 147, 3) := by decide +kernel
theorem dX5_firstError_29 : decode cX5_firstError 29 = .ok (.ireturn, 1) := by decide +kernel
theorem dX5_run_0 : decode cX5_run 0 = .ok (.aload_n 0, 1) := by decide +kernel
theorem dX5_run_1 : decode cX5_run 1 = .ok (.iconst 0, 1) := by decide +kernel
theorem dX5_run_2 : decode cX5_run 2 = .ok (.invokevirtual 174, 3) := by decide +kernel
theorem dX5_run_5 : decode cX5_run 5 = .ok (.istore_n 1, 1) := by decide +kernel
theorem dX5_run_6 : decode cX5_run 6 = .ok (.aload_n 0, 1) := by decide +kernel
theorem dX5_run_7 : decode cX5_run 7 = .ok (.aload_n 0, 1) := by decide +kernel
theorem dX5_run_8 : decode cX5_run 8 = .ok (.getfield 153, 3) := by decide +kernel
theorem dX5_run_11 : decode cX5_run 11 = .ok (.ifCond .eq 7, 3) := by decide +kernel
theorem dX5_run_14 : decode cX5_run 14 = .ok (.iconst 1, 1) := by decide +kernel
theorem dX5_run_15 : decode cX5_run 15 = .ok (.goto 4, 3) := by decide +kernel
theorem dX5_run_18 : decode cX5_run 18 = .ok (.iconst 0, 1) := by decide +kernel
theorem dX5_run_19 : decode cX5_run 19 = .ok (.invokevirtual 86, 3) := by decide +kernel
theorem dX5_run_22 : decode cX5_run 22 = .ok (.ifCond .ne 5, 3) := by decide +kernel
theorem dX5_run_25 : decode cX5_run 25 = .ok (.iconst 0, 1) := by decide +kernel
theorem dX5_run_26 : decode cX5_run 26 = .ok (.ireturn, 1) := by decide +kernel
theorem dX5_run_27 : decode cX5_run 27 = .ok (.aload_n 0, 1) := by decide +kernel
theorem dX5_run_28 : decode cX5_run 28 = .ok (.invokevirtual 90, 3) := by decide +kernel
theorem dX5_run_31 : decode cX5_run 31 = .ok (.aload_n 0, 1) := by decide +kernel
theorem dX5_run_32 : decode cX5_run 32 = .ok (.iconst 1, 1) := by decide +kernel
theorem dX5_run_33 : decode cX5_run 33 = .ok (.invokevirtual 174, 3) := by decide +kernel
theorem dX5_run_36 : decode cX5_run 36 = .ok (.istore_n 2, 1) := by decide +kernel
theorem dX5_run_37 : decode cX5_run 37 = .ok (.aload_n 0, 1) := by decide +kernel
theorem dX5_run_38 : decode cX5_run 38 = .ok (.iconst 0, 1) := by decide +kernel
theorem dX5_run_39 : decode cX5_run 39 = .ok (.putfield 147, 3) := by decide +kernel
theorem dX5_run_42 : decode cX5_run 42 = .ok (.iload_n 2, 1) := by decide +kernel
theorem dX5_run_43 : decode cX5_run 43 = .ok (.ireturn, 1) := by decide +kernel
theorem dX5_undo_0 : decode cX5_undo 0 = .ok (.aload_n 0, 1) := by decide +kernel
theorem dX5_undo_1 : decode cX5_undo 1 = .ok (.aload_n 0, 1) := by decide +kernel
theorem dX5_undo_2 : decode cX5_undo 2 = .ok (.getfield 49, 3) := by decide +kernel
theorem dX5_undo_5 : decode cX5_undo 5 = .ok (.ifCond .le 7, 3) := by decide +kernel
theorem dX5_undo_8 : decode cX5_undo 8 = .ok (.iconst 0, 1) := by decide +kernel
theorem dX5_undo_9 : decode cX5_undo 9 = .ok (.goto 4, 3) := by decide +kernel
theorem dX5_undo_12 : decode cX5_undo 12 = .ok (.iconst 1, 1) := by decide +kernel
theorem dX5_undo_13 : decode cX5_undo 13 = .ok (.invokevirtual 86, 3) := by decide +kernel
theorem dX5_undo_16 : decode cX5_undo 16 = .ok (.ifCond .ne 5, 3) := by decide +kernel
theorem dX5_undo_19 : decode cX5_undo 19 = .ok (.iconst 0, 1) := by decide +kernel
theorem dX5_undo_20 : decode cX5_undo 20 = .ok (.ireturn, 1) := by decide +kernel
theorem dX5_undo_21 : decode cX5_undo 21 = .ok (.aload_n 0, 1) := by decide +kernel
theorem dX5_undo_22 : decode cX5_undo 22 = .ok (.dup, 1) := by decide +kernel
theorem dX5_undo_23 : decode cX5_undo 23 = .ok (.getfield 49, 3) := by decide +kernel
theorem dX5_undo_26 : decode cX5_undo 26 = .ok (.iconst 1, 1) := by decide +kernel
theorem dX5_undo_27 : decode cX5_undo 27 = .ok (.isub, 1) := by decide +kernel
theorem dX5_undo_28 : decode cX5_undo 28 = .ok (.putfield 49, 3) := by decide +kernel
theorem dX5_undo_31 : decode cX5_undo 31 = .ok (.iconst 0, 1) := by decide +kernel
theorem dX5_undo_32 : decode cX5_undo 32 = .ok (.istore_n 1, 1) := by decide +kernel
theorem dX5_undo_33 : decode cX5_undo 33 = .ok (.iload_n 1, 1) := by decide +kernel
theorem dX5_undo_34 : decode cX5_undo 34 = .ok (.sipush 341, 3) := by decide +kernel
theorem dX5_undo_37 : decode cX5_undo 37 = .ok (.if_icmp .ge 30, 3) := by decide +kernel
theorem dX5_undo_40 : decode cX5_undo 40 = .ok (.aload_n 0, 1) := by decide +kernel
theorem dX5_undo_41 : decode cX5_undo 41 = .ok (.getfield 7, 3) := by decide +kernel
theorem dX5_undo_44 : decode cX5_undo 44 = .ok (.iload_n 1, 1) := by decide +kernel
theorem dX5_undo_45 : decode cX5_undo 45 = .ok (.aload_n 0, 1) := by decide +kernel
theorem dX5_undo_46 : decode cX5_undo 46 = .ok (.getfield 16, 3) := by decide +kernel
theorem dX5_undo_49 : decode cX5_undo 49 = .ok (.sipush 341, 3) := by decide +kernel
theorem dX5_undo_52 : decode cX5_undo 52 = .ok (.aload_n 0, 1) := by decide +kernel
theorem dX5_undo_53 : decode cX5_undo 53 = .ok (.getfield 49, 3) := by decide +kernel
theorem dX5_undo_56 : decode cX5_undo 56 = .ok (.imul, 1) := by decide +kernel
theorem dX5_undo_57 : decode cX5_undo 57 = .ok (.iload_n 1, 1) := by decide +kernel
theorem dX5_undo_58 : decode cX5_undo 58 = .ok (.iadd, 1) := by decide +kernel
theorem dX5_undo_59 : decode cX5_undo 59 = .ok (.iaload, 1) := by decide +kernel
theorem dX5_undo_60 : decode cX5_undo 60 = .ok (.iastore, 1) := by decide +kernel
theorem dX5_undo_61 : decode cX5_undo 61 = .ok (.iinc 1 1, 3) := by decide +kernel
theorem dX5_undo_64 : decode cX5_undo 64 = .ok (.goto (-31), 3) := by decide +kernel
theorem dX5_undo_67 : decode cX5_undo 67 = .ok (.aload_n 0, 1) := by decide +kernel
theorem dX5_undo_68 : decode cX5_undo 68 = .ok (.getfield 49, 3) := by decide +kernel
theorem dX5_undo_71 : decode cX5_undo 71 = .ok (.ireturn, 1) := by decide +kernel
theorem dX5_told_0 : decode cX5_told 0 = .ok (.iload_n 0, 1) := by decide +kernel
theorem dX5_told_1 : decode cX5_told 1 = .ok (.iconst (-1), 1) := by decide +kernel
theorem dX5_told_2 : decode cX5_told 2 = .ok (.if_icmp .ne 7, 3) := by decide +kernel
theorem dX5_told_5 : decode cX5_told 5 = .ok (.iconst (-1), 1) := by decide +kernel
theorem dX5_told_6 : decode cX5_told 6 = .ok (.goto 30, 3) := by decide +kernel
theorem dX5_told_9 : decode cX5_told 9 = .ok (.iload_n 1, 1) := by decide +kernel
theorem dX5_told_10 : decode cX5_told 10 = .ok (.ifCond .ne 10, 3) := by decide +kernel
theorem dX5_told_13 : decode cX5_told 13 = .ok (.iload_n 0, 1) := by decide +kernel
theorem dX5_told_14 : decode cX5_told 14 = .ok (.invokestatic 56, 3) := by decide +kernel
theorem dX5_told_17 : decode cX5_told 17 = .ok (.goto 19, 3) := by decide +kernel
theorem dX5_told_20 : decode cX5_told 20 = .ok (.iload_n 1, 1) := by decide +kernel
theorem dX5_told_21 : decode cX5_told 21 = .ok (.iconst 1, 1) := by decide +kernel
theorem dX5_told_22 : decode cX5_told 22 = .ok (.if_icmp .ne 10, 3) := by decide +kernel
theorem dX5_told_25 : decode cX5_told 25 = .ok (.iload_n 0, 1) := by decide +kernel
theorem dX5_told_26 : decode cX5_told 26 = .ok (.invokestatic 59, 3) := by decide +kernel
theorem dX5_told_29 : decode cX5_told 29 = .ok (.goto 7, 3) := by decide +kernel
theorem dX5_told_32 : decode cX5_told 32 = .ok (.iload_n 0, 1) := by decide +kernel
theorem dX5_told_33 : decode cX5_told 33 = .ok (.invokestatic 52, 3) := by decide +kernel
theorem dX5_told_36 : decode cX5_told 36 = .ok (.ireturn, 1) := by decide +kernel
theorem dX5_pupilOf_0 : decode cX5_pupilOf 0 = .ok (.iload_n 2, 1) := by decide +kernel
theorem dX5_pupilOf_1 : decode cX5_pupilOf 1 = .ok (.tableswitch 113 0 9 #[55, 55, 55, 55, 55, 66, 66, 66, 78, 89], 55) := by decide +kernel
theorem dX5_pupilOf_56 : decode cX5_pupilOf 56 = .ok (.aload_n 0, 1) := by decide +kernel
theorem dX5_pupilOf_57 : decode cX5_pupilOf 57 = .ok (.getfield 7, 3) := by decide +kernel
theorem dX5_pupilOf_60 : decode cX5_pupilOf 60 = .ok (.iload_n 1, 1) := by decide +kernel
theorem dX5_pupilOf_61 : decode cX5_pupilOf 61 = .ok (.iload_n 2, 1) := by decide +kernel
theorem dX5_pupilOf_62 : decode cX5_pupilOf 62 = .ok (.invokestatic 69, 3) := by decide +kernel
theorem dX5_pupilOf_65 : decode cX5_pupilOf 65 = .ok (.iaload, 1) := by decide +kernel
theorem dX5_pupilOf_66 : decode cX5_pupilOf 66 = .ok (.ireturn, 1) := by decide +kernel
theorem dX5_pupilOf_67 : decode cX5_pupilOf 67 = .ok (.aload_n 0, 1) := by decide +kernel
theorem dX5_pupilOf_68 : decode cX5_pupilOf 68 = .ok (.iload_n 1, 1) := by decide +kernel
theorem dX5_pupilOf_69 : decode cX5_pupilOf 69 = .ok (.invokevirtual 106, 3) := by decide +kernel
theorem dX5_pupilOf_72 : decode cX5_pupilOf 72 = .ok (.iload_n 2, 1) := by decide +kernel
theorem dX5_pupilOf_73 : decode cX5_pupilOf 73 = .ok (.iconst 5, 1) := by decide +kernel
theorem dX5_pupilOf_74 : decode cX5_pupilOf 74 = .ok (.isub, 1) := by decide +kernel
theorem dX5_pupilOf_75 : decode cX5_pupilOf 75 = .ok (.invokestatic 178, 3) := by decide +kernel
theorem dX5_pupilOf_78 : decode cX5_pupilOf 78 = .ok (.ireturn, 1) := by decide +kernel
theorem dX5_pupilOf_79 : decode cX5_pupilOf 79 = .ok (.aload_n 0, 1) := by decide +kernel
theorem dX5_pupilOf_80 : decode cX5_pupilOf 80 = .ok (.getfield 7, 3) := by decide +kernel
theorem dX5_pupilOf_83 : decode cX5_pupilOf 83 = .ok (.iload_n 1, 1) := by decide +kernel
theorem dX5_pupilOf_84 : decode cX5_pupilOf 84 = .ok (.iconst 5, 1) := by decide +kernel
theorem dX5_pupilOf_85 : decode cX5_pupilOf 85 = .ok (.invokestatic 69, 3) := by decide +kernel
theorem dX5_pupilOf_88 : decode cX5_pupilOf 88 = .ok (.iaload, 1) := by decide +kernel
theorem dX5_pupilOf_89 : decode cX5_pupilOf 89 = .ok (.ireturn, 1) := by decide +kernel
theorem dX5_pupilOf_90 : decode cX5_pupilOf 90 = .ok (.aload_n 0, 1) := by decide +kernel
theorem dX5_pupilOf_91 : decode cX5_pupilOf 91 = .ok (.getfield 7, 3) := by decide +kernel
theorem dX5_pupilOf_94 : decode cX5_pupilOf 94 = .ok (.iload_n 1, 1) := by decide +kernel
theorem dX5_pupilOf_95 : decode cX5_pupilOf 95 = .ok (.iconst 0, 1) := by decide +kernel
theorem dX5_pupilOf_96 : decode cX5_pupilOf 96 = .ok (.invokestatic 69, 3) := by decide +kernel
theorem dX5_pupilOf_99 : decode cX5_pupilOf 99 = .ok (.iaload, 1) := by decide +kernel
theorem dX5_pupilOf_100 : decode cX5_pupilOf 100 = .ok (.iconst 1, 1) := by decide +kernel
theorem dX5_pupilOf_101 : decode cX5_pupilOf 101 = .ok (.if_icmp .ne 11, 3) := by decide +kernel
theorem dX5_pupilOf_104 : decode cX5_pupilOf 104 = .ok (.aload_n 0, 1) := by decide +kernel
theorem dX5_pupilOf_105 : decode cX5_pupilOf 105 = .ok (.iload_n 1, 1) := by decide +kernel
theorem dX5_pupilOf_106 : decode cX5_pupilOf 106 = .ok (.invokevirtual 80, 3) := by decide +kernel
theorem dX5_pupilOf_109 : decode cX5_pupilOf 109 = .ok (.goto 4, 3) := by decide +kernel
theorem dX5_pupilOf_112 : decode cX5_pupilOf 112 = .ok (.iconst (-1), 1) := by decide +kernel
theorem dX5_pupilOf_113 : decode cX5_pupilOf 113 = .ok (.ireturn, 1) := by decide +kernel
theorem dX5_pupilOf_114 : decode cX5_pupilOf 114 = .ok (.aload_n 0, 1) := by decide +kernel
theorem dX5_pupilOf_115 : decode cX5_pupilOf 115 = .ok (.getfield 7, 3) := by decide +kernel
theorem dX5_pupilOf_118 : decode cX5_pupilOf 118 = .ok (.iload_n 1, 1) := by decide +kernel
theorem dX5_pupilOf_119 : decode cX5_pupilOf 119 = .ok (.bipush 7, 2) := by decide +kernel
theorem dX5_pupilOf_121 : decode cX5_pupilOf 121 = .ok (.invokestatic 69, 3) := by decide +kernel
theorem dX5_pupilOf_124 : decode cX5_pupilOf 124 = .ok (.iaload, 1) := by decide +kernel
theorem dX5_pupilOf_125 : decode cX5_pupilOf 125 = .ok (.ireturn, 1) := by decide +kernel
theorem dX5_pupil_0 : decode cX5_pupil 0 = .ok (.aload_n 0, 1) := by decide +kernel
theorem dX5_pupil_1 : decode cX5_pupil 1 = .ok (.aload_n 0, 1) := by decide +kernel
theorem dX5_pupil_2 : decode cX5_pupil 2 = .ok (.iload_n 1, 1) := by decide +kernel
theorem dX5_pupil_3 : decode cX5_pupil 3 = .ok (.invokevirtual 99, 3) := by decide +kernel
theorem dX5_pupil_6 : decode cX5_pupil 6 = .ok (.ifCond .ne 7, 3) := by decide +kernel
theorem dX5_pupil_9 : decode cX5_pupil 9 = .ok (.iconst 1, 1) := by decide +kernel
theorem dX5_pupil_10 : decode cX5_pupil 10 = .ok (.goto 18, 3) := by decide +kernel
theorem dX5_pupil_13 : decode cX5_pupil 13 = .ok (.iload_n 2, 1) := by decide +kernel
theorem dX5_pupil_14 : decode cX5_pupil 14 = .ok (.iconst 0, 1) := by decide +kernel
theorem dX5_pupil_15 : decode cX5_pupil 15 = .ok (.bipush 10, 2) := by decide +kernel
theorem dX5_pupil_17 : decode cX5_pupil 17 = .ok (.invokestatic 45, 3) := by decide +kernel
theorem dX5_pupil_20 : decode cX5_pupil 20 = .ok (.ifCond .ne 7, 3) := by decide +kernel
theorem dX5_pupil_23 : decode cX5_pupil 23 = .ok (.iconst 2, 1) := by decide +kernel
theorem dX5_pupil_24 : decode cX5_pupil 24 = .ok (.goto 4, 3) := by decide +kernel
theorem dX5_pupil_27 : decode cX5_pupil 27 = .ok (.iconst 0, 1) := by decide +kernel
theorem dX5_pupil_28 : decode cX5_pupil 28 = .ok (.invokevirtual 86, 3) := by decide +kernel
theorem dX5_pupil_31 : decode cX5_pupil 31 = .ok (.ifCond .eq 12, 3) := by decide +kernel
theorem dX5_pupil_34 : decode cX5_pupil 34 = .ok (.aload_n 0, 1) := by decide +kernel
theorem dX5_pupil_35 : decode cX5_pupil 35 = .ok (.iload_n 1, 1) := by decide +kernel
theorem dX5_pupil_36 : decode cX5_pupil 36 = .ok (.iload_n 2, 1) := by decide +kernel
theorem dX5_pupil_37 : decode cX5_pupil 37 = .ok (.invokevirtual 180, 3) := by decide +kernel
theorem dX5_pupil_40 : decode cX5_pupil 40 = .ok (.goto 4, 3) := by decide +kernel
theorem dX5_pupil_43 : decode cX5_pupil 43 = .ok (.iconst 0, 1) := by decide +kernel
theorem dX5_pupil_44 : decode cX5_pupil 44 = .ok (.ireturn, 1) := by decide +kernel
theorem dX5_slotsOf_0 : decode cX5_slotsOf 0 = .ok (.iconst 0, 1) := by decide +kernel
theorem dX5_slotsOf_1 : decode cX5_slotsOf 1 = .ok (.istore_n 3, 1) := by decide +kernel
theorem dX5_slotsOf_2 : decode cX5_slotsOf 2 = .ok (.iconst 0, 1) := by decide +kernel
theorem dX5_slotsOf_3 : decode cX5_slotsOf 3 = .ok (.istore 4, 2) := by decide +kernel
theorem dX5_slotsOf_5 : decode cX5_slotsOf 5 = .ok (.iload 4, 2) := by decide +kernel
theorem dX5_slotsOf_7 : decode cX5_slotsOf 7 = .ok (.bipush 40, 2) := by decide +kernel
theorem dX5_slotsOf_9 : decode cX5_slotsOf 9 = .ok (.if_icmp .ge 36, 3) := by decide +kernel
theorem dX5_slotsOf_12 : decode cX5_slotsOf 12 = .ok (.iload_n 3, 1) := by decide +kernel
theorem dX5_slotsOf_13 : decode cX5_slotsOf 13 = .ok (.aload_n 0, 1) := by decide +kernel
theorem dX5_slotsOf_14 : decode cX5_slotsOf 14 = .ok (.getfield 7, 3) := by decide +kernel
theorem dX5_slotsOf_17 : decode cX5_slotsOf 17 = .ok (.bipush 9, 2) := by decide +kernel
theorem dX5_slotsOf_19 : decode cX5_slotsOf 19 = .ok (.bipush 40, 2) := by decide +kernel
theorem dX5_slotsOf_21 : decode cX5_slotsOf 21 = .ok (.iload_n 1, 1) := by decide +kernel
theorem dX5_slotsOf_22 : decode cX5_slotsOf 22 = .ok (.imul, 1) := by decide +kernel
theorem dX5_slotsOf_23 : decode cX5_slotsOf 23 = .ok (.iadd, 1) := by decide +kernel
theorem dX5_slotsOf_24 : decode cX5_slotsOf 24 = .ok (.iload 4, 2) := by decide +kernel
theorem dX5_slotsOf_26 : decode cX5_slotsOf 26 = .ok (.iadd, 1) := by decide +kernel
theorem dX5_slotsOf_27 : decode cX5_slotsOf 27 = .ok (.iaload, 1) := by decide +kernel
theorem dX5_slotsOf_28 : decode cX5_slotsOf 28 = .ok (.iload_n 2, 1) := by decide +kernel
theorem dX5_slotsOf_29 : decode cX5_slotsOf 29 = .ok (.if_icmp .ne 7, 3) := by decide +kernel
theorem dX5_slotsOf_32 : decode cX5_slotsOf 32 = .ok (.iconst 1, 1) := by decide +kernel
theorem dX5_slotsOf_33 : decode cX5_slotsOf 33 = .ok (.goto 4, 3) := by decide +kernel
theorem dX5_slotsOf_36 : decode cX5_slotsOf 36 = .ok (.iconst 0, 1) := by decide +kernel
theorem dX5_slotsOf_37 : decode cX5_slotsOf 37 = .ok (.iadd, 1) := by decide +kernel
theorem dX5_slotsOf_38 : decode cX5_slotsOf 38 = .ok (.istore_n 3, 1) := by decide +kernel
theorem dX5_slotsOf_39 : decode cX5_slotsOf 39 = .ok (.iinc 4 1, 3) := by decide +kernel
theorem dX5_slotsOf_42 : decode cX5_slotsOf 42 = .ok (.goto (-37), 3) := by decide +kernel
theorem dX5_slotsOf_45 : decode cX5_slotsOf 45 = .ok (.iload_n 3, 1) := by decide +kernel
theorem dX5_slotsOf_46 : decode cX5_slotsOf 46 = .ok (.ireturn, 1) := by decide +kernel
theorem dX5_examinerOf__0 : decode cX5_examinerOf_ 0 = .ok (.iload_n 2, 1) := by decide +kernel
theorem dX5_examinerOf__1 : decode cX5_examinerOf_ 1 = .ok (.iconst 2, 1) := by decide +kernel
theorem dX5_examinerOf__2 : decode cX5_examinerOf_ 2 = .ok (.if_icmp .ge 16, 3) := by decide +kernel
theorem dX5_examinerOf__5 : decode cX5_examinerOf_ 5 = .ok (.aload_n 0, 1) := by decide +kernel
theorem dX5_examinerOf__6 : decode cX5_examinerOf_ 6 = .ok (.getfield 7, 3) := by decide +kernel
theorem dX5_examinerOf__9 : decode cX5_examinerOf_ 9 = .ok (.iload_n 1, 1) := by decide +kernel
theorem dX5_examinerOf__10 : decode cX5_examinerOf_ 10 = .ok (.iload_n 2, 1) := by decide +kernel
theorem dX5_examinerOf__11 : decode cX5_examinerOf_ 11 = .ok (.invokestatic 93, 3) := by decide +kernel
theorem dX5_examinerOf__14 : decode cX5_examinerOf_ 14 = .ok (.iaload, 1) := by decide +kernel
theorem dX5_examinerOf__15 : decode cX5_examinerOf_ 15 = .ok (.goto 44, 3) := by decide +kernel
theorem dX5_examinerOf__18 : decode cX5_examinerOf_ 18 = .ok (.iload_n 2, 1) := by decide +kernel
theorem dX5_examinerOf__19 : decode cX5_examinerOf_ 19 = .ok (.iconst 2, 1) := by decide +kernel
theorem dX5_examinerOf__20 : decode cX5_examinerOf_ 20 = .ok (.if_icmp .ne 12, 3) := by decide +kernel
theorem dX5_examinerOf__23 : decode cX5_examinerOf_ 23 = .ok (.aload_n 0, 1) := by decide +kernel
theorem dX5_examinerOf__24 : decode cX5_examinerOf_ 24 = .ok (.iload_n 1, 1) := by decide +kernel
theorem dX5_examinerOf__25 : decode cX5_examinerOf_ 25 = .ok (.iconst (-1), 1) := by decide +kernel
theorem dX5_examinerOf__26 : decode cX5_examinerOf_ 26 = .ok (.invokevirtual 183, 3) := by decide +kernel
theorem dX5_examinerOf__29 : decode cX5_examinerOf_ 29 = .ok (.goto 30, 3) := by decide +kernel
theorem dX5_examinerOf__32 : decode cX5_examinerOf_ 32 = .ok (.iload_n 2, 1) := by decide +kernel
theorem dX5_examinerOf__33 : decode cX5_examinerOf_ 33 = .ok (.iconst 3, 1) := by decide +kernel
theorem dX5_examinerOf__34 : decode cX5_examinerOf_ 34 = .ok (.if_icmp .ne 13, 3) := by decide +kernel
theorem dX5_examinerOf__37 : decode cX5_examinerOf_ 37 = .ok (.aload_n 0, 1) := by decide +kernel
theorem dX5_examinerOf__38 : decode cX5_examinerOf_ 38 = .ok (.iload_n 1, 1) := by decide +kernel
theorem dX5_examinerOf__39 : decode cX5_examinerOf_ 39 = .ok (.bipush (-2), 2) := by decide +kernel
theorem dX5_examinerOf__41 : decode cX5_examinerOf_ 41 = .ok (.invokevirtual 183, 3) := by decide +kernel
theorem dX5_examinerOf__44 : decode cX5_examinerOf_ 44 = .ok (.goto 15, 3) := by decide +kernel
theorem dX5_examinerOf__47 : decode cX5_examinerOf_ 47 = .ok (.aload_n 0, 1) := by decide +kernel
theorem dX5_examinerOf__48 : decode cX5_examinerOf_ 48 = .ok (.getfield 7, 3) := by decide +kernel
theorem dX5_examinerOf__51 : decode cX5_examinerOf_ 51 = .ok (.iload_n 1, 1) := by decide +kernel
theorem dX5_examinerOf__52 : decode cX5_examinerOf_ 52 = .ok (.iload_n 2, 1) := by decide +kernel
theorem dX5_examinerOf__53 : decode cX5_examinerOf_ 53 = .ok (.iconst 2, 1) := by decide +kernel
theorem dX5_examinerOf__54 : decode cX5_examinerOf_ 54 = .ok (.isub, 1) := by decide +kernel
theorem dX5_examinerOf__55 : decode cX5_examinerOf_ 55 = .ok (.invokestatic 93, 3) := by decide +kernel
theorem dX5_examinerOf__58 : decode cX5_examinerOf_ 58 = .ok (.iaload, 1) := by decide +kernel
theorem dX5_examinerOf__59 : decode cX5_examinerOf_ 59 = .ok (.ireturn, 1) := by decide +kernel
theorem dX5_examiner_0 : decode cX5_examiner 0 = .ok (.aload_n 0, 1) := by decide +kernel
theorem dX5_examiner_1 : decode cX5_examiner 1 = .ok (.aload_n 0, 1) := by decide +kernel
theorem dX5_examiner_2 : decode cX5_examiner 2 = .ok (.iload_n 1, 1) := by decide +kernel
theorem dX5_examiner_3 : decode cX5_examiner 3 = .ok (.invokevirtual 121, 3) := by decide +kernel
theorem dX5_examiner_6 : decode cX5_examiner 6 = .ok (.ifCond .ne 7, 3) := by decide +kernel
theorem dX5_examiner_9 : decode cX5_examiner 9 = .ok (.iconst 1, 1) := by decide +kernel
theorem dX5_examiner_10 : decode cX5_examiner 10 = .ok (.goto 18, 3) := by decide +kernel
theorem dX5_examiner_13 : decode cX5_examiner 13 = .ok (.iload_n 2, 1) := by decide +kernel
theorem dX5_examiner_14 : decode cX5_examiner 14 = .ok (.iconst 0, 1) := by decide +kernel
theorem dX5_examiner_15 : decode cX5_examiner 15 = .ok (.bipush 8, 2) := by decide +kernel
theorem dX5_examiner_17 : decode cX5_examiner 17 = .ok (.invokestatic 45, 3) := by decide +kernel
theorem dX5_examiner_20 : decode cX5_examiner 20 = .ok (.ifCond .ne 7, 3) := by decide +kernel
theorem dX5_examiner_23 : decode cX5_examiner 23 = .ok (.iconst 2, 1) := by decide +kernel
theorem dX5_examiner_24 : decode cX5_examiner 24 = .ok (.goto 4, 3) := by decide +kernel
theorem dX5_examiner_27 : decode cX5_examiner 27 = .ok (.iconst 0, 1) := by decide +kernel
theorem dX5_examiner_28 : decode cX5_examiner 28 = .ok (.invokevirtual 86, 3) := by decide +kernel
theorem dX5_examiner_31 : decode cX5_examiner 31 = .ok (.ifCond .eq 12, 3) := by decide +kernel
theorem dX5_examiner_34 : decode cX5_examiner 34 = .ok (.aload_n 0, 1) := by decide +kernel
theorem dX5_examiner_35 : decode cX5_examiner 35 = .ok (.iload_n 1, 1) := by decide +kernel
theorem dX5_examiner_36 : decode cX5_examiner 36 = .ok (.iload_n 2, 1) := by decide +kernel
theorem dX5_examiner_37 : decode cX5_examiner 37 = .ok (.invokevirtual 186, 3) := by decide +kernel
theorem dX5_examiner_40 : decode cX5_examiner 40 = .ok (.goto 4, 3) := by decide +kernel
theorem dX5_examiner_43 : decode cX5_examiner 43 = .ok (.iconst 0, 1) := by decide +kernel
theorem dX5_examiner_44 : decode cX5_examiner 44 = .ok (.ireturn, 1) := by decide +kernel
theorem dX5_slot_0 : decode cX5_slot 0 = .ok (.aload_n 0, 1) := by decide +kernel
theorem dX5_slot_1 : decode cX5_slot 1 = .ok (.aload_n 0, 1) := by decide +kernel
theorem dX5_slot_2 : decode cX5_slot 2 = .ok (.iload_n 1, 1) := by decide +kernel
theorem dX5_slot_3 : decode cX5_slot 3 = .ok (.invokevirtual 121, 3) := by decide +kernel
theorem dX5_slot_6 : decode cX5_slot 6 = .ok (.ifCond .ne 7, 3) := by decide +kernel
theorem dX5_slot_9 : decode cX5_slot 9 = .ok (.iconst 1, 1) := by decide +kernel
theorem dX5_slot_10 : decode cX5_slot 10 = .ok (.goto 27, 3) := by decide +kernel
theorem dX5_slot_13 : decode cX5_slot 13 = .ok (.iload_n 2, 1) := by decide +kernel
theorem dX5_slot_14 : decode cX5_slot 14 = .ok (.iconst 0, 1) := by decide +kernel
theorem dX5_slot_15 : decode cX5_slot 15 = .ok (.bipush 9, 2) := by decide +kernel
theorem dX5_slot_17 : decode cX5_slot 17 = .ok (.invokestatic 45, 3) := by decide +kernel
theorem dX5_slot_20 : decode cX5_slot 20 = .ok (.ifCond .eq 12, 3) := by decide +kernel
theorem dX5_slot_23 : decode cX5_slot 23 = .ok (.iload_n 3, 1) := by decide +kernel
theorem dX5_slot_24 : decode cX5_slot 24 = .ok (.iconst 0, 1) := by decide +kernel
theorem dX5_slot_25 : decode cX5_slot 25 = .ok (.iconst 3, 1) := by decide +kernel
theorem dX5_slot_26 : decode cX5_slot 26 = .ok (.invokestatic 45, 3) := by decide +kernel
theorem dX5_slot_29 : decode cX5_slot 29 = .ok (.ifCond .ne 7, 3) := by decide +kernel
theorem dX5_slot_32 : decode cX5_slot 32 = .ok (.iconst 2, 1) := by decide +kernel
theorem dX5_slot_33 : decode cX5_slot 33 = .ok (.goto 4, 3) := by decide +kernel
theorem dX5_slot_36 : decode cX5_slot 36 = .ok (.iconst 0, 1) := by decide +kernel
theorem dX5_slot_37 : decode cX5_slot 37 = .ok (.invokevirtual 86, 3) := by decide +kernel
theorem dX5_slot_40 : decode cX5_slot 40 = .ok (.ifCond .eq 17, 3) := by decide +kernel
theorem dX5_slot_43 : decode cX5_slot 43 = .ok (.aload_n 0, 1) := by decide +kernel
theorem dX5_slot_44 : decode cX5_slot 44 = .ok (.getfield 7, 3) := by decide +kernel
theorem dX5_slot_47 : decode cX5_slot 47 = .ok (.iload_n 1, 1) := by decide +kernel
theorem dX5_slot_48 : decode cX5_slot 48 = .ok (.iload_n 2, 1) := by decide +kernel
theorem dX5_slot_49 : decode cX5_slot 49 = .ok (.iload_n 3, 1) := by decide +kernel
theorem dX5_slot_50 : decode cX5_slot 50 = .ok (.invokestatic 62, 3) := by decide +kernel
theorem dX5_slot_53 : decode cX5_slot 53 = .ok (.iaload, 1) := by decide +kernel
theorem dX5_slot_54 : decode cX5_slot 54 = .ok (.goto 4, 3) := by decide +kernel
theorem dX5_slot_57 : decode cX5_slot 57 = .ok (.iconst 0, 1) := by decide +kernel
theorem dX5_slot_58 : decode cX5_slot 58 = .ok (.ireturn, 1) := by decide +kernel
theorem dX5_stages_0 : decode cX5_stages 0 = .ok (.iconst 0, 1) := by decide +kernel
theorem dX5_stages_1 : decode cX5_stages 1 = .ok (.istore_n 2, 1) := by decide +kernel
theorem dX5_stages_2 : decode cX5_stages 2 = .ok (.iconst 0, 1) := by decide +kernel
theorem dX5_stages_3 : decode cX5_stages 3 = .ok (.istore_n 3, 1) := by decide +kernel
theorem dX5_stages_4 : decode cX5_stages 4 = .ok (.iload_n 3, 1) := by decide +kernel
theorem dX5_stages_5 : decode cX5_stages 5 = .ok (.aload_n 0, 1) := by decide +kernel
theorem dX5_stages_6 : decode cX5_stages 6 = .ok (.getfield 7, 3) := by decide +kernel
theorem dX5_stages_9 : decode cX5_stages 9 = .ok (.iconst 2, 1) := by decide +kernel
theorem dX5_stages_10 : decode cX5_stages 10 = .ok (.iaload, 1) := by decide +kernel
theorem dX5_stages_11 : decode cX5_stages 11 = .ok (.if_icmp .ge 31, 3) := by decide +kernel
theorem dX5_stages_14 : decode cX5_stages 14 = .ok (.iload_n 2, 1) := by decide +kernel
theorem dX5_stages_15 : decode cX5_stages 15 = .ok (.aload_n 0, 1) := by decide +kernel
theorem dX5_stages_16 : decode cX5_stages 16 = .ok (.getfield 7, 3) := by decide +kernel
theorem dX5_stages_19 : decode cX5_stages 19 = .ok (.iload_n 3, 1) := by decide +kernel
theorem dX5_stages_20 : decode cX5_stages 20 = .ok (.iconst 0, 1) := by decide +kernel
theorem dX5_stages_21 : decode cX5_stages 21 = .ok (.invokestatic 69, 3) := by decide +kernel
theorem dX5_stages_24 : decode cX5_stages 24 = .ok (.iaload, 1) := by decide +kernel
theorem dX5_stages_25 : decode cX5_stages 25 = .ok (.iload_n 1, 1) := by decide +kernel
theorem dX5_stages_26 : decode cX5_stages 26 = .ok (.if_icmp .ne 7, 3) := by decide +kernel
theorem dX5_stages_29 : decode cX5_stages 29 = .ok (.iconst 1, 1) := by decide +kernel
theorem dX5_stages_30 : decode cX5_stages 30 = .ok (.goto 4, 3) := by decide +kernel
theorem dX5_stages_33 : decode cX5_stages 33 = .ok (.iconst 0, 1) := by decide +kernel
theorem dX5_stages_34 : decode cX5_stages 34 = .ok (.iadd, 1) := by decide +kernel
theorem dX5_stages_35 : decode cX5_stages 35 = .ok (.istore_n 2, 1) := by decide +kernel
theorem dX5_stages_36 : decode cX5_stages 36 = .ok (.iinc 3 1, 3) := by decide +kernel
theorem dX5_stages_39 : decode cX5_stages 39 = .ok (.goto (-35), 3) := by decide +kernel
theorem dX5_stages_42 : decode cX5_stages 42 = .ok (.iload_n 2, 1) := by decide +kernel
theorem dX5_stages_43 : decode cX5_stages 43 = .ok (.ireturn, 1) := by decide +kernel
theorem dX5_sumOfPupils_0 : decode cX5_sumOfPupils 0 = .ok (.iconst 0, 1) := by decide +kernel
theorem dX5_sumOfPupils_1 : decode cX5_sumOfPupils 1 = .ok (.istore_n 2, 1) := by decide +kernel
theorem dX5_sumOfPupils_2 : decode cX5_sumOfPupils 2 = .ok (.iconst 0, 1) := by decide +kernel
theorem dX5_sumOfPupils_3 : decode cX5_sumOfPupils 3 = .ok (.istore_n 3, 1) := by decide +kernel
theorem dX5_sumOfPupils_4 : decode cX5_sumOfPupils 4 = .ok (.iload_n 3, 1) := by decide +kernel
theorem dX5_sumOfPupils_5 : decode cX5_sumOfPupils 5 = .ok (.aload_n 0, 1) := by decide +kernel
theorem dX5_sumOfPupils_6 : decode cX5_sumOfPupils 6 = .ok (.getfield 7, 3) := by decide +kernel
theorem dX5_sumOfPupils_9 : decode cX5_sumOfPupils 9 = .ok (.iconst 2, 1) := by decide +kernel
theorem dX5_sumOfPupils_10 : decode cX5_sumOfPupils 10 = .ok (.iaload, 1) := by decide +kernel
theorem dX5_sumOfPupils_11 : decode cX5_sumOfPupils 11 = .ok (.if_icmp .ge 22, 3) := by decide +kernel
theorem dX5_sumOfPupils_14 : decode cX5_sumOfPupils 14 = .ok (.iload_n 2, 1) := by decide +kernel
theorem dX5_sumOfPupils_15 : decode cX5_sumOfPupils 15 = .ok (.aload_n 0, 1) := by decide +kernel
theorem dX5_sumOfPupils_16 : decode cX5_sumOfPupils 16 = .ok (.getfield 7, 3) := by decide +kernel
theorem dX5_sumOfPupils_19 : decode cX5_sumOfPupils 19 = .ok (.iload_n 3, 1) := by decide +kernel
theorem dX5_sumOfPupils_20 : decode cX5_sumOfPupils 20 = .ok (.iload_n 1, 1) := by decide +kernel
theorem dX5_sumOfPupils_21 : decode cX5_sumOfPupils 21 = .ok (.invokestatic 69, 3) := by decide +kernel
theorem dX5_sumOfPupils_24 : decode cX5_sumOfPupils 24 = .ok (.iaload, 1) := by decide +kernel
theorem dX5_sumOfPupils_25 : decode cX5_sumOfPupils 25 = .ok (.iadd, 1) := by decide +kernel
theorem dX5_sumOfPupils_26 : decode cX5_sumOfPupils 26 = .ok (.istore_n 2, 1) := by decide +kernel
theorem dX5_sumOfPupils_27 : decode cX5_sumOfPupils 27 = .ok (.iinc 3 1, 3) := by decide +kernel
theorem dX5_sumOfPupils_30 : decode cX5_sumOfPupils 30 = .ok (.goto (-26), 3) := by decide +kernel
theorem dX5_sumOfPupils_33 : decode cX5_sumOfPupils 33 = .ok (.iload_n 2, 1) := by decide +kernel
theorem dX5_sumOfPupils_34 : decode cX5_sumOfPupils 34 = .ok (.ireturn, 1) := by decide +kernel
theorem dX5_sumOfExaminers_0 : decode cX5_sumOfExaminers 0 = .ok (.iconst 0, 1) := by decide +kernel
theorem dX5_sumOfExaminers_1 : decode cX5_sumOfExaminers 1 = .ok (.istore_n 2, 1) := by decide +kernel
theorem dX5_sumOfExaminers_2 : decode cX5_sumOfExaminers 2 = .ok (.iconst 0, 1) := by decide +kernel
theorem dX5_sumOfExaminers_3 : decode cX5_sumOfExaminers 3 = .ok (.istore_n 3, 1) := by decide +kernel
theorem dX5_sumOfExaminers_4 : decode cX5_sumOfExaminers 4 = .ok (.iload_n 3, 1) := by decide +kernel
theorem dX5_sumOfExaminers_5 : decode cX5_sumOfExaminers 5 = .ok (.aload_n 0, 1) := by decide +kernel
theorem dX5_sumOfExaminers_6 : decode cX5_sumOfExaminers 6 = .ok (.getfield 7, 3) := by decide +kernel
theorem dX5_sumOfExaminers_9 : decode cX5_sumOfExaminers 9 = .ok (.iconst 1, 1) := by decide +kernel
theorem dX5_sumOfExaminers_10 : decode cX5_sumOfExaminers 10 = .ok (.iaload, 1) := by decide +kernel
theorem dX5_sumOfExaminers_11 : decode cX5_sumOfExaminers 11 = .ok (.if_icmp .ge 18, 3) := by decide +kernel
theorem dX5_sumOfExaminers_14 : decode cX5_sumOfExaminers 14 = .ok (.iload_n 2, 1) := by decide +kernel
theorem dX5_sumOfExaminers_15 : decode cX5_sumOfExaminers 15 = .ok (.aload_n 0, 1) := by decide +kernel
theorem dX5_sumOfExaminers_16 : decode cX5_sumOfExaminers 16 = .ok (.iload_n 3, 1) := by decide +kernel
theorem dX5_sumOfExaminers_17 : decode cX5_sumOfExaminers 17 = .ok (.iload_n 1, 1) := by decide +kernel
theorem dX5_sumOfExaminers_18 : decode cX5_sumOfExaminers 18 = .ok (.invokevirtual 186, 3) := by decide +kernel
theorem dX5_sumOfExaminers_21 : decode cX5_sumOfExaminers 21 = .ok (.iadd, 1) := by decide +kernel
theorem dX5_sumOfExaminers_22 : decode cX5_sumOfExaminers 22 = .ok (.istore_n 2, 1) := by decide +kernel
theorem dX5_sumOfExaminers_23 : decode cX5_sumOfExaminers 23 = .ok (.iinc 3 1, 3) := by decide +kernel
theorem dX5_sumOfExaminers_26 : decode cX5_sumOfExaminers 26 = .ok (.goto (-22), 3) := by decide +kernel
theorem dX5_sumOfExaminers_29 : decode cX5_sumOfExaminers 29 = .ok (.iload_n 2, 1) := by decide +kernel
theorem dX5_sumOfExaminers_30 : decode cX5_sumOfExaminers 30 = .ok (.ireturn, 1) := by decide +kernel
theorem dX5_sumOfDays_0 : decode cX5_sumOfDays 0 = .ok (.iconst 0, 1) := by decide +kernel
theorem dX5_sumOfDays_1 : decode cX5_sumOfDays 1 = .ok (.istore_n 1, 1) := by decide +kernel
theorem dX5_sumOfDays_2 : decode cX5_sumOfDays 2 = .ok (.iconst 0, 1) := by decide +kernel
theorem dX5_sumOfDays_3 : decode cX5_sumOfDays 3 = .ok (.istore_n 2, 1) := by decide +kernel
theorem dX5_sumOfDays_4 : decode cX5_sumOfDays 4 = .ok (.iload_n 2, 1) := by decide +kernel
theorem dX5_sumOfDays_5 : decode cX5_sumOfDays 5 = .ok (.aload_n 0, 1) := by decide +kernel
theorem dX5_sumOfDays_6 : decode cX5_sumOfDays 6 = .ok (.getfield 7, 3) := by decide +kernel
theorem dX5_sumOfDays_9 : decode cX5_sumOfDays 9 = .ok (.iconst 2, 1) := by decide +kernel
theorem dX5_sumOfDays_10 : decode cX5_sumOfDays 10 = .ok (.iaload, 1) := by decide +kernel
theorem dX5_sumOfDays_11 : decode cX5_sumOfDays 11 = .ok (.if_icmp .ge 31, 3) := by decide +kernel
theorem dX5_sumOfDays_14 : decode cX5_sumOfDays 14 = .ok (.aload_n 0, 1) := by decide +kernel
theorem dX5_sumOfDays_15 : decode cX5_sumOfDays 15 = .ok (.iload_n 2, 1) := by decide +kernel
theorem dX5_sumOfDays_16 : decode cX5_sumOfDays 16 = .ok (.invokevirtual 106, 3) := by decide +kernel
theorem dX5_sumOfDays_19 : decode cX5_sumOfDays 19 = .ok (.istore_n 3, 1) := by decide +kernel
theorem dX5_sumOfDays_20 : decode cX5_sumOfDays 20 = .ok (.iload_n 1, 1) := by decide +kernel
theorem dX5_sumOfDays_21 : decode cX5_sumOfDays 21 = .ok (.iload_n 3, 1) := by decide +kernel
theorem dX5_sumOfDays_22 : decode cX5_sumOfDays 22 = .ok (.iconst (-1), 1) := by decide +kernel
theorem dX5_sumOfDays_23 : decode cX5_sumOfDays 23 = .ok (.if_icmp .ne 7, 3) := by decide +kernel
theorem dX5_sumOfDays_26 : decode cX5_sumOfDays 26 = .ok (.iconst 0, 1) := by decide +kernel
theorem dX5_sumOfDays_27 : decode cX5_sumOfDays 27 = .ok (.goto 7, 3) := by decide +kernel
theorem dX5_sumOfDays_30 : decode cX5_sumOfDays 30 = .ok (.iload_n 3, 1) := by decide +kernel
theorem dX5_sumOfDays_31 : decode cX5_sumOfDays 31 = .ok (.invokestatic 56, 3) := by decide +kernel
theorem dX5_sumOfDays_34 : decode cX5_sumOfDays 34 = .ok (.iadd, 1) := by decide +kernel
theorem dX5_sumOfDays_35 : decode cX5_sumOfDays 35 = .ok (.istore_n 1, 1) := by decide +kernel
theorem dX5_sumOfDays_36 : decode cX5_sumOfDays 36 = .ok (.iinc 2 1, 3) := by decide +kernel
theorem dX5_sumOfDays_39 : decode cX5_sumOfDays 39 = .ok (.goto (-35), 3) := by decide +kernel
theorem dX5_sumOfDays_42 : decode cX5_sumOfDays 42 = .ok (.iload_n 1, 1) := by decide +kernel
theorem dX5_sumOfDays_43 : decode cX5_sumOfDays 43 = .ok (.ireturn, 1) := by decide +kernel
theorem dX5_counted_0 : decode cX5_counted 0 = .ok (.iload_n 1, 1) := by decide +kernel
theorem dX5_counted_1 : decode cX5_counted 1 = .ok (.tableswitch 126 0 13 #[71, 71, 71, 78, 78, 78, 78, 86, 86, 95, 101, 108, 115, 121], 71) := by decide +kernel
theorem dX5_counted_72 : decode cX5_counted 72 = .ok (.aload_n 0, 1) := by decide +kernel
theorem dX5_counted_73 : decode cX5_counted 73 = .ok (.getfield 7, 3) := by decide +kernel
theorem dX5_counted_76 : decode cX5_counted 76 = .ok (.iload_n 1, 1) := by decide +kernel
theorem dX5_counted_77 : decode cX5_counted 77 = .ok (.iaload, 1) := by decide +kernel
theorem dX5_counted_78 : decode cX5_counted 78 = .ok (.ireturn, 1) := by decide +kernel
theorem dX5_counted_79 : decode cX5_counted 79 = .ok (.aload_n 0, 1) := by decide +kernel
theorem dX5_counted_80 : decode cX5_counted 80 = .ok (.iload_n 1, 1) := by decide +kernel
theorem dX5_counted_81 : decode cX5_counted 81 = .ok (.iconst 3, 1) := by decide +kernel
theorem dX5_counted_82 : decode cX5_counted 82 = .ok (.isub, 1) := by decide +kernel
theorem dX5_counted_83 : decode cX5_counted 83 = .ok (.invokevirtual 188, 3) := by decide +kernel
theorem dX5_counted_86 : decode cX5_counted 86 = .ok (.ireturn, 1) := by decide +kernel
theorem dX5_counted_87 : decode cX5_counted 87 = .ok (.aload_n 0, 1) := by decide +kernel
theorem dX5_counted_88 : decode cX5_counted 88 = .ok (.iload_n 1, 1) := by decide +kernel
theorem dX5_counted_89 : decode cX5_counted 89 = .ok (.bipush 7, 2) := by decide +kernel
theorem dX5_counted_91 : decode cX5_counted 91 = .ok (.isub, 1) := by decide +kernel
theorem dX5_counted_92 : decode cX5_counted 92 = .ok (.invokevirtual 191, 3) := by decide +kernel
theorem dX5_counted_95 : decode cX5_counted 95 = .ok (.ireturn, 1) := by decide +kernel
theorem dX5_counted_96 : decode cX5_counted 96 = .ok (.aload_n 0, 1) := by decide +kernel
theorem dX5_counted_97 : decode cX5_counted 97 = .ok (.iconst 5, 1) := by decide +kernel
theorem dX5_counted_98 : decode cX5_counted 98 = .ok (.invokevirtual 194, 3) := by decide +kernel
theorem dX5_counted_101 : decode cX5_counted 101 = .ok (.ireturn, 1) := by decide +kernel
theorem dX5_counted_102 : decode cX5_counted 102 = .ok (.aload_n 0, 1) := by decide +kernel
theorem dX5_counted_103 : decode cX5_counted 103 = .ok (.getfield 7, 3) := by decide +kernel
theorem dX5_counted_106 : decode cX5_counted 106 = .ok (.iconst 4, 1) := by decide +kernel
theorem dX5_counted_107 : decode cX5_counted 107 = .ok (.iaload, 1) := by decide +kernel
theorem dX5_counted_108 : decode cX5_counted 108 = .ok (.ireturn, 1) := by decide +kernel
theorem dX5_counted_109 : decode cX5_counted 109 = .ok (.aload_n 0, 1) := by decide +kernel
theorem dX5_counted_110 : decode cX5_counted 110 = .ok (.bipush 7, 2) := by decide +kernel
theorem dX5_counted_112 : decode cX5_counted 112 = .ok (.invokevirtual 194, 3) := by decide +kernel
theorem dX5_counted_115 : decode cX5_counted 115 = .ok (.ireturn, 1) := by decide +kernel
theorem dX5_counted_116 : decode cX5_counted 116 = .ok (.aload_n 0, 1) := by decide +kernel
theorem dX5_counted_117 : decode cX5_counted 117 = .ok (.iconst 2, 1) := by decide +kernel
theorem dX5_counted_118 : decode cX5_counted 118 = .ok (.invokevirtual 191, 3) := by decide +kernel
theorem dX5_counted_121 : decode cX5_counted 121 = .ok (.ireturn, 1) := by decide +kernel
theorem dX5_counted_122 : decode cX5_counted 122 = .ok (.aload_n 0, 1) := by decide +kernel
theorem dX5_counted_123 : decode cX5_counted 123 = .ok (.invokevirtual 197, 3) := by decide +kernel
theorem dX5_counted_126 : decode cX5_counted 126 = .ok (.ireturn, 1) := by decide +kernel
theorem dX5_counted_127 : decode cX5_counted 127 = .ok (.aload_n 0, 1) := by decide +kernel
theorem dX5_counted_128 : decode cX5_counted 128 = .ok (.getfield 49, 3) := by decide +kernel
theorem dX5_counted_131 : decode cX5_counted 131 = .ok (.ireturn, 1) := by decide +kernel
theorem dX5_count_0 : decode cX5_count 0 = .ok (.aload_n 0, 1) := by decide +kernel
theorem dX5_count_1 : decode cX5_count 1 = .ok (.iload_n 1, 1) := by decide +kernel
theorem dX5_count_2 : decode cX5_count 2 = .ok (.iconst 0, 1) := by decide +kernel
theorem dX5_count_3 : decode cX5_count 3 = .ok (.bipush 14, 2) := by decide +kernel
theorem dX5_count_5 : decode cX5_count 5 = .ok (.invokestatic 45, 3) := by decide +kernel
theorem dX5_count_8 : decode cX5_count 8 = .ok (.ifCond .eq 7, 3) := by decide +kernel
theorem dX5_count_11 : decode cX5_count 11 = .ok (.iconst 0, 1) := by decide +kernel
theorem dX5_count_12 : decode cX5_count 12 = .ok (.goto 4, 3) := by decide +kernel
theorem dX5_count_15 : decode cX5_count 15 = .ok (.iconst 1, 1) := by decide +kernel
theorem dX5_count_16 : decode cX5_count 16 = .ok (.invokevirtual 86, 3) := by decide +kernel
theorem dX5_count_19 : decode cX5_count 19 = .ok (.ifCond .eq 11, 3) := by decide +kernel
theorem dX5_count_22 : decode cX5_count 22 = .ok (.aload_n 0, 1) := by decide +kernel
theorem dX5_count_23 : decode cX5_count 23 = .ok (.iload_n 1, 1) := by decide +kernel
theorem dX5_count_24 : decode cX5_count 24 = .ok (.invokevirtual 200, 3) := by decide +kernel
theorem dX5_count_27 : decode cX5_count 27 = .ok (.goto 4, 3) := by decide +kernel
theorem dX5_count_30 : decode cX5_count 30 = .ok (.iconst 0, 1) := by decide +kernel
theorem dX5_count_31 : decode cX5_count 31 = .ok (.ireturn, 1) := by decide +kernel
theorem dX5_setting_0 : decode cX5_setting 0 = .ok (.aload_n 0, 1) := by decide +kernel
theorem dX5_setting_1 : decode cX5_setting 1 = .ok (.iload_n 1, 1) := by decide +kernel
theorem dX5_setting_2 : decode cX5_setting 2 = .ok (.iconst 0, 1) := by decide +kernel
theorem dX5_setting_3 : decode cX5_setting 3 = .ok (.iconst 3, 1) := by decide +kernel
theorem dX5_setting_4 : decode cX5_setting 4 = .ok (.invokestatic 45, 3) := by decide +kernel
theorem dX5_setting_7 : decode cX5_setting 7 = .ok (.ifCond .eq 7, 3) := by decide +kernel
theorem dX5_setting_10 : decode cX5_setting 10 = .ok (.iconst 0, 1) := by decide +kernel
theorem dX5_setting_11 : decode cX5_setting 11 = .ok (.goto 4, 3) := by decide +kernel
theorem dX5_setting_14 : decode cX5_setting 14 = .ok (.iconst 1, 1) := by decide +kernel
theorem dX5_setting_15 : decode cX5_setting 15 = .ok (.invokevirtual 86, 3) := by decide +kernel
theorem dX5_setting_18 : decode cX5_setting 18 = .ok (.ifCond .eq 14, 3) := by decide +kernel
theorem dX5_setting_21 : decode cX5_setting 21 = .ok (.aload_n 0, 1) := by decide +kernel
theorem dX5_setting_22 : decode cX5_setting 22 = .ok (.getfield 7, 3) := by decide +kernel
theorem dX5_setting_25 : decode cX5_setting 25 = .ok (.iconst 5, 1) := by decide +kernel
theorem dX5_setting_26 : decode cX5_setting 26 = .ok (.iload_n 1, 1) := by decide +kernel
theorem dX5_setting_27 : decode cX5_setting 27 = .ok (.iadd, 1) := by decide +kernel
theorem dX5_setting_28 : decode cX5_setting 28 = .ok (.iaload, 1) := by decide +kernel
theorem dX5_setting_29 : decode cX5_setting 29 = .ok (.goto 4, 3) := by decide +kernel
theorem dX5_setting_32 : decode cX5_setting 32 = .ok (.iconst 0, 1) := by decide +kernel
theorem dX5_setting_33 : decode cX5_setting 33 = .ok (.ireturn, 1) := by decide +kernel
theorem dX5_earliest_0 : decode cX5_earliest 0 = .ok (.aload_n 0, 1) := by decide +kernel
theorem dX5_earliest_1 : decode cX5_earliest 1 = .ok (.aload_n 0, 1) := by decide +kernel
theorem dX5_earliest_2 : decode cX5_earliest 2 = .ok (.iload_n 1, 1) := by decide +kernel
theorem dX5_earliest_3 : decode cX5_earliest 3 = .ok (.invokevirtual 99, 3) := by decide +kernel
theorem dX5_earliest_6 : decode cX5_earliest 6 = .ok (.ifCond .ne 7, 3) := by decide +kernel
theorem dX5_earliest_9 : decode cX5_earliest 9 = .ok (.iconst 1, 1) := by decide +kernel
theorem dX5_earliest_10 : decode cX5_earliest 10 = .ok (.goto 17, 3) := by decide +kernel
theorem dX5_earliest_13 : decode cX5_earliest 13 = .ok (.iload_n 2, 1) := by decide +kernel
theorem dX5_earliest_14 : decode cX5_earliest 14 = .ok (.iconst 0, 1) := by decide +kernel
theorem dX5_earliest_15 : decode cX5_earliest 15 = .ok (.iconst 2, 1) := by decide +kernel
theorem dX5_earliest_16 : decode cX5_earliest 16 = .ok (.invokestatic 45, 3) := by decide +kernel
theorem dX5_earliest_19 : decode cX5_earliest 19 = .ok (.ifCond .ne 7, 3) := by decide +kernel
theorem dX5_earliest_22 : decode cX5_earliest 22 = .ok (.iconst 2, 1) := by decide +kernel
theorem dX5_earliest_23 : decode cX5_earliest 23 = .ok (.goto 4, 3) := by decide +kernel
theorem dX5_earliest_26 : decode cX5_earliest 26 = .ok (.iconst 0, 1) := by decide +kernel
theorem dX5_earliest_27 : decode cX5_earliest 27 = .ok (.invokevirtual 86, 3) := by decide +kernel
theorem dX5_earliest_30 : decode cX5_earliest 30 = .ok (.ifCond .eq 15, 3) := by decide +kernel
theorem dX5_earliest_33 : decode cX5_earliest 33 = .ok (.aload_n 0, 1) := by decide +kernel
theorem dX5_earliest_34 : decode cX5_earliest 34 = .ok (.iload_n 1, 1) := by decide +kernel
theorem dX5_earliest_35 : decode cX5_earliest 35 = .ok (.invokevirtual 83, 3) := by decide +kernel
theorem dX5_earliest_38 : decode cX5_earliest 38 = .ok (.iload_n 2, 1) := by decide +kernel
theorem dX5_earliest_39 : decode cX5_earliest 39 = .ok (.invokestatic 178, 3) := by decide +kernel
theorem dX5_earliest_42 : decode cX5_earliest 42 = .ok (.goto 4, 3) := by decide +kernel
theorem dX5_earliest_45 : decode cX5_earliest 45 = .ok (.iconst 0, 1) := by decide +kernel
theorem dX5_earliest_46 : decode cX5_earliest 46 = .ok (.ireturn, 1) := by decide +kernel
theorem dX5_cancelled_0 : decode cX5_cancelled 0 = .ok (.aload_n 0, 1) := by decide +kernel
theorem dX5_cancelled_1 : decode cX5_cancelled 1 = .ok (.getfield 7, 3) := by decide +kernel
theorem dX5_cancelled_4 : decode cX5_cancelled 4 = .ok (.iload_n 1, 1) := by decide +kernel
theorem dX5_cancelled_5 : decode cX5_cancelled 5 = .ok (.iload_n 2, 1) := by decide +kernel
theorem dX5_cancelled_6 : decode cX5_cancelled 6 = .ok (.iconst 0, 1) := by decide +kernel
theorem dX5_cancelled_7 : decode cX5_cancelled 7 = .ok (.invokestatic 62, 3) := by decide +kernel
theorem dX5_cancelled_10 : decode cX5_cancelled 10 = .ok (.iaload, 1) := by decide +kernel
theorem dX5_cancelled_11 : decode cX5_cancelled 11 = .ok (.istore 4, 2) := by decide +kernel
theorem dX5_cancelled_13 : decode cX5_cancelled 13 = .ok (.aload_n 0, 1) := by decide +kernel
theorem dX5_cancelled_14 : decode cX5_cancelled 14 = .ok (.getfield 7, 3) := by decide +kernel
theorem dX5_cancelled_17 : decode cX5_cancelled 17 = .ok (.iload_n 1, 1) := by decide +kernel
theorem dX5_cancelled_18 : decode cX5_cancelled 18 = .ok (.iload_n 2, 1) := by decide +kernel
theorem dX5_cancelled_19 : decode cX5_cancelled 19 = .ok (.iconst 1, 1) := by decide +kernel
theorem dX5_cancelled_20 : decode cX5_cancelled 20 = .ok (.invokestatic 62, 3) := by decide +kernel
theorem dX5_cancelled_23 : decode cX5_cancelled 23 = .ok (.iaload, 1) := by decide +kernel
theorem dX5_cancelled_24 : decode cX5_cancelled 24 = .ok (.istore 5, 2) := by decide +kernel
theorem dX5_cancelled_26 : decode cX5_cancelled 26 = .ok (.iconst 0, 1) := by decide +kernel
theorem dX5_cancelled_27 : decode cX5_cancelled 27 = .ok (.istore 6, 2) := by decide +kernel
theorem dX5_cancelled_29 : decode cX5_cancelled 29 = .ok (.iload 6, 2) := by decide +kernel
theorem dX5_cancelled_31 : decode cX5_cancelled 31 = .ok (.sipush 341, 3) := by decide +kernel
theorem dX5_cancelled_34 : decode cX5_cancelled 34 = .ok (.if_icmp .ge 23, 3) := by decide +kernel
theorem dX5_cancelled_37 : decode cX5_cancelled 37 = .ok (.aload_n 0, 1) := by decide +kernel
theorem dX5_cancelled_38 : decode cX5_cancelled 38 = .ok (.getfield 13, 3) := by decide +kernel
theorem dX5_cancelled_41 : decode cX5_cancelled 41 = .ok (.iload 6, 2) := by decide +kernel
theorem dX5_cancelled_43 : decode cX5_cancelled 43 = .ok (.aload_n 0, 1) := by decide +kernel
theorem dX5_cancelled_44 : decode cX5_cancelled 44 = .ok (.getfield 7, 3) := by decide +kernel
theorem dX5_cancelled_47 : decode cX5_cancelled 47 = .ok (.iload 6, 2) := by decide +kernel
theorem dX5_cancelled_49 : decode cX5_cancelled 49 = .ok (.iaload, 1) := by decide +kernel
theorem dX5_cancelled_50 : decode cX5_cancelled 50 = .ok (.iastore, 1) := by decide +kernel
theorem dX5_cancelled_51 : decode cX5_cancelled 51 = .ok (.iinc 6 1, 3) := by decide +kernel
theorem dX5_cancelled_54 : decode cX5_cancelled 54 = .ok (.goto (-25), 3) := by decide +kernel
theorem dX5_cancelled_57 : decode cX5_cancelled 57 = .ok (.aload_n 0, 1) := by decide +kernel
theorem dX5_cancelled_58 : decode cX5_cancelled 58 = .ok (.iload_n 1, 1) := by decide +kernel
theorem dX5_cancelled_59 : decode cX5_cancelled 59 = .ok (.iload_n 2, 1) := by decide +kernel
theorem dX5_cancelled_60 : decode cX5_cancelled 60 = .ok (.invokevirtual 127, 3) := by decide +kernel
theorem dX5_cancelled_63 : decode cX5_cancelled 63 = .ok (.istore 6, 2) := by decide +kernel
theorem dX5_cancelled_65 : decode cX5_cancelled 65 = .ok (.iconst 0, 1) := by decide +kernel
theorem dX5_cancelled_66 : decode cX5_cancelled 66 = .ok (.istore 7, 2) := by decide +kernel
theorem dX5_cancelled_68 : decode cX5_cancelled 68 = .ok (.sipush 1000, 3) := by decide +kernel
theorem dX5_cancelled_71 : decode cX5_cancelled 71 = .ok (.istore 8, 2) := by decide +kernel
theorem dX5_cancelled_73 : decode cX5_cancelled 73 = .ok (.iconst 0, 1) := by decide +kernel
theorem dX5_cancelled_74 : decode cX5_cancelled 74 = .ok (.istore 9, 2) := by decide +kernel
theorem dX5_cancelled_76 : decode cX5_cancelled 76 = .ok (.iload 9, 2) := by decide +kernel
theorem dX5_cancelled_78 : decode cX5_cancelled 78 = .ok (.iconst 2, 1) := by decide +kernel
theorem dX5_cancelled_79 : decode cX5_cancelled 79 = .ok (.if_icmp .ge 83, 3) := by decide +kernel
theorem dX5_cancelled_82 : decode cX5_cancelled 82 = .ok (.iload 9, 2) := by decide +kernel
theorem dX5_cancelled_84 : decode cX5_cancelled 84 = .ok (.ifCond .ne 8, 3) := by decide +kernel
theorem dX5_cancelled_87 : decode cX5_cancelled 87 = .ok (.iload 4, 2) := by decide +kernel
theorem dX5_cancelled_89 : decode cX5_cancelled 89 = .ok (.goto 5, 3) := by decide +kernel
theorem dX5_cancelled_92 : decode cX5_cancelled 92 = .ok (.iload 5, 2) := by decide +kernel
theorem dX5_cancelled_94 : decode cX5_cancelled 94 = .ok (.istore 10, 2) := by decide +kernel
theorem dX5_cancelled_96 : decode cX5_cancelled 96 = .ok (.iload 10, 2) := by decide +kernel
theorem dX5_cancelled_98 : decode cX5_cancelled 98 = .ok (.ifCond .ge 7, 3) := by decide +kernel
theorem dX5_cancelled_101 : decode cX5_cancelled 101 = .ok (.iconst (-1), 1) := by decide +kernel
theorem dX5_cancelled_102 : decode cX5_cancelled 102 = .ok (.goto 9, 3) := by decide +kernel
theorem dX5_cancelled_105 : decode cX5_cancelled 105 = .ok (.aload_n 0, 1) := by decide +kernel
theorem dX5_cancelled_106 : decode cX5_cancelled 106 = .ok (.iload 10, 2) := by decide +kernel
theorem dX5_cancelled_108 : decode cX5_cancelled 108 = .ok (.invokevirtual 106, 3) := by decide +kernel
theorem dX5_cancelled_111 : decode cX5_cancelled 111 = .ok (.istore 11, 2) := by decide +kernel
theorem dX5_cancelled_113 : decode cX5_cancelled 113 = .ok (.iload 7, 2) := by decide +kernel
theorem dX5_cancelled_115 : decode cX5_cancelled 115 = .ok (.iload 10, 2) := by decide +kernel
theorem dX5_cancelled_117 : decode cX5_cancelled 117 = .ok (.ifCond .lt 13, 3) := by decide +kernel
theorem dX5_cancelled_120 : decode cX5_cancelled 120 = .ok (.iload 11, 2) := by decide +kernel
theorem dX5_cancelled_122 : decode cX5_cancelled 122 = .ok (.iconst (-1), 1) := by decide +kernel
theorem dX5_cancelled_123 : decode cX5_cancelled 123 = .ok (.if_icmp .ne 7, 3) := by decide +kernel
theorem dX5_cancelled_126 : decode cX5_cancelled 126 = .ok (.iconst 1, 1) := by decide +kernel
theorem dX5_cancelled_127 : decode cX5_cancelled 127 = .ok (.goto 4, 3) := by decide +kernel
theorem dX5_cancelled_130 : decode cX5_cancelled 130 = .ok (.iconst 0, 1) := by decide +kernel
theorem dX5_cancelled_131 : decode cX5_cancelled 131 = .ok (.iadd, 1) := by decide +kernel
theorem dX5_cancelled_132 : decode cX5_cancelled 132 = .ok (.istore 7, 2) := by decide +kernel
theorem dX5_cancelled_134 : decode cX5_cancelled 134 = .ok (.iload 8, 2) := by decide +kernel
theorem dX5_cancelled_136 : decode cX5_cancelled 136 = .ok (.iload 11, 2) := by decide +kernel
theorem dX5_cancelled_138 : decode cX5_cancelled 138 = .ok (.iconst (-1), 1) := by decide +kernel
theorem dX5_cancelled_139 : decode cX5_cancelled 139 = .ok (.if_icmp .ne 7, 3) := by decide +kernel
theorem dX5_cancelled_142 : decode cX5_cancelled 142 = .ok (.iconst 0, 1) := by decide +kernel
theorem dX5_cancelled_143 : decode cX5_cancelled 143 = .ok (.goto 10, 3) := by decide +kernel
theorem dX5_cancelled_146 : decode cX5_cancelled 146 = .ok (.iload 11, 2) := by decide +kernel
theorem dX5_cancelled_148 : decode cX5_cancelled 148 = .ok (.invokestatic 56, 3) := by decide +kernel
theorem dX5_cancelled_151 : decode cX5_cancelled 151 = .ok (.iload_n 2, 1) := by decide +kernel
theorem dX5_cancelled_152 : decode cX5_cancelled 152 = .ok (.isub, 1) := by decide +kernel
theorem dX5_cancelled_153 : decode cX5_cancelled 153 = .ok (.iadd, 1) := by decide +kernel
theorem dX5_cancelled_154 : decode cX5_cancelled 154 = .ok (.istore 8, 2) := by decide +kernel
theorem dX5_cancelled_156 : decode cX5_cancelled 156 = .ok (.iinc 9 1, 3) := by decide +kernel
theorem dX5_cancelled_159 : decode cX5_cancelled 159 = .ok (.goto (-83), 3) := by decide +kernel
theorem dX5_cancelled_162 : decode cX5_cancelled 162 = .ok (.iconst 0, 1) := by decide +kernel
theorem dX5_cancelled_163 : decode cX5_cancelled 163 = .ok (.istore 9, 2) := by decide +kernel
theorem dX5_cancelled_165 : decode cX5_cancelled 165 = .ok (.iload 9, 2) := by decide +kernel
theorem dX5_cancelled_167 : decode cX5_cancelled 167 = .ok (.sipush 341, 3) := by decide +kernel
theorem dX5_cancelled_170 : decode cX5_cancelled 170 = .ok (.if_icmp .ge 23, 3) := by decide +kernel
theorem dX5_cancelled_173 : decode cX5_cancelled 173 = .ok (.aload_n 0, 1) := by decide +kernel
theorem dX5_cancelled_174 : decode cX5_cancelled 174 = .ok (.getfield 7, 3) := by decide +kernel
theorem dX5_cancelled_177 : decode cX5_cancelled 177 = .ok (.iload 9, 2) := by decide +kernel
theorem dX5_cancelled_179 : decode cX5_cancelled 179 = .ok (.aload_n 0, 1) := by decide +kernel
theorem dX5_cancelled_180 : decode cX5_cancelled 180 = .ok (.getfield 13, 3) := by decide +kernel
theorem dX5_cancelled_183 : decode cX5_cancelled 183 = .ok (.iload 9, 2) := by decide +kernel
theorem dX5_cancelled_185 : decode cX5_cancelled 185 = .ok (.iaload, 1) := by decide +kernel
theorem dX5_cancelled_186 : decode cX5_cancelled 186 = .ok (.iastore, 1) := by decide +kernel
theorem dX5_cancelled_187 : decode cX5_cancelled 187 = .ok (.iinc 9 1, 3) := by decide +kernel
theorem dX5_cancelled_190 : decode cX5_cancelled 190 = .ok (.goto (-25), 3) := by decide +kernel
theorem dX5_cancelled_193 : decode cX5_cancelled 193 = .ok (.iload_n 3, 1) := by decide +kernel
theorem dX5_cancelled_194 : decode cX5_cancelled 194 = .ok (.ifCond .ne 8, 3) := by decide +kernel
theorem dX5_cancelled_197 : decode cX5_cancelled 197 = .ok (.iload 6, 2) := by decide +kernel
theorem dX5_cancelled_199 : decode cX5_cancelled 199 = .ok (.goto 15, 3) := by decide +kernel
theorem dX5_cancelled_202 : decode cX5_cancelled 202 = .ok (.iload_n 3, 1) := by decide +kernel
theorem dX5_cancelled_203 : decode cX5_cancelled 203 = .ok (.iconst 1, 1) := by decide +kernel
theorem dX5_cancelled_204 : decode cX5_cancelled 204 = .ok (.if_icmp .ne 8, 3) := by decide +kernel
theorem dX5_cancelled_207 : decode cX5_cancelled 207 = .ok (.iload 7, 2) := by decide +kernel
theorem dX5_cancelled_209 : decode cX5_cancelled 209 = .ok (.goto 5, 3) := by decide +kernel
theorem dX5_cancelled_212 : decode cX5_cancelled 212 = .ok (.iload 8, 2) := by decide +kernel
theorem dX5_cancelled_214 : decode cX5_cancelled 214 = .ok (.ireturn, 1) := by decide +kernel
theorem dX5_ifCancelled_0 : decode cX5_ifCancelled 0 = .ok (.aload_n 0, 1) := by decide +kernel
theorem dX5_ifCancelled_1 : decode cX5_ifCancelled 1 = .ok (.iload_n 1, 1) := by decide +kernel
theorem dX5_ifCancelled_2 : decode cX5_ifCancelled 2 = .ok (.invokevirtual 121, 3) := by decide +kernel
theorem dX5_ifCancelled_5 : decode cX5_ifCancelled 5 = .ok (.ifCond .ne 7, 3) := by decide +kernel
theorem dX5_ifCancelled_8 : decode cX5_ifCancelled 8 = .ok (.iconst 1, 1) := by decide +kernel
theorem dX5_ifCancelled_9 : decode cX5_ifCancelled 9 = .ok (.goto 27, 3) := by decide +kernel
theorem dX5_ifCancelled_12 : decode cX5_ifCancelled 12 = .ok (.iload_n 2, 1) := by decide +kernel
theorem dX5_ifCancelled_13 : decode cX5_ifCancelled 13 = .ok (.iconst 0, 1) := by decide +kernel
theorem dX5_ifCancelled_14 : decode cX5_ifCancelled 14 = .ok (.bipush 9, 2) := by decide +kernel
theorem dX5_ifCancelled_16 : decode cX5_ifCancelled 16 = .ok (.invokestatic 45, 3) := by decide +kernel
theorem dX5_ifCancelled_19 : decode cX5_ifCancelled 19 = .ok (.ifCond .eq 12, 3) := by decide +kernel
theorem dX5_ifCancelled_22 : decode cX5_ifCancelled 22 = .ok (.iload_n 3, 1) := by decide +kernel
theorem dX5_ifCancelled_23 : decode cX5_ifCancelled 23 = .ok (.iconst 0, 1) := by decide +kernel
theorem dX5_ifCancelled_24 : decode cX5_ifCancelled 24 = .ok (.iconst 2, 1) := by decide +kernel
theorem dX5_ifCancelled_25 : decode cX5_ifCancelled 25 = .ok (.invokestatic 45, 3) := by decide +kernel
theorem dX5_ifCancelled_28 : decode cX5_ifCancelled 28 = .ok (.ifCond .ne 7, 3) := by decide +kernel
theorem dX5_ifCancelled_31 : decode cX5_ifCancelled 31 = .ok (.iconst 2, 1) := by decide +kernel
theorem dX5_ifCancelled_32 : decode cX5_ifCancelled 32 = .ok (.goto 4, 3) := by decide +kernel
theorem dX5_ifCancelled_35 : decode cX5_ifCancelled 35 = .ok (.iconst 0, 1) := by decide +kernel
theorem dX5_ifCancelled_36 : decode cX5_ifCancelled 36 = .ok (.istore 4, 2) := by decide +kernel
theorem dX5_ifCancelled_38 : decode cX5_ifCancelled 38 = .ok (.aload_n 0, 1) := by decide +kernel
theorem dX5_ifCancelled_39 : decode cX5_ifCancelled 39 = .ok (.iload 4, 2) := by decide +kernel
theorem dX5_ifCancelled_41 : decode cX5_ifCancelled 41 = .ok (.invokevirtual 86, 3) := by decide +kernel
theorem dX5_ifCancelled_44 : decode cX5_ifCancelled 44 = .ok (.ifCond .eq 13, 3) := by decide +kernel
theorem dX5_ifCancelled_47 : decode cX5_ifCancelled 47 = .ok (.aload_n 0, 1) := by decide +kernel
theorem dX5_ifCancelled_48 : decode cX5_ifCancelled 48 = .ok (.iload_n 1, 1) := by decide +kernel
theorem dX5_ifCancelled_49 : decode cX5_ifCancelled 49 = .ok (.iload_n 2, 1) := by decide +kernel
theorem dX5_ifCancelled_50 : decode cX5_ifCancelled 50 = .ok (.iload_n 3, 1) := by decide +kernel
theorem dX5_ifCancelled_51 : decode cX5_ifCancelled 51 = .ok (.invokevirtual 203, 3) := by decide +kernel
theorem dX5_ifCancelled_54 : decode cX5_ifCancelled 54 = .ok (.goto 4, 3) := by decide +kernel
theorem dX5_ifCancelled_57 : decode cX5_ifCancelled 57 = .ok (.iconst 0, 1) := by decide +kernel
theorem dX5_ifCancelled_58 : decode cX5_ifCancelled 58 = .ok (.ireturn, 1) := by decide +kernel
theorem dX5_ifTested_0 : decode cX5_ifTested 0 = .ok (.aload_n 0, 1) := by decide +kernel
theorem dX5_ifTested_1 : decode cX5_ifTested 1 = .ok (.aload_n 0, 1) := by decide +kernel
theorem dX5_ifTested_2 : decode cX5_ifTested 2 = .ok (.iload_n 1, 1) := by decide +kernel
theorem dX5_ifTested_3 : decode cX5_ifTested 3 = .ok (.invokevirtual 99, 3) := by decide +kernel
theorem dX5_ifTested_6 : decode cX5_ifTested 6 = .ok (.ifCond .eq 15, 3) := by decide +kernel
theorem dX5_ifTested_9 : decode cX5_ifTested 9 = .ok (.aload_n 0, 1) := by decide +kernel
theorem dX5_ifTested_10 : decode cX5_ifTested 10 = .ok (.iload_n 2, 1) := by decide +kernel
theorem dX5_ifTested_11 : decode cX5_ifTested 11 = .ok (.invokevirtual 121, 3) := by decide +kernel
theorem dX5_ifTested_14 : decode cX5_ifTested 14 = .ok (.ifCond .eq 7, 3) := by decide +kernel
theorem dX5_ifTested_17 : decode cX5_ifTested 17 = .ok (.iconst 0, 1) := by decide +kernel
theorem dX5_ifTested_18 : decode cX5_ifTested 18 = .ok (.goto 4, 3) := by decide +kernel
theorem dX5_ifTested_21 : decode cX5_ifTested 21 = .ok (.iconst 1, 1) := by decide +kernel
theorem dX5_ifTested_22 : decode cX5_ifTested 22 = .ok (.invokevirtual 86, 3) := by decide +kernel
theorem dX5_ifTested_25 : decode cX5_ifTested 25 = .ok (.ifCond .eq 12, 3) := by decide +kernel
theorem dX5_ifTested_28 : decode cX5_ifTested 28 = .ok (.aload_n 0, 1) := by decide +kernel
theorem dX5_ifTested_29 : decode cX5_ifTested 29 = .ok (.iload_n 1, 1) := by decide +kernel
theorem dX5_ifTested_30 : decode cX5_ifTested 30 = .ok (.iload_n 2, 1) := by decide +kernel
theorem dX5_ifTested_31 : decode cX5_ifTested 31 = .ok (.invokevirtual 130, 3) := by decide +kernel
theorem dX5_ifTested_34 : decode cX5_ifTested 34 = .ok (.goto 4, 3) := by decide +kernel
theorem dX5_ifTested_37 : decode cX5_ifTested 37 = .ok (.iconst 0, 1) := by decide +kernel
theorem dX5_ifTested_38 : decode cX5_ifTested 38 = .ok (.ireturn, 1) := by decide +kernel
theorem dX5_goAlong_0 : decode cX5_goAlong 0 = .ok (.iconst 1, 1) := by decide +kernel
theorem dX5_goAlong_1 : decode cX5_goAlong 1 = .ok (.istore_n 2, 1) := by decide +kernel
theorem dX5_goAlong_2 : decode cX5_goAlong 2 = .ok (.iload_n 2, 1) := by decide +kernel
theorem dX5_goAlong_3 : decode cX5_goAlong 3 = .ok (.ifCond .eq 114, 3) := by decide +kernel
theorem dX5_goAlong_6 : decode cX5_goAlong 6 = .ok (.iconst 0, 1) := by decide +kernel
theorem dX5_goAlong_7 : decode cX5_goAlong 7 = .ok (.istore_n 2, 1) := by decide +kernel
theorem dX5_goAlong_8 : decode cX5_goAlong 8 = .ok (.iconst 0, 1) := by decide +kernel
theorem dX5_goAlong_9 : decode cX5_goAlong 9 = .ok (.istore_n 3, 1) := by decide +kernel
theorem dX5_goAlong_10 : decode cX5_goAlong 10 = .ok (.iload_n 3, 1) := by decide +kernel
theorem dX5_goAlong_11 : decode cX5_goAlong 11 = .ok (.aload_n 0, 1) := by decide +kernel
theorem dX5_goAlong_12 : decode cX5_goAlong 12 = .ok (.getfield 7, 3) := by decide +kernel
theorem dX5_goAlong_15 : decode cX5_goAlong 15 = .ok (.iconst 2, 1) := by decide +kernel
theorem dX5_goAlong_16 : decode cX5_goAlong 16 = .ok (.iaload, 1) := by decide +kernel
theorem dX5_goAlong_17 : decode cX5_goAlong 17 = .ok (.if_icmp .ge 97, 3) := by decide +kernel
theorem dX5_goAlong_20 : decode cX5_goAlong 20 = .ok (.iconst 0, 1) := by decide +kernel
theorem dX5_goAlong_21 : decode cX5_goAlong 21 = .ok (.istore 4, 2) := by decide +kernel
theorem dX5_goAlong_23 : decode cX5_goAlong 23 = .ok (.iload 4, 2) := by decide +kernel
theorem dX5_goAlong_25 : decode cX5_goAlong 25 = .ok (.bipush 16, 2) := by decide +kernel
theorem dX5_goAlong_27 : decode cX5_goAlong 27 = .ok (.if_icmp .ge 81, 3) := by decide +kernel
theorem dX5_goAlong_30 : decode cX5_goAlong 30 = .ok (.aload_n 0, 1) := by decide +kernel
theorem dX5_goAlong_31 : decode cX5_goAlong 31 = .ok (.getfield 37, 3) := by decide +kernel
theorem dX5_goAlong_34 : decode cX5_goAlong 34 = .ok (.iload_n 3, 1) := by decide +kernel
theorem dX5_goAlong_35 : decode cX5_goAlong 35 = .ok (.baload, 1) := by decide +kernel
theorem dX5_goAlong_36 : decode cX5_goAlong 36 = .ok (.ifCond .eq 72, 3) := by decide +kernel
theorem dX5_goAlong_39 : decode cX5_goAlong 39 = .ok (.aload_n 0, 1) := by decide +kernel
theorem dX5_goAlong_40 : decode cX5_goAlong 40 = .ok (.getfield 34, 3) := by decide +kernel
theorem dX5_goAlong_43 : decode cX5_goAlong 43 = .ok (.iload 4, 2) := by decide +kernel
theorem dX5_goAlong_45 : decode cX5_goAlong 45 = .ok (.iaload, 1) := by decide +kernel
theorem dX5_goAlong_46 : decode cX5_goAlong 46 = .ok (.iconst (-1), 1) := by decide +kernel
theorem dX5_goAlong_47 : decode cX5_goAlong 47 = .ok (.if_icmp .ne 55, 3) := by decide +kernel
theorem dX5_goAlong_50 : decode cX5_goAlong 50 = .ok (.aload_n 0, 1) := by decide +kernel
theorem dX5_goAlong_51 : decode cX5_goAlong 51 = .ok (.iload_n 3, 1) := by decide +kernel
theorem dX5_goAlong_52 : decode cX5_goAlong 52 = .ok (.bipush 16, 2) := by decide +kernel
theorem dX5_goAlong_54 : decode cX5_goAlong 54 = .ok (.iload_n 1, 1) := by decide +kernel
theorem dX5_goAlong_55 : decode cX5_goAlong 55 = .ok (.imul, 1) := by decide +kernel
theorem dX5_goAlong_56 : decode cX5_goAlong 56 = .ok (.iload 4, 2) := by decide +kernel
theorem dX5_goAlong_58 : decode cX5_goAlong 58 = .ok (.iadd, 1) := by decide +kernel
theorem dX5_goAlong_59 : decode cX5_goAlong 59 = .ok (.invokevirtual 73, 3) := by decide +kernel
theorem dX5_goAlong_62 : decode cX5_goAlong 62 = .ok (.ifCond .eq 40, 3) := by decide +kernel
theorem dX5_goAlong_65 : decode cX5_goAlong 65 = .ok (.aload_n 0, 1) := by decide +kernel
theorem dX5_goAlong_66 : decode cX5_goAlong 66 = .ok (.getfield 34, 3) := by decide +kernel
theorem dX5_goAlong_69 : decode cX5_goAlong 69 = .ok (.iload 4, 2) := by decide +kernel
theorem dX5_goAlong_71 : decode cX5_goAlong 71 = .ok (.iload_n 3, 1) := by decide +kernel
theorem dX5_goAlong_72 : decode cX5_goAlong 72 = .ok (.iastore, 1) := by decide +kernel
theorem dX5_goAlong_73 : decode cX5_goAlong 73 = .ok (.aload_n 0, 1) := by decide +kernel
theorem dX5_goAlong_74 : decode cX5_goAlong 74 = .ok (.getfield 28, 3) := by decide +kernel
theorem dX5_goAlong_77 : decode cX5_goAlong 77 = .ok (.iload 4, 2) := by decide +kernel
theorem dX5_goAlong_79 : decode cX5_goAlong 79 = .ok (.iaload, 1) := by decide +kernel
theorem dX5_goAlong_80 : decode cX5_goAlong 80 = .ok (.iconst (-1), 1) := by decide +kernel
theorem dX5_goAlong_81 : decode cX5_goAlong 81 = .ok (.if_icmp .ne 6, 3) := by decide +kernel
theorem dX5_goAlong_84 : decode cX5_goAlong 84 = .ok (.iload 4, 2) := by decide +kernel
theorem dX5_goAlong_86 : decode cX5_goAlong 86 = .ok (.ireturn, 1) := by decide +kernel
theorem dX5_goAlong_87 : decode cX5_goAlong 87 = .ok (.aload_n 0, 1) := by decide +kernel
theorem dX5_goAlong_88 : decode cX5_goAlong 88 = .ok (.getfield 37, 3) := by decide +kernel
theorem dX5_goAlong_91 : decode cX5_goAlong 91 = .ok (.aload_n 0, 1) := by decide +kernel
theorem dX5_goAlong_92 : decode cX5_goAlong 92 = .ok (.getfield 28, 3) := by decide +kernel
theorem dX5_goAlong_95 : decode cX5_goAlong 95 = .ok (.iload 4, 2) := by decide +kernel
theorem dX5_goAlong_97 : decode cX5_goAlong 97 = .ok (.iaload, 1) := by decide +kernel
theorem dX5_goAlong_98 : decode cX5_goAlong 98 = .ok (.iconst 1, 1) := by decide +kernel
theorem dX5_goAlong_99 : decode cX5_goAlong 99 = .ok (.bastore, 1) := by decide +kernel
theorem dX5_goAlong_100 : decode cX5_goAlong 100 = .ok (.iconst 1, 1) := by decide +kernel
theorem dX5_goAlong_101 : decode cX5_goAlong 101 = .ok (.istore_n 2, 1) := by decide +kernel
theorem dX5_goAlong_102 : decode cX5_goAlong 102 = .ok (.iinc 4 1, 3) := by decide +kernel
theorem dX5_goAlong_105 : decode cX5_goAlong 105 = .ok (.goto (-82), 3) := by decide +kernel
theorem dX5_goAlong_108 : decode cX5_goAlong 108 = .ok (.iinc 3 1, 3) := by decide +kernel
theorem dX5_goAlong_111 : decode cX5_goAlong 111 = .ok (.goto (-101), 3) := by decide +kernel
theorem dX5_goAlong_114 : decode cX5_goAlong 114 = .ok (.goto (-112), 3) := by decide +kernel
theorem dX5_goAlong_117 : decode cX5_goAlong 117 = .ok (.iconst (-1), 1) := by decide +kernel
theorem dX5_goAlong_118 : decode cX5_goAlong 118 = .ok (.ireturn, 1) := by decide +kernel
theorem dX5_could_0 : decode cX5_could 0 = .ok (.iconst 0, 1) := by decide +kernel
theorem dX5_could_1 : decode cX5_could 1 = .ok (.istore_n 2, 1) := by decide +kernel
theorem dX5_could_2 : decode cX5_could 2 = .ok (.iconst 0, 1) := by decide +kernel
theorem dX5_could_3 : decode cX5_could 3 = .ok (.istore_n 3, 1) := by decide +kernel
theorem dX5_could_4 : decode cX5_could 4 = .ok (.iload_n 3, 1) := by decide +kernel
theorem dX5_could_5 : decode cX5_could 5 = .ok (.bipush 16, 2) := by decide +kernel
theorem dX5_could_7 : decode cX5_could 7 = .ok (.if_icmp .ge 16, 3) := by decide +kernel
theorem dX5_could_10 : decode cX5_could 10 = .ok (.aload_n 0, 1) := by decide +kernel
theorem dX5_could_11 : decode cX5_could 11 = .ok (.getfield 28, 3) := by decide +kernel
theorem dX5_could_14 : decode cX5_could 14 = .ok (.iload_n 3, 1) := by decide +kernel
theorem dX5_could_15 : decode cX5_could 15 = .ok (.iconst (-1), 1) := by decide +kernel
theorem dX5_could_16 : decode cX5_could 16 = .ok (.iastore, 1) := by decide +kernel
theorem dX5_could_17 : decode cX5_could 17 = .ok (.iinc 3 1, 3) := by decide +kernel
theorem dX5_could_20 : decode cX5_could 20 = .ok (.goto (-16), 3) := by decide +kernel
theorem dX5_could_23 : decode cX5_could 23 = .ok (.iconst 0, 1) := by decide +kernel
theorem dX5_could_24 : decode cX5_could 24 = .ok (.istore_n 3, 1) := by decide +kernel
theorem dX5_could_25 : decode cX5_could 25 = .ok (.iload_n 3, 1) := by decide +kernel
theorem dX5_could_26 : decode cX5_could 26 = .ok (.bipush 12, 2) := by decide +kernel
theorem dX5_could_28 : decode cX5_could 28 = .ok (.if_icmp .ge 16, 3) := by decide +kernel
theorem dX5_could_31 : decode cX5_could 31 = .ok (.aload_n 0, 1) := by decide +kernel
theorem dX5_could_32 : decode cX5_could 32 = .ok (.getfield 31, 3) := by decide +kernel
theorem dX5_could_35 : decode cX5_could 35 = .ok (.iload_n 3, 1) := by decide +kernel
theorem dX5_could_36 : decode cX5_could 36 = .ok (.iconst (-1), 1) := by decide +kernel
theorem dX5_could_37 : decode cX5_could 37 = .ok (.iastore, 1) := by decide +kernel
end
section
theorem dX5_could_38 : decode cX5_could 38 = .ok (.iinc 3 1, 3) := by decide +kernel
theorem dX5_could_41 : decode cX5_could 41 = .ok (.goto (-16), 3) := by decide +kernel
theorem dX5_could_44 : decode cX5_could 44 = .ok (.iconst 1, 1) := by decide +kernel
theorem dX5_could_45 : decode cX5_could 45 = .ok (.istore_n 3, 1) := by decide +kernel
theorem dX5_could_46 : decode cX5_could 46 = .ok (.iload_n 3, 1) := by decide +kernel
theorem dX5_could_47 : decode cX5_could 47 = .ok (.ifCond .eq 168, 3) := by decide +kernel
theorem dX5_could_50 : decode cX5_could 50 = .ok (.iconst 0, 1) := by decide +kernel
theorem dX5_could_51 : decode cX5_could 51 = .ok (.istore 4, 2) := by decide +kernel
theorem dX5_could_53 : decode cX5_could 53 = .ok (.iload 4, 2) := by decide +kernel
theorem dX5_could_55 : decode cX5_could 55 = .ok (.bipush 16, 2) := by decide +kernel
theorem dX5_could_57 : decode cX5_could 57 = .ok (.if_icmp .ge 17, 3) := by decide +kernel
theorem dX5_could_60 : decode cX5_could 60 = .ok (.aload_n 0, 1) := by decide +kernel
theorem dX5_could_61 : decode cX5_could 61 = .ok (.getfield 34, 3) := by decide +kernel
theorem dX5_could_64 : decode cX5_could 64 = .ok (.iload 4, 2) := by decide +kernel
theorem dX5_could_66 : decode cX5_could 66 = .ok (.iconst (-1), 1) := by decide +kernel
theorem dX5_could_67 : decode cX5_could 67 = .ok (.iastore, 1) := by decide +kernel
theorem dX5_could_68 : decode cX5_could 68 = .ok (.iinc 4 1, 3) := by decide +kernel
theorem dX5_could_71 : decode cX5_could 71 = .ok (.goto (-18), 3) := by decide +kernel
theorem dX5_could_74 : decode cX5_could 74 = .ok (.iconst 0, 1) := by decide +kernel
theorem dX5_could_75 : decode cX5_could 75 = .ok (.istore 4, 2) := by decide +kernel
theorem dX5_could_77 : decode cX5_could 77 = .ok (.iload 4, 2) := by decide +kernel
theorem dX5_could_79 : decode cX5_could 79 = .ok (.aload_n 0, 1) := by decide +kernel
theorem dX5_could_80 : decode cX5_could 80 = .ok (.getfield 7, 3) := by decide +kernel
theorem dX5_could_83 : decode cX5_could 83 = .ok (.iconst 2, 1) := by decide +kernel
theorem dX5_could_84 : decode cX5_could 84 = .ok (.iaload, 1) := by decide +kernel
theorem dX5_could_85 : decode cX5_could 85 = .ok (.if_icmp .ge 47, 3) := by decide +kernel
theorem dX5_could_88 : decode cX5_could 88 = .ok (.aload_n 0, 1) := by decide +kernel
theorem dX5_could_89 : decode cX5_could 89 = .ok (.getfield 37, 3) := by decide +kernel
theorem dX5_could_92 : decode cX5_could 92 = .ok (.iload 4, 2) := by decide +kernel
theorem dX5_could_94 : decode cX5_could 94 = .ok (.aload_n 0, 1) := by decide +kernel
theorem dX5_could_95 : decode cX5_could 95 = .ok (.getfield 7, 3) := by decide +kernel
theorem dX5_could_98 : decode cX5_could 98 = .ok (.iload 4, 2) := by decide +kernel
theorem dX5_could_100 : decode cX5_could 100 = .ok (.iconst 0, 1) := by decide +kernel
theorem dX5_could_101 : decode cX5_could 101 = .ok (.invokestatic 69, 3) := by decide +kernel
theorem dX5_could_104 : decode cX5_could 104 = .ok (.iaload, 1) := by decide +kernel
theorem dX5_could_105 : decode cX5_could 105 = .ok (.iconst 2, 1) := by decide +kernel
theorem dX5_could_106 : decode cX5_could 106 = .ok (.if_icmp .ge 18, 3) := by decide +kernel
theorem dX5_could_109 : decode cX5_could 109 = .ok (.aload_n 0, 1) := by decide +kernel
theorem dX5_could_110 : decode cX5_could 110 = .ok (.getfield 31, 3) := by decide +kernel
theorem dX5_could_113 : decode cX5_could 113 = .ok (.iload 4, 2) := by decide +kernel
theorem dX5_could_115 : decode cX5_could 115 = .ok (.iaload, 1) := by decide +kernel
theorem dX5_could_116 : decode cX5_could 116 = .ok (.iconst (-1), 1) := by decide +kernel
theorem dX5_could_117 : decode cX5_could 117 = .ok (.if_icmp .ne 7, 3) := by decide +kernel
theorem dX5_could_120 : decode cX5_could 120 = .ok (.iconst 1, 1) := by decide +kernel
theorem dX5_could_121 : decode cX5_could 121 = .ok (.goto 4, 3) := by decide +kernel
theorem dX5_could_124 : decode cX5_could 124 = .ok (.iconst 0, 1) := by decide +kernel
theorem dX5_could_125 : decode cX5_could 125 = .ok (.bastore, 1) := by decide +kernel
theorem dX5_could_126 : decode cX5_could 126 = .ok (.iinc 4 1, 3) := by decide +kernel
theorem dX5_could_129 : decode cX5_could 129 = .ok (.goto (-52), 3) := by decide +kernel
theorem dX5_could_132 : decode cX5_could 132 = .ok (.aload_n 0, 1) := by decide +kernel
theorem dX5_could_133 : decode cX5_could 133 = .ok (.iload_n 1, 1) := by decide +kernel
theorem dX5_could_134 : decode cX5_could 134 = .ok (.invokevirtual 206, 3) := by decide +kernel
theorem dX5_could_137 : decode cX5_could 137 = .ok (.istore 4, 2) := by decide +kernel
theorem dX5_could_139 : decode cX5_could 139 = .ok (.iload 4, 2) := by decide +kernel
theorem dX5_could_141 : decode cX5_could 141 = .ok (.iconst (-1), 1) := by decide +kernel
theorem dX5_could_142 : decode cX5_could 142 = .ok (.if_icmp .eq 7, 3) := by decide +kernel
theorem dX5_could_145 : decode cX5_could 145 = .ok (.iconst 1, 1) := by decide +kernel
theorem dX5_could_146 : decode cX5_could 146 = .ok (.goto 4, 3) := by decide +kernel
theorem dX5_could_149 : decode cX5_could 149 = .ok (.iconst 0, 1) := by decide +kernel
theorem dX5_could_150 : decode cX5_could 150 = .ok (.istore_n 3, 1) := by decide +kernel
theorem dX5_could_151 : decode cX5_could 151 = .ok (.iload_n 2, 1) := by decide +kernel
theorem dX5_could_152 : decode cX5_could 152 = .ok (.iload_n 3, 1) := by decide +kernel
theorem dX5_could_153 : decode cX5_could 153 = .ok (.ifCond .eq 7, 3) := by decide +kernel
theorem dX5_could_156 : decode cX5_could 156 = .ok (.iconst 1, 1) := by decide +kernel
theorem dX5_could_157 : decode cX5_could 157 = .ok (.goto 4, 3) := by decide +kernel
theorem dX5_could_160 : decode cX5_could 160 = .ok (.iconst 0, 1) := by decide +kernel
theorem dX5_could_161 : decode cX5_could 161 = .ok (.iadd, 1) := by decide +kernel
theorem dX5_could_162 : decode cX5_could 162 = .ok (.istore_n 2, 1) := by decide +kernel
theorem dX5_could_163 : decode cX5_could 163 = .ok (.iload 4, 2) := by decide +kernel
theorem dX5_could_165 : decode cX5_could 165 = .ok (.iconst (-1), 1) := by decide +kernel
theorem dX5_could_166 : decode cX5_could 166 = .ok (.if_icmp .eq 46, 3) := by decide +kernel
theorem dX5_could_169 : decode cX5_could 169 = .ok (.aload_n 0, 1) := by decide +kernel
theorem dX5_could_170 : decode cX5_could 170 = .ok (.getfield 34, 3) := by decide +kernel
theorem dX5_could_173 : decode cX5_could 173 = .ok (.iload 4, 2) := by decide +kernel
theorem dX5_could_175 : decode cX5_could 175 = .ok (.iaload, 1) := by decide +kernel
theorem dX5_could_176 : decode cX5_could 176 = .ok (.istore 5, 2) := by decide +kernel
theorem dX5_could_178 : decode cX5_could 178 = .ok (.aload_n 0, 1) := by decide +kernel
theorem dX5_could_179 : decode cX5_could 179 = .ok (.getfield 31, 3) := by decide +kernel
theorem dX5_could_182 : decode cX5_could 182 = .ok (.iload 5, 2) := by decide +kernel
theorem dX5_could_184 : decode cX5_could 184 = .ok (.iaload, 1) := by decide +kernel
theorem dX5_could_185 : decode cX5_could 185 = .ok (.istore 6, 2) := by decide +kernel
theorem dX5_could_187 : decode cX5_could 187 = .ok (.aload_n 0, 1) := by decide +kernel
theorem dX5_could_188 : decode cX5_could 188 = .ok (.getfield 31, 3) := by decide +kernel
theorem dX5_could_191 : decode cX5_could 191 = .ok (.iload 5, 2) := by decide +kernel
theorem dX5_could_193 : decode cX5_could 193 = .ok (.iload 4, 2) := by decide +kernel
theorem dX5_could_195 : decode cX5_could 195 = .ok (.iastore, 1) := by decide +kernel
theorem dX5_could_196 : decode cX5_could 196 = .ok (.aload_n 0, 1) := by decide +kernel
theorem dX5_could_197 : decode cX5_could 197 = .ok (.getfield 28, 3) := by decide +kernel
theorem dX5_could_200 : decode cX5_could 200 = .ok (.iload 4, 2) := by decide +kernel
theorem dX5_could_202 : decode cX5_could 202 = .ok (.iload 5, 2) := by decide +kernel
theorem dX5_could_204 : decode cX5_could 204 = .ok (.iastore, 1) := by decide +kernel
theorem dX5_could_205 : decode cX5_could 205 = .ok (.iload 6, 2) := by decide +kernel
theorem dX5_could_207 : decode cX5_could 207 = .ok (.istore 4, 2) := by decide +kernel
theorem dX5_could_209 : decode cX5_could 209 = .ok (.goto (-46), 3) := by decide +kernel
theorem dX5_could_212 : decode cX5_could 212 = .ok (.goto (-166), 3) := by decide +kernel
theorem dX5_could_215 : decode cX5_could 215 = .ok (.iload_n 2, 1) := by decide +kernel
theorem dX5_could_216 : decode cX5_could 216 = .ok (.ireturn, 1) := by decide +kernel
theorem dX5_couldHave_0 : decode cX5_couldHave 0 = .ok (.aload_n 0, 1) := by decide +kernel
theorem dX5_couldHave_1 : decode cX5_couldHave 1 = .ok (.iload_n 1, 1) := by decide +kernel
theorem dX5_couldHave_2 : decode cX5_couldHave 2 = .ok (.iconst 0, 1) := by decide +kernel
theorem dX5_couldHave_3 : decode cX5_couldHave 3 = .ok (.bipush 9, 2) := by decide +kernel
theorem dX5_couldHave_5 : decode cX5_couldHave 5 = .ok (.invokestatic 45, 3) := by decide +kernel
theorem dX5_couldHave_8 : decode cX5_couldHave 8 = .ok (.ifCond .eq 7, 3) := by decide +kernel
theorem dX5_couldHave_11 : decode cX5_couldHave 11 = .ok (.iconst 0, 1) := by decide +kernel
theorem dX5_couldHave_12 : decode cX5_couldHave 12 = .ok (.goto 4, 3) := by decide +kernel
theorem dX5_couldHave_15 : decode cX5_couldHave 15 = .ok (.iconst 1, 1) := by decide +kernel
theorem dX5_couldHave_16 : decode cX5_couldHave 16 = .ok (.invokevirtual 86, 3) := by decide +kernel
theorem dX5_couldHave_19 : decode cX5_couldHave 19 = .ok (.ifCond .eq 11, 3) := by decide +kernel
theorem dX5_couldHave_22 : decode cX5_couldHave 22 = .ok (.aload_n 0, 1) := by decide +kernel
theorem dX5_couldHave_23 : decode cX5_couldHave 23 = .ok (.iload_n 1, 1) := by decide +kernel
theorem dX5_couldHave_24 : decode cX5_couldHave 24 = .ok (.invokevirtual 209, 3) := by decide +kernel
theorem dX5_couldHave_27 : decode cX5_couldHave 27 = .ok (.goto 4, 3) := by decide +kernel
theorem dX5_couldHave_30 : decode cX5_couldHave 30 = .ok (.iconst 0, 1) := by decide +kernel
theorem dX5_couldHave_31 : decode cX5_couldHave 31 = .ok (.ireturn, 1) := by decide +kernel
theorem dX5_share_0 : decode cX5_share 0 = .ok (.aload_n 0, 1) := by decide +kernel
theorem dX5_share_1 : decode cX5_share 1 = .ok (.iconst 0, 1) := by decide +kernel
theorem dX5_share_2 : decode cX5_share 2 = .ok (.invokevirtual 191, 3) := by decide +kernel
theorem dX5_share_5 : decode cX5_share 5 = .ok (.istore_n 1, 1) := by decide +kernel
theorem dX5_share_6 : decode cX5_share 6 = .ok (.iload_n 1, 1) := by decide +kernel
theorem dX5_share_7 : decode cX5_share 7 = .ok (.ifCond .ne 7, 3) := by decide +kernel
theorem dX5_share_10 : decode cX5_share 10 = .ok (.dconst 1, 1) := by decide +kernel
theorem dX5_share_11 : decode cX5_share 11 = .ok (.goto 12, 3) := by decide +kernel
theorem dX5_share_14 : decode cX5_share 14 = .ok (.aload_n 0, 1) := by decide +kernel
theorem dX5_share_15 : decode cX5_share 15 = .ok (.iconst 1, 1) := by decide +kernel
theorem dX5_share_16 : decode cX5_share 16 = .ok (.invokevirtual 191, 3) := by decide +kernel
theorem dX5_share_19 : decode cX5_share 19 = .ok (.i2d, 1) := by decide +kernel
theorem dX5_share_20 : decode cX5_share 20 = .ok (.iload_n 1, 1) := by decide +kernel
theorem dX5_share_21 : decode cX5_share 21 = .ok (.i2d, 1) := by decide +kernel
theorem dX5_share_22 : decode cX5_share 22 = .ok (.ddiv, 1) := by decide +kernel
theorem dX5_share_23 : decode cX5_share 23 = .ok (.dreturn, 1) := by decide +kernel
theorem dX5_passedShare_0 : decode cX5_passedShare 0 = .ok (.aload_n 0, 1) := by decide +kernel
theorem dX5_passedShare_1 : decode cX5_passedShare 1 = .ok (.iconst 0, 1) := by decide +kernel
theorem dX5_passedShare_2 : decode cX5_passedShare 2 = .ok (.putfield 41, 3) := by decide +kernel
theorem dX5_passedShare_5 : decode cX5_passedShare 5 = .ok (.aload_n 0, 1) := by decide +kernel
theorem dX5_passedShare_6 : decode cX5_passedShare 6 = .ok (.invokevirtual 212, 3) := by decide +kernel
theorem dX5_passedShare_9 : decode cX5_passedShare 9 = .ok (.dreturn, 1) := by decide +kernel
theorem dX5_bitsOfShare_0 : decode cX5_bitsOfShare 0 = .ok (.dload_n 0, 1) := by decide +kernel
theorem dX5_bitsOfShare_1 : decode cX5_bitsOfShare 1 = .ok (.dconst 0, 1) := by decide +kernel
theorem dX5_bitsOfShare_2 : decode cX5_bitsOfShare 2 = .ok (.dcmp .l, 1) := by decide +kernel
theorem dX5_bitsOfShare_3 : decode cX5_bitsOfShare 3 = .ok (.ifCond .ne 5, 3) := by decide +kernel
theorem dX5_bitsOfShare_6 : decode cX5_bitsOfShare 6 = .ok (.lconst 0, 1) := by decide +kernel
theorem dX5_bitsOfShare_7 : decode cX5_bitsOfShare 7 = .ok (.lreturn, 1) := by decide +kernel
theorem dX5_bitsOfShare_8 : decode cX5_bitsOfShare 8 = .ok (.ldc2_w 216, 3) := by decide +kernel
theorem dX5_bitsOfShare_11 : decode cX5_bitsOfShare 11 = .ok (.lstore_n 2, 1) := by decide +kernel
theorem dX5_bitsOfShare_12 : decode cX5_bitsOfShare 12 = .ok (.dload_n 0, 1) := by decide +kernel
theorem dX5_bitsOfShare_13 : decode cX5_bitsOfShare 13 = .ok (.dstore 4, 2) := by decide +kernel
theorem dX5_bitsOfShare_15 : decode cX5_bitsOfShare 15 = .ok (.dload 4, 2) := by decide +kernel
theorem dX5_bitsOfShare_17 : decode cX5_bitsOfShare 17 = .ok (.dconst 1, 1) := by decide +kernel
theorem dX5_bitsOfShare_18 : decode cX5_bitsOfShare 18 = .ok (.dcmp .g, 1) := by decide +kernel
theorem dX5_bitsOfShare_19 : decode cX5_bitsOfShare 19 = .ok (.ifCond .ge 18, 3) := by decide +kernel
theorem dX5_bitsOfShare_22 : decode cX5_bitsOfShare 22 = .ok (.dload 4, 2) := by decide +kernel
theorem dX5_bitsOfShare_24 : decode cX5_bitsOfShare 24 = .ok (.ldc2_w 218, 3) := by decide +kernel
theorem dX5_bitsOfShare_27 : decode cX5_bitsOfShare 27 = .ok (.dmul, 1) := by decide +kernel
theorem dX5_bitsOfShare_28 : decode cX5_bitsOfShare 28 = .ok (.dstore 4, 2) := by decide +kernel
theorem dX5_bitsOfShare_30 : decode cX5_bitsOfShare 30 = .ok (.lload_n 2, 1) := by decide +kernel
theorem dX5_bitsOfShare_31 : decode cX5_bitsOfShare 31 = .ok (.lconst 1, 1) := by decide +kernel
theorem dX5_bitsOfShare_32 : decode cX5_bitsOfShare 32 = .ok (.lsub, 1) := by decide +kernel
theorem dX5_bitsOfShare_33 : decode cX5_bitsOfShare 33 = .ok (.lstore_n 2, 1) := by decide +kernel
theorem dX5_bitsOfShare_34 : decode cX5_bitsOfShare 34 = .ok (.goto (-19), 3) := by decide +kernel
theorem dX5_bitsOfShare_37 : decode cX5_bitsOfShare 37 = .ok (.lload_n 2, 1) := by decide +kernel
theorem dX5_bitsOfShare_38 : decode cX5_bitsOfShare 38 = .ok (.ldc2_w 220, 3) := by decide +kernel
theorem dX5_bitsOfShare_41 : decode cX5_bitsOfShare 41 = .ok (.lmul, 1) := by decide +kernel
theorem dX5_bitsOfShare_42 : decode cX5_bitsOfShare 42 = .ok (.dload 4, 2) := by decide +kernel
theorem dX5_bitsOfShare_44 : decode cX5_bitsOfShare 44 = .ok (.dconst 1, 1) := by decide +kernel
theorem dX5_bitsOfShare_45 : decode cX5_bitsOfShare 45 = .ok (.dsub, 1) := by decide +kernel
theorem dX5_bitsOfShare_46 : decode cX5_bitsOfShare 46 = .ok (.ldc2_w 222, 3) := by decide +kernel
theorem dX5_bitsOfShare_49 : decode cX5_bitsOfShare 49 = .ok (.dmul, 1) := by decide +kernel
theorem dX5_bitsOfShare_50 : decode cX5_bitsOfShare 50 = .ok (.d2l, 1) := by decide +kernel
theorem dX5_bitsOfShare_51 : decode cX5_bitsOfShare 51 = .ok (.ladd, 1) := by decide +kernel
theorem dX5_bitsOfShare_52 : decode cX5_bitsOfShare 52 = .ok (.lreturn, 1) := by decide +kernel
theorem dX5_digestOne_0 : decode cX5_digestOne 0 = .ok (.aload_n 0, 1) := by decide +kernel
theorem dX5_digestOne_1 : decode cX5_digestOne 1 = .ok (.ldc2_w 224, 3) := by decide +kernel
theorem dX5_digestOne_4 : decode cX5_digestOne 4 = .ok (.aload_n 0, 1) := by decide +kernel
theorem dX5_digestOne_5 : decode cX5_digestOne 5 = .ok (.getfield 226, 3) := by decide +kernel
theorem dX5_digestOne_8 : decode cX5_digestOne 8 = .ok (.lmul, 1) := by decide +kernel
theorem dX5_digestOne_9 : decode cX5_digestOne 9 = .ok (.lload_n 1, 1) := by decide +kernel
theorem dX5_digestOne_10 : decode cX5_digestOne 10 = .ok (.ladd, 1) := by decide +kernel
theorem dX5_digestOne_11 : decode cX5_digestOne 11 = .ok (.putfield 226, 3) := by decide +kernel
theorem dX5_digestOne_14 : decode cX5_digestOne 14 = .ok (.return_, 1) := by decide +kernel
theorem dX5_digest_0 : decode cX5_digest 0 = .ok (.aload_n 0, 1) := by decide +kernel
theorem dX5_digest_1 : decode cX5_digest 1 = .ok (.iconst 0, 1) := by decide +kernel
theorem dX5_digest_2 : decode cX5_digest 2 = .ok (.putfield 41, 3) := by decide +kernel
theorem dX5_digest_5 : decode cX5_digest 5 = .ok (.aload_n 0, 1) := by decide +kernel
theorem dX5_digest_6 : decode cX5_digest 6 = .ok (.ldc2_w 230, 3) := by decide +kernel
theorem dX5_digest_9 : decode cX5_digest 9 = .ok (.putfield 226, 3) := by decide +kernel
theorem dX5_digest_12 : decode cX5_digest 12 = .ok (.iconst 0, 1) := by decide +kernel
theorem dX5_digest_13 : decode cX5_digest 13 = .ok (.istore_n 1, 1) := by decide +kernel
theorem dX5_digest_14 : decode cX5_digest 14 = .ok (.iload_n 1, 1) := by decide +kernel
theorem dX5_digest_15 : decode cX5_digest 15 = .ok (.bipush 15, 2) := by decide +kernel
theorem dX5_digest_17 : decode cX5_digest 17 = .ok (.if_icmp .ge 19, 3) := by decide +kernel
theorem dX5_digest_20 : decode cX5_digest 20 = .ok (.aload_n 0, 1) := by decide +kernel
theorem dX5_digest_21 : decode cX5_digest 21 = .ok (.aload_n 0, 1) := by decide +kernel
theorem dX5_digest_22 : decode cX5_digest 22 = .ok (.iload_n 1, 1) := by decide +kernel
theorem dX5_digest_23 : decode cX5_digest 23 = .ok (.invokevirtual 200, 3) := by decide +kernel
theorem dX5_digest_26 : decode cX5_digest 26 = .ok (.i2l, 1) := by decide +kernel
theorem dX5_digest_27 : decode cX5_digest 27 = .ok (.invokevirtual 232, 3) := by decide +kernel
theorem dX5_digest_30 : decode cX5_digest 30 = .ok (.iinc 1 1, 3) := by decide +kernel
theorem dX5_digest_33 : decode cX5_digest 33 = .ok (.goto (-19), 3) := by decide +kernel
theorem dX5_digest_36 : decode cX5_digest 36 = .ok (.iconst 0, 1) := by decide +kernel
theorem dX5_digest_37 : decode cX5_digest 37 = .ok (.istore_n 1, 1) := by decide +kernel
theorem dX5_digest_38 : decode cX5_digest 38 = .ok (.iload_n 1, 1) := by decide +kernel
theorem dX5_digest_39 : decode cX5_digest 39 = .ok (.iconst 4, 1) := by decide +kernel
theorem dX5_digest_40 : decode cX5_digest 40 = .ok (.if_icmp .ge 22, 3) := by decide +kernel
theorem dX5_digest_43 : decode cX5_digest 43 = .ok (.aload_n 0, 1) := by decide +kernel
theorem dX5_digest_44 : decode cX5_digest 44 = .ok (.aload_n 0, 1) := by decide +kernel
theorem dX5_digest_45 : decode cX5_digest 45 = .ok (.getfield 7, 3) := by decide +kernel
theorem dX5_digest_48 : decode cX5_digest 48 = .ok (.iconst 5, 1) := by decide +kernel
theorem dX5_digest_49 : decode cX5_digest 49 = .ok (.iload_n 1, 1) := by decide +kernel
theorem dX5_digest_50 : decode cX5_digest 50 = .ok (.iadd, 1) := by decide +kernel
theorem dX5_digest_51 : decode cX5_digest 51 = .ok (.iaload, 1) := by decide +kernel
theorem dX5_digest_52 : decode cX5_digest 52 = .ok (.i2l, 1) := by decide +kernel
theorem dX5_digest_53 : decode cX5_digest 53 = .ok (.invokevirtual 232, 3) := by decide +kernel
theorem dX5_digest_56 : decode cX5_digest 56 = .ok (.iinc 1 1, 3) := by decide +kernel
theorem dX5_digest_59 : decode cX5_digest 59 = .ok (.goto (-21), 3) := by decide +kernel
theorem dX5_digest_62 : decode cX5_digest 62 = .ok (.iconst 0, 1) := by decide +kernel
theorem dX5_digest_63 : decode cX5_digest 63 = .ok (.istore_n 1, 1) := by decide +kernel
theorem dX5_digest_64 : decode cX5_digest 64 = .ok (.iload_n 1, 1) := by decide +kernel
theorem dX5_digest_65 : decode cX5_digest 65 = .ok (.aload_n 0, 1) := by decide +kernel
theorem dX5_digest_66 : decode cX5_digest 66 = .ok (.getfield 7, 3) := by decide +kernel
theorem dX5_digest_69 : decode cX5_digest 69 = .ok (.iconst 2, 1) := by decide +kernel
theorem dX5_digest_70 : decode cX5_digest 70 = .ok (.iaload, 1) := by decide +kernel
theorem dX5_digest_71 : decode cX5_digest 71 = .ok (.if_icmp .ge 61, 3) := by decide +kernel
theorem dX5_digest_74 : decode cX5_digest 74 = .ok (.iconst 0, 1) := by decide +kernel
theorem dX5_digest_75 : decode cX5_digest 75 = .ok (.istore_n 2, 1) := by decide +kernel
theorem dX5_digest_76 : decode cX5_digest 76 = .ok (.iload_n 2, 1) := by decide +kernel
theorem dX5_digest_77 : decode cX5_digest 77 = .ok (.bipush 11, 2) := by decide +kernel
theorem dX5_digest_79 : decode cX5_digest 79 = .ok (.if_icmp .ge 20, 3) := by decide +kernel
theorem dX5_digest_82 : decode cX5_digest 82 = .ok (.aload_n 0, 1) := by decide +kernel
theorem dX5_digest_83 : decode cX5_digest 83 = .ok (.aload_n 0, 1) := by decide +kernel
theorem dX5_digest_84 : decode cX5_digest 84 = .ok (.iload_n 1, 1) := by decide +kernel
theorem dX5_digest_85 : decode cX5_digest 85 = .ok (.iload_n 2, 1) := by decide +kernel
theorem dX5_digest_86 : decode cX5_digest 86 = .ok (.invokevirtual 180, 3) := by decide +kernel
theorem dX5_digest_89 : decode cX5_digest 89 = .ok (.i2l, 1) := by decide +kernel
theorem dX5_digest_90 : decode cX5_digest 90 = .ok (.invokevirtual 232, 3) := by decide +kernel
theorem dX5_digest_93 : decode cX5_digest 93 = .ok (.iinc 2 1, 3) := by decide +kernel
theorem dX5_digest_96 : decode cX5_digest 96 = .ok (.goto (-20), 3) := by decide +kernel
theorem dX5_digest_99 : decode cX5_digest 99 = .ok (.iconst 0, 1) := by decide +kernel
theorem dX5_digest_100 : decode cX5_digest 100 = .ok (.istore_n 2, 1) := by decide +kernel
theorem dX5_digest_101 : decode cX5_digest 101 = .ok (.iload_n 2, 1) := by decide +kernel
theorem dX5_digest_102 : decode cX5_digest 102 = .ok (.iconst 3, 1) := by decide +kernel
theorem dX5_digest_103 : decode cX5_digest 103 = .ok (.if_icmp .ge 23, 3) := by decide +kernel
theorem dX5_digest_106 : decode cX5_digest 106 = .ok (.aload_n 0, 1) := by decide +kernel
theorem dX5_digest_107 : decode cX5_digest 107 = .ok (.aload_n 0, 1) := by decide +kernel
theorem dX5_digest_108 : decode cX5_digest 108 = .ok (.iload_n 1, 1) := by decide +kernel
theorem dX5_digest_109 : decode cX5_digest 109 = .ok (.invokevirtual 83, 3) := by decide +kernel
theorem dX5_digest_112 : decode cX5_digest 112 = .ok (.iload_n 2, 1) := by decide +kernel
theorem dX5_digest_113 : decode cX5_digest 113 = .ok (.invokestatic 178, 3) := by decide +kernel
theorem dX5_digest_116 : decode cX5_digest 116 = .ok (.i2l, 1) := by decide +kernel
theorem dX5_digest_117 : decode cX5_digest 117 = .ok (.invokevirtual 232, 3) := by decide +kernel
theorem dX5_digest_120 : decode cX5_digest 120 = .ok (.iinc 2 1, 3) := by decide +kernel
theorem dX5_digest_123 : decode cX5_digest 123 = .ok (.goto (-22), 3) := by decide +kernel
theorem dX5_digest_126 : decode cX5_digest 126 = .ok (.iinc 1 1, 3) := by decide +kernel
theorem dX5_digest_129 : decode cX5_digest 129 = .ok (.goto (-65), 3) := by decide +kernel
theorem dX5_digest_132 : decode cX5_digest 132 = .ok (.iconst 0, 1) := by decide +kernel
theorem dX5_digest_133 : decode cX5_digest 133 = .ok (.istore_n 1, 1) := by decide +kernel
theorem dX5_digest_134 : decode cX5_digest 134 = .ok (.iload_n 1, 1) := by decide +kernel
theorem dX5_digest_135 : decode cX5_digest 135 = .ok (.aload_n 0, 1) := by decide +kernel
theorem dX5_digest_136 : decode cX5_digest 136 = .ok (.getfield 7, 3) := by decide +kernel
theorem dX5_digest_139 : decode cX5_digest 139 = .ok (.iconst 1, 1) := by decide +kernel
theorem dX5_digest_140 : decode cX5_digest 140 = .ok (.iaload, 1) := by decide +kernel
theorem dX5_digest_141 : decode cX5_digest 141 = .ok (.if_icmp .ge 117, 3) := by decide +kernel
theorem dX5_digest_144 : decode cX5_digest 144 = .ok (.iconst 0, 1) := by decide +kernel
theorem dX5_digest_145 : decode cX5_digest 145 = .ok (.istore_n 2, 1) := by decide +kernel
theorem dX5_digest_146 : decode cX5_digest 146 = .ok (.iload_n 2, 1) := by decide +kernel
theorem dX5_digest_147 : decode cX5_digest 147 = .ok (.bipush 9, 2) := by decide +kernel
theorem dX5_digest_149 : decode cX5_digest 149 = .ok (.if_icmp .ge 20, 3) := by decide +kernel
theorem dX5_digest_152 : decode cX5_digest 152 = .ok (.aload_n 0, 1) := by decide +kernel
theorem dX5_digest_153 : decode cX5_digest 153 = .ok (.aload_n 0, 1) := by decide +kernel
theorem dX5_digest_154 : decode cX5_digest 154 = .ok (.iload_n 1, 1) := by decide +kernel
theorem dX5_digest_155 : decode cX5_digest 155 = .ok (.iload_n 2, 1) := by decide +kernel
theorem dX5_digest_156 : decode cX5_digest 156 = .ok (.invokevirtual 186, 3) := by decide +kernel
theorem dX5_digest_159 : decode cX5_digest 159 = .ok (.i2l, 1) := by decide +kernel
theorem dX5_digest_160 : decode cX5_digest 160 = .ok (.invokevirtual 232, 3) := by decide +kernel
theorem dX5_digest_163 : decode cX5_digest 163 = .ok (.iinc 2 1, 3) := by decide +kernel
theorem dX5_digest_166 : decode cX5_digest 166 = .ok (.goto (-20), 3) := by decide +kernel
theorem dX5_digest_169 : decode cX5_digest 169 = .ok (.iconst 0, 1) := by decide +kernel
theorem dX5_digest_170 : decode cX5_digest 170 = .ok (.istore_n 2, 1) := by decide +kernel
theorem dX5_digest_171 : decode cX5_digest 171 = .ok (.iload_n 2, 1) := by decide +kernel
theorem dX5_digest_172 : decode cX5_digest 172 = .ok (.bipush 40, 2) := by decide +kernel
theorem dX5_digest_174 : decode cX5_digest 174 = .ok (.if_icmp .ge 28, 3) := by decide +kernel
theorem dX5_digest_177 : decode cX5_digest 177 = .ok (.aload_n 0, 1) := by decide +kernel
theorem dX5_digest_178 : decode cX5_digest 178 = .ok (.aload_n 0, 1) := by decide +kernel
theorem dX5_digest_179 : decode cX5_digest 179 = .ok (.getfield 7, 3) := by decide +kernel
theorem dX5_digest_182 : decode cX5_digest 182 = .ok (.bipush 9, 2) := by decide +kernel
theorem dX5_digest_184 : decode cX5_digest 184 = .ok (.bipush 40, 2) := by decide +kernel
theorem dX5_digest_186 : decode cX5_digest 186 = .ok (.iload_n 1, 1) := by decide +kernel
theorem dX5_digest_187 : decode cX5_digest 187 = .ok (.imul, 1) := by decide +kernel
theorem dX5_digest_188 : decode cX5_digest 188 = .ok (.iadd, 1) := by decide +kernel
theorem dX5_digest_189 : decode cX5_digest 189 = .ok (.iload_n 2, 1) := by decide +kernel
theorem dX5_digest_190 : decode cX5_digest 190 = .ok (.iadd, 1) := by decide +kernel
theorem dX5_digest_191 : decode cX5_digest 191 = .ok (.iaload, 1) := by decide +kernel
theorem dX5_digest_192 : decode cX5_digest 192 = .ok (.i2l, 1) := by decide +kernel
theorem dX5_digest_193 : decode cX5_digest 193 = .ok (.invokevirtual 232, 3) := by decide +kernel
theorem dX5_digest_196 : decode cX5_digest 196 = .ok (.iinc 2 1, 3) := by decide +kernel
theorem dX5_digest_199 : decode cX5_digest 199 = .ok (.goto (-28), 3) := by decide +kernel
theorem dX5_digest_202 : decode cX5_digest 202 = .ok (.iconst 0, 1) := by decide +kernel
theorem dX5_digest_203 : decode cX5_digest 203 = .ok (.istore_n 2, 1) := by decide +kernel
theorem dX5_digest_204 : decode cX5_digest 204 = .ok (.iload_n 2, 1) := by decide +kernel
theorem dX5_digest_205 : decode cX5_digest 205 = .ok (.bipush 6, 2) := by decide +kernel
theorem dX5_digest_207 : decode cX5_digest 207 = .ok (.if_icmp .ge 25, 3) := by decide +kernel
theorem dX5_digest_210 : decode cX5_digest 210 = .ok (.aload_n 0, 1) := by decide +kernel
theorem dX5_digest_211 : decode cX5_digest 211 = .ok (.aload_n 0, 1) := by decide +kernel
theorem dX5_digest_212 : decode cX5_digest 212 = .ok (.iload_n 1, 1) := by decide +kernel
theorem dX5_digest_213 : decode cX5_digest 213 = .ok (.iload_n 2, 1) := by decide +kernel
theorem dX5_digest_214 : decode cX5_digest 214 = .ok (.iconst 3, 1) := by decide +kernel
theorem dX5_digest_215 : decode cX5_digest 215 = .ok (.idiv, 1) := by decide +kernel
theorem dX5_digest_216 : decode cX5_digest 216 = .ok (.iload_n 2, 1) := by decide +kernel
theorem dX5_digest_217 : decode cX5_digest 217 = .ok (.iconst 3, 1) := by decide +kernel
theorem dX5_digest_218 : decode cX5_digest 218 = .ok (.irem, 1) := by decide +kernel
theorem dX5_digest_219 : decode cX5_digest 219 = .ok (.invokevirtual 203, 3) := by decide +kernel
theorem dX5_digest_222 : decode cX5_digest 222 = .ok (.i2l, 1) := by decide +kernel
theorem dX5_digest_223 : decode cX5_digest 223 = .ok (.invokevirtual 232, 3) := by decide +kernel
theorem dX5_digest_226 : decode cX5_digest 226 = .ok (.iinc 2 1, 3) := by decide +kernel
theorem dX5_digest_229 : decode cX5_digest 229 = .ok (.goto (-25), 3) := by decide +kernel
theorem dX5_digest_232 : decode cX5_digest 232 = .ok (.aload_n 0, 1) := by decide +kernel
theorem dX5_digest_233 : decode cX5_digest 233 = .ok (.getfield 7, 3) := by decide +kernel
theorem dX5_digest_236 : decode cX5_digest 236 = .ok (.iconst 2, 1) := by decide +kernel
theorem dX5_digest_237 : decode cX5_digest 237 = .ok (.iaload, 1) := by decide +kernel
theorem dX5_digest_238 : decode cX5_digest 238 = .ok (.ifCond .le 14, 3) := by decide +kernel
theorem dX5_digest_241 : decode cX5_digest 241 = .ok (.aload_n 0, 1) := by decide +kernel
theorem dX5_digest_242 : decode cX5_digest 242 = .ok (.aload_n 0, 1) := by decide +kernel
theorem dX5_digest_243 : decode cX5_digest 243 = .ok (.iconst 0, 1) := by decide +kernel
theorem dX5_digest_244 : decode cX5_digest 244 = .ok (.iload_n 1, 1) := by decide +kernel
theorem dX5_digest_245 : decode cX5_digest 245 = .ok (.invokevirtual 130, 3) := by decide +kernel
theorem dX5_digest_248 : decode cX5_digest 248 = .ok (.i2l, 1) := by decide +kernel
theorem dX5_digest_249 : decode cX5_digest 249 = .ok (.invokevirtual 232, 3) := by decide +kernel
theorem dX5_digest_252 : decode cX5_digest 252 = .ok (.iinc 1 1, 3) := by decide +kernel
theorem dX5_digest_255 : decode cX5_digest 255 = .ok (.goto (-121), 3) := by decide +kernel
theorem dX5_digest_258 : decode cX5_digest 258 = .ok (.aload_n 0, 1) := by decide +kernel
theorem dX5_digest_259 : decode cX5_digest 259 = .ok (.aload_n 0, 1) := by decide +kernel
theorem dX5_digest_260 : decode cX5_digest 260 = .ok (.iconst 0, 1) := by decide +kernel
theorem dX5_digest_261 : decode cX5_digest 261 = .ok (.invokevirtual 209, 3) := by decide +kernel
theorem dX5_digest_264 : decode cX5_digest 264 = .ok (.i2l, 1) := by decide +kernel
theorem dX5_digest_265 : decode cX5_digest 265 = .ok (.invokevirtual 232, 3) := by decide +kernel
theorem dX5_digest_268 : decode cX5_digest 268 = .ok (.aload_n 0, 1) := by decide +kernel
theorem dX5_digest_269 : decode cX5_digest 269 = .ok (.aload_n 0, 1) := by decide +kernel
theorem dX5_digest_270 : decode cX5_digest 270 = .ok (.iconst 1, 1) := by decide +kernel
theorem dX5_digest_271 : decode cX5_digest 271 = .ok (.invokevirtual 209, 3) := by decide +kernel
theorem dX5_digest_274 : decode cX5_digest 274 = .ok (.i2l, 1) := by decide +kernel
theorem dX5_digest_275 : decode cX5_digest 275 = .ok (.invokevirtual 232, 3) := by decide +kernel
theorem dX5_digest_278 : decode cX5_digest 278 = .ok (.aload_n 0, 1) := by decide +kernel
theorem dX5_digest_279 : decode cX5_digest 279 = .ok (.aload_n 0, 1) := by decide +kernel
theorem dX5_digest_280 : decode cX5_digest 280 = .ok (.iconst 5, 1) := by decide +kernel
theorem dX5_digest_281 : decode cX5_digest 281 = .ok (.invokevirtual 209, 3) := by decide +kernel
theorem dX5_digest_284 : decode cX5_digest 284 = .ok (.i2l, 1) := by decide +kernel
theorem dX5_digest_285 : decode cX5_digest 285 = .ok (.invokevirtual 232, 3) := by decide +kernel
theorem dX5_digest_288 : decode cX5_digest 288 = .ok (.aload_n 0, 1) := by decide +kernel
theorem dX5_digest_289 : decode cX5_digest 289 = .ok (.aload_n 0, 1) := by decide +kernel
theorem dX5_digest_290 : decode cX5_digest 290 = .ok (.invokevirtual 212, 3) := by decide +kernel
theorem dX5_digest_293 : decode cX5_digest 293 = .ok (.invokestatic 236, 3) := by decide +kernel
theorem dX5_digest_296 : decode cX5_digest 296 = .ok (.invokevirtual 232, 3) := by decide +kernel
theorem dX5_digest_299 : decode cX5_digest 299 = .ok (.aload_n 0, 1) := by decide +kernel
theorem dX5_digest_300 : decode cX5_digest 300 = .ok (.aload_n 0, 1) := by decide +kernel
theorem dX5_digest_301 : decode cX5_digest 301 = .ok (.getfield 147, 3) := by decide +kernel
theorem dX5_digest_304 : decode cX5_digest 304 = .ok (.i2l, 1) := by decide +kernel
theorem dX5_digest_305 : decode cX5_digest 305 = .ok (.invokevirtual 232, 3) := by decide +kernel
theorem dX5_digest_308 : decode cX5_digest 308 = .ok (.iconst 0, 1) := by decide +kernel
theorem dX5_digest_309 : decode cX5_digest 309 = .ok (.istore_n 1, 1) := by decide +kernel
theorem dX5_digest_310 : decode cX5_digest 310 = .ok (.iload_n 1, 1) := by decide +kernel
theorem dX5_digest_311 : decode cX5_digest 311 = .ok (.aload_n 0, 1) := by decide +kernel
theorem dX5_digest_312 : decode cX5_digest 312 = .ok (.getfield 147, 3) := by decide +kernel
theorem dX5_digest_315 : decode cX5_digest 315 = .ok (.if_icmp .ge 20, 3) := by decide +kernel
theorem dX5_digest_318 : decode cX5_digest 318 = .ok (.aload_n 0, 1) := by decide +kernel
theorem dX5_digest_319 : decode cX5_digest 319 = .ok (.aload_n 0, 1) := by decide +kernel
theorem dX5_digest_320 : decode cX5_digest 320 = .ok (.getfield 19, 3) := by decide +kernel
theorem dX5_digest_323 : decode cX5_digest 323 = .ok (.iload_n 1, 1) := by decide +kernel
theorem dX5_digest_324 : decode cX5_digest 324 = .ok (.iaload, 1) := by decide +kernel
theorem dX5_digest_325 : decode cX5_digest 325 = .ok (.i2l, 1) := by decide +kernel
theorem dX5_digest_326 : decode cX5_digest 326 = .ok (.invokevirtual 232, 3) := by decide +kernel
theorem dX5_digest_329 : decode cX5_digest 329 = .ok (.iinc 1 1, 3) := by decide +kernel
theorem dX5_digest_332 : decode cX5_digest 332 = .ok (.goto (-22), 3) := by decide +kernel
theorem dX5_digest_335 : decode cX5_digest 335 = .ok (.aload_n 0, 1) := by decide +kernel
theorem dX5_digest_336 : decode cX5_digest 336 = .ok (.getfield 226, 3) := by decide +kernel
theorem dX5_digest_339 : decode cX5_digest 339 = .ok (.lreturn, 1) := by decide +kernel
theorem dJ9_min_7cf53_0 : decode cJ9_min_7cf53 0 = .ok (.iload_n 0, 1) := by decide +kernel
theorem dJ9_min_7cf53_1 : decode cJ9_min_7cf53 1 = .ok (.iload_n 1, 1) := by decide +kernel
theorem dJ9_min_7cf53_2 : decode cJ9_min_7cf53 2 = .ok (.if_icmp .gt 7, 3) := by decide +kernel
theorem dJ9_min_7cf53_5 : decode cJ9_min_7cf53 5 = .ok (.iload_n 0, 1) := by decide +kernel
theorem dJ9_min_7cf53_6 : decode cJ9_min_7cf53 6 = .ok (.goto 4, 3) := by decide +kernel
theorem dJ9_min_7cf53_9 : decode cJ9_min_7cf53 9 = .ok (.iload_n 1, 1) := by decide +kernel
theorem dJ9_min_7cf53_10 : decode cJ9_min_7cf53 10 = .ok (.ireturn, 1) := by decide +kernel
theorem dJ0_length_8abf5_0 : decode cJ0_length_8abf5 0 = .ok (.aload_n 0, 1) := by decide +kernel
theorem dJ0_length_8abf5_1 : decode cJ0_length_8abf5 1 = .ok (.getfield 9, 3) := by decide +kernel
theorem dJ0_length_8abf5_4 : decode cJ0_length_8abf5 4 = .ok (.arraylength, 1) := by decide +kernel
theorem dJ0_length_8abf5_5 : decode cJ0_length_8abf5 5 = .ok (.aload_n 0, 1) := by decide +kernel
theorem dJ0_length_8abf5_6 : decode cJ0_length_8abf5 6 = .ok (.invokevirtual 335, 3) := by decide +kernel
theorem dJ0_length_8abf5_9 : decode cJ0_length_8abf5 9 = .ok (.ishr, 1) := by decide +kernel
theorem dJ0_length_8abf5_10 : decode cJ0_length_8abf5 10 = .ok (.ireturn, 1) := by decide +kernel
theorem dJ0_charAt_5068e_0 : decode cJ0_charAt_5068e 0 = .ok (.aload_n 0, 1) := by decide +kernel
theorem dJ0_charAt_5068e_1 : decode cJ0_charAt_5068e 1 = .ok (.invokevirtual 492, 3) := by decide +kernel
theorem dJ0_charAt_5068e_4 : decode cJ0_charAt_5068e 4 = .ok (.ifCond .eq 12, 3) := by decide +kernel
theorem dJ0_charAt_5068e_7 : decode cJ0_charAt_5068e 7 = .ok (.aload_n 0, 1) := by decide +kernel
theorem dJ0_charAt_5068e_8 : decode cJ0_charAt_5068e 8 = .ok (.getfield 9, 3) := by decide +kernel
theorem dJ0_charAt_5068e_11 : decode cJ0_charAt_5068e 11 = .ok (.iload_n 1, 1) := by decide +kernel
theorem dJ0_charAt_5068e_12 : decode cJ0_charAt_5068e 12 = .ok (.invokestatic 495, 3) := by decide +kernel
theorem dJ0_charAt_5068e_15 : decode cJ0_charAt_5068e 15 = .ok (.ireturn, 1) := by decide +kernel
theorem dJ0_charAt_5068e_16 : decode cJ0_charAt_5068e 16 = .ok (.aload_n 0, 1) := by decide +kernel
theorem dJ0_charAt_5068e_17 : decode cJ0_charAt_5068e 17 = .ok (.getfield 9, 3) := by decide +kernel
theorem dJ0_charAt_5068e_20 : decode cJ0_charAt_5068e 20 = .ok (.iload_n 1, 1) := by decide +kernel
theorem dJ0_charAt_5068e_21 : decode cJ0_charAt_5068e 21 = .ok (.invokestatic 498, 3) := by decide +kernel
theorem dJ0_charAt_5068e_24 : decode cJ0_charAt_5068e 24 = .ok (.ireturn, 1) := by decide +kernel
theorem dJ0_coder_7d493_0 : decode cJ0_coder_7d493 0 = .ok (.getstatic 38, 3) := by decide +kernel
theorem dJ0_coder_7d493_3 : decode cJ0_coder_7d493 3 = .ok (.ifCond .eq 10, 3) := by decide +kernel
theorem dJ0_coder_7d493_6 : decode cJ0_coder_7d493 6 = .ok (.aload_n 0, 1) := by decide +kernel
theorem dJ0_coder_7d493_7 : decode cJ0_coder_7d493 7 = .ok (.getfield 15, 3) := by decide +kernel
theorem dJ0_coder_7d493_10 : decode cJ0_coder_7d493 10 = .ok (.goto 4, 3) := by decide +kernel
theorem dJ0_coder_7d493_13 : decode cJ0_coder_7d493 13 = .ok (.iconst 1, 1) := by decide +kernel
theorem dJ0_coder_7d493_14 : decode cJ0_coder_7d493 14 = .ok (.ireturn, 1) := by decide +kernel
theorem dJ0_isLatin1_aae02_0 : decode cJ0_isLatin1_aae02 0 = .ok (.getstatic 38, 3) := by decide +kernel
theorem dJ0_isLatin1_aae02_3 : decode cJ0_isLatin1_aae02 3 = .ok (.ifCond .eq 14, 3) := by decide +kernel
theorem dJ0_isLatin1_aae02_6 : decode cJ0_isLatin1_aae02 6 = .ok (.aload_n 0, 1) := by decide +kernel
theorem dJ0_isLatin1_aae02_7 : decode cJ0_isLatin1_aae02 7 = .ok (.getfield 15, 3) := by decide +kernel
theorem dJ0_isLatin1_aae02_10 : decode cJ0_isLatin1_aae02 10 = .ok (.ifCond .ne 7, 3) := by decide +kernel
theorem dJ0_isLatin1_aae02_13 : decode cJ0_isLatin1_aae02 13 = .ok (.iconst 1, 1) := by decide +kernel
theorem dJ0_isLatin1_aae02_14 : decode cJ0_isLatin1_aae02 14 = .ok (.goto 4, 3) := by decide +kernel
theorem dJ0_isLatin1_aae02_17 : decode cJ0_isLatin1_aae02 17 = .ok (.iconst 0, 1) := by decide +kernel
theorem dJ0_isLatin1_aae02_18 : decode cJ0_isLatin1_aae02 18 = .ok (.ireturn, 1) := by decide +kernel
theorem dJ0_checkIndex_df160_0 : decode cJ0_checkIndex_df160 0 = .ok (.iload_n 0, 1) := by decide +kernel
theorem dJ0_checkIndex_df160_1 : decode cJ0_checkIndex_df160 1 = .ok (.iload_n 1, 1) := by decide +kernel
theorem dJ0_checkIndex_df160_2 : decode cJ0_checkIndex_df160 2 = .ok (.getstatic 1053, 3) := by decide +kernel
theorem dJ0_checkIndex_df160_5 : decode cJ0_checkIndex_df160 5 = .ok (.invokestatic 1059, 3) := by decide +kernel
theorem dJ0_checkIndex_df160_8 : decode cJ0_checkIndex_df160 8 = .ok (.pop, 1) := by decide +kernel
theorem dJ0_checkIndex_df160_9 : decode cJ0_checkIndex_df160 9 = .ok (.return_, 1) := by decide +kernel
theorem dJ1_charAt_3b067_0 : decode cJ1_charAt_3b067 0 = .ok (.iload_n 1, 1) := by decide +kernel
theorem dJ1_charAt_3b067_1 : decode cJ1_charAt_3b067 1 = .ok (.aload_n 0, 1) := by decide +kernel
theorem dJ1_charAt_3b067_2 : decode cJ1_charAt_3b067 2 = .ok (.arraylength, 1) := by decide +kernel
theorem dJ1_charAt_3b067_3 : decode cJ1_charAt_3b067 3 = .ok (.invokestatic 9, 3) := by decide +kernel
theorem dJ1_charAt_3b067_6 : decode cJ1_charAt_3b067 6 = .ok (.aload_n 0, 1) := by decide +kernel
theorem dJ1_charAt_3b067_7 : decode cJ1_charAt_3b067 7 = .ok (.iload_n 1, 1) := by decide +kernel
theorem dJ1_charAt_3b067_8 : decode cJ1_charAt_3b067 8 = .ok (.baload, 1) := by decide +kernel
theorem dJ1_charAt_3b067_9 : decode cJ1_charAt_3b067 9 = .ok (.sipush 255, 3) := by decide +kernel
theorem dJ1_charAt_3b067_12 : decode cJ1_charAt_3b067 12 = .ok (.iand, 1) := by decide +kernel
theorem dJ1_charAt_3b067_13 : decode cJ1_charAt_3b067 13 = .ok (.i2c, 1) := by decide +kernel
theorem dJ1_charAt_3b067_14 : decode cJ1_charAt_3b067 14 = .ok (.ireturn, 1) := by decide +kernel
theorem dJ2_getChar_3b067_0 : decode cJ2_getChar_3b067 0 = .ok (.getstatic 44, 3) := by decide +kernel
theorem dJ2_getChar_3b067_3 : decode cJ2_getChar_3b067 3 = .ok (.ifCond .ne 25, 3) := by decide +kernel
theorem dJ2_getChar_3b067_6 : decode cJ2_getChar_3b067 6 = .ok (.iload_n 1, 1) := by decide +kernel
theorem dJ2_getChar_3b067_7 : decode cJ2_getChar_3b067 7 = .ok (.ifCond .lt 11, 3) := by decide +kernel
theorem dJ2_getChar_3b067_10 : decode cJ2_getChar_3b067 10 = .ok (.iload_n 1, 1) := by decide +kernel
theorem dJ2_getChar_3b067_11 : decode cJ2_getChar_3b067 11 = .ok (.aload_n 0, 1) := by decide +kernel
theorem dJ2_getChar_3b067_12 : decode cJ2_getChar_3b067 12 = .ok (.invokestatic 48, 3) := by decide +kernel
theorem dJ2_getChar_3b067_15 : decode cJ2_getChar_3b067 15 = .ok (.if_icmp .lt 13, 3) := by decide +kernel
theorem dJ2_getChar_3b067_18 : decode cJ2_getChar_3b067 18 = .ok (.new 52, 3) := by decide +kernel
theorem dJ2_getChar_3b067_21 : decode cJ2_getChar_3b067 21 = .ok (.dup, 1) := by decide +kernel
theorem dJ2_getChar_3b067_22 : decode cJ2_getChar_3b067 22 = .ok (.ldc 54, 2) := by decide +kernel
theorem dJ2_getChar_3b067_24 : decode cJ2_getChar_3b067 24 = .ok (.invokespecial 56, 3) := by decide +kernel
theorem dJ2_getChar_3b067_27 : decode cJ2_getChar_3b067 27 = .ok (.athrow, 1) := by decide +kernel
theorem dJ2_getChar_3b067_28 : decode cJ2_getChar_3b067 28 = .ok (.iload_n 1, 1) := by decide +kernel
theorem dJ2_getChar_3b067_29 : decode cJ2_getChar_3b067 29 = .ok (.iconst 1, 1) := by decide +kernel
theorem dJ2_getChar_3b067_30 : decode cJ2_getChar_3b067 30 = .ok (.ishl, 1) := by decide +kernel
theorem dJ2_getChar_3b067_31 : decode cJ2_getChar_3b067 31 = .ok (.istore_n 1, 1) := by decide +kernel
theorem dJ2_getChar_3b067_32 : decode cJ2_getChar_3b067 32 = .ok (.aload_n 0, 1) := by decide +kernel
theorem dJ2_getChar_3b067_33 : decode cJ2_getChar_3b067 33 = .ok (.iload_n 1, 1) := by decide +kernel
theorem dJ2_getChar_3b067_34 : decode cJ2_getChar_3b067 34 = .ok (.iinc 1 1, 3) := by decide +kernel
theorem dJ2_getChar_3b067_37 : decode cJ2_getChar_3b067 37 = .ok (.baload, 1) := by decide +kernel
theorem dJ2_getChar_3b067_38 : decode cJ2_getChar_3b067 38 = .ok (.sipush 255, 3) := by decide +kernel
theorem dJ2_getChar_3b067_41 : decode cJ2_getChar_3b067 41 = .ok (.iand, 1) := by decide +kernel
theorem dJ2_getChar_3b067_42 : decode cJ2_getChar_3b067 42 = .ok (.getstatic 59, 3) := by decide +kernel
theorem dJ2_getChar_3b067_45 : decode cJ2_getChar_3b067 45 = .ok (.ishl, 1) := by decide +kernel
theorem dJ2_getChar_3b067_46 : decode cJ2_getChar_3b067 46 = .ok (.aload_n 0, 1) := by decide +kernel
theorem dJ2_getChar_3b067_47 : decode cJ2_getChar_3b067 47 = .ok (.iload_n 1, 1) := by decide +kernel
theorem dJ2_getChar_3b067_48 : decode cJ2_getChar_3b067 48 = .ok (.baload, 1) := by decide +kernel
theorem dJ2_getChar_3b067_49 : decode cJ2_getChar_3b067 49 = .ok (.sipush 255, 3) := by decide +kernel
theorem dJ2_getChar_3b067_52 : decode cJ2_getChar_3b067 52 = .ok (.iand, 1) := by decide +kernel
theorem dJ2_getChar_3b067_53 : decode cJ2_getChar_3b067 53 = .ok (.getstatic 63, 3) := by decide +kernel
theorem dJ2_getChar_3b067_56 : decode cJ2_getChar_3b067 56 = .ok (.ishl, 1) := by decide +kernel
theorem dJ2_getChar_3b067_57 : decode cJ2_getChar_3b067 57 = .ok (.ior, 1) := by decide +kernel
theorem dJ2_getChar_3b067_58 : decode cJ2_getChar_3b067 58 = .ok (.i2c, 1) := by decide +kernel
theorem dJ2_getChar_3b067_59 : decode cJ2_getChar_3b067 59 = .ok (.ireturn, 1) := by decide +kernel
theorem dJ2_length_9d52b_0 : decode cJ2_length_9d52b 0 = .ok (.aload_n 0, 1) := by decide +kernel
theorem dJ2_length_9d52b_1 : decode cJ2_length_9d52b 1 = .ok (.arraylength, 1) := by decide +kernel
theorem dJ2_length_9d52b_2 : decode cJ2_length_9d52b 2 = .ok (.iconst 1, 1) := by decide +kernel
theorem dJ2_length_9d52b_3 : decode cJ2_length_9d52b 3 = .ok (.ishr, 1) := by decide +kernel
theorem dJ2_length_9d52b_4 : decode cJ2_length_9d52b 4 = .ok (.ireturn, 1) := by decide +kernel
theorem dJ2_charAt_3b067_0 : decode cJ2_charAt_3b067 0 = .ok (.iload_n 1, 1) := by decide +kernel
theorem dJ2_charAt_3b067_1 : decode cJ2_charAt_3b067 1 = .ok (.aload_n 0, 1) := by decide +kernel
theorem dJ2_charAt_3b067_2 : decode cJ2_charAt_3b067 2 = .ok (.invokestatic 67, 3) := by decide +kernel
theorem dJ2_charAt_3b067_5 : decode cJ2_charAt_3b067 5 = .ok (.aload_n 0, 1) := by decide +kernel
theorem dJ2_charAt_3b067_6 : decode cJ2_charAt_3b067 6 = .ok (.iload_n 1, 1) := by decide +kernel
theorem dJ2_charAt_3b067_7 : decode cJ2_charAt_3b067 7 = .ok (.invokestatic 71, 3) := by decide +kernel
theorem dJ2_charAt_3b067_10 : decode cJ2_charAt_3b067 10 = .ok (.ireturn, 1) := by decide +kernel
theorem dJ2_checkIndex_2214a_0 : decode cJ2_checkIndex_2214a 0 = .ok (.iload_n 0, 1) := by decide +kernel
theorem dJ2_checkIndex_2214a_1 : decode cJ2_checkIndex_2214a 1 = .ok (.aload_n 1, 1) := by decide +kernel
theorem dJ2_checkIndex_2214a_2 : decode cJ2_checkIndex_2214a 2 = .ok (.invokestatic 48, 3) := by decide +kernel
theorem dJ2_checkIndex_2214a_5 : decode cJ2_checkIndex_2214a 5 = .ok (.invokestatic 414, 3) := by decide +kernel
theorem dJ2_checkIndex_2214a_8 : decode cJ2_checkIndex_2214a 8 = .ok (.return_, 1) := by decide +kernel
theorem dJ7_fill_53178_0 : decode cJ7_fill_53178 0 = .ok (.iconst 0, 1) := by decide +kernel
theorem dJ7_fill_53178_1 : decode cJ7_fill_53178 1 = .ok (.istore_n 2, 1) := by decide +kernel
theorem dJ7_fill_53178_2 : decode cJ7_fill_53178 2 = .ok (.aload_n 0, 1) := by decide +kernel
theorem dJ7_fill_53178_3 : decode cJ7_fill_53178 3 = .ok (.arraylength, 1) := by decide +kernel
theorem dJ7_fill_53178_4 : decode cJ7_fill_53178 4 = .ok (.istore_n 3, 1) := by decide +kernel
theorem dJ7_fill_53178_5 : decode cJ7_fill_53178 5 = .ok (.iload_n 2, 1) := by decide +kernel
theorem dJ7_fill_53178_6 : decode cJ7_fill_53178 6 = .ok (.iload_n 3, 1) := by decide +kernel
theorem dJ7_fill_53178_7 : decode cJ7_fill_53178 7 = .ok (.if_icmp .ge 13, 3) := by decide +kernel
theorem dJ7_fill_53178_10 : decode cJ7_fill_53178 10 = .ok (.aload_n 0, 1) := by decide +kernel
theorem dJ7_fill_53178_11 : decode cJ7_fill_53178 11 = .ok (.iload_n 2, 1) := by decide +kernel
theorem dJ7_fill_53178_12 : decode cJ7_fill_53178 12 = .ok (.iload_n 1, 1) := by decide +kernel
theorem dJ7_fill_53178_13 : decode cJ7_fill_53178 13 = .ok (.iastore, 1) := by decide +kernel
theorem dJ7_fill_53178_14 : decode cJ7_fill_53178 14 = .ok (.iinc 2 1, 3) := by decide +kernel
theorem dJ7_fill_53178_17 : decode cJ7_fill_53178 17 = .ok (.goto (-12), 3) := by decide +kernel
theorem dJ7_fill_53178_20 : decode cJ7_fill_53178 20 = .ok (.return_, 1) := by decide +kernel
theorem dJ3_checkIndex_8e157_0 : decode cJ3_checkIndex_8e157 0 = .ok (.iload_n 0, 1) := by decide +kernel
theorem dJ3_checkIndex_8e157_1 : decode cJ3_checkIndex_8e157 1 = .ok (.ifCond .lt 8, 3) := by decide +kernel
theorem dJ3_checkIndex_8e157_4 : decode cJ3_checkIndex_8e157 4 = .ok (.iload_n 0, 1) := by decide +kernel
theorem dJ3_checkIndex_8e157_5 : decode cJ3_checkIndex_8e157 5 = .ok (.iload_n 1, 1) := by decide +kernel
theorem dJ3_checkIndex_8e157_6 : decode cJ3_checkIndex_8e157 6 = .ok (.if_icmp .lt 10, 3) := by decide +kernel
theorem dJ3_checkIndex_8e157_9 : decode cJ3_checkIndex_8e157 9 = .ok (.aload_n 2, 1) := by decide +kernel
theorem dJ3_checkIndex_8e157_10 : decode cJ3_checkIndex_8e157 10 = .ok (.iload_n 0, 1) := by decide +kernel
theorem dJ3_checkIndex_8e157_11 : decode cJ3_checkIndex_8e157 11 = .ok (.iload_n 1, 1) := by decide +kernel
theorem dJ3_checkIndex_8e157_12 : decode cJ3_checkIndex_8e157 12 = .ok (.invokestatic 95, 3) := by decide +kernel
theorem dJ3_checkIndex_8e157_15 : decode cJ3_checkIndex_8e157 15 = .ok (.athrow, 1) := by decide +kernel
theorem dJ3_checkIndex_8e157_16 : decode cJ3_checkIndex_8e157 16 = .ok (.iload_n 0, 1) := by decide +kernel
theorem dJ3_checkIndex_8e157_17 : decode cJ3_checkIndex_8e157 17 = .ok (.ireturn, 1) := by decide +kernel
theorem dL_addExaminer_0 : decode cL_addExaminer 0 = .ok (.aload_n 1, 1) := by decide +kernel
theorem dL_addExaminer_1 : decode cL_addExaminer 1 = .ok (.iconst 0, 1) := by decide +kernel
theorem dL_addExaminer_2 : decode cL_addExaminer 2 = .ok (.aload_n 0, 1) := by decide +kernel
theorem dL_addExaminer_3 : decode cL_addExaminer 3 = .ok (.invokevirtual 7, 3) := by decide +kernel
theorem dL_addExaminer_6 : decode cL_addExaminer 6 = .ok (.i2l, 1) := by decide +kernel
theorem dL_addExaminer_7 : decode cL_addExaminer 7 = .ok (.lastore, 1) := by decide +kernel
theorem dL_addExaminer_8 : decode cL_addExaminer 8 = .ok (.goto 6, 3) := by decide +kernel
theorem dL_addExaminer_11 : decode cL_addExaminer 11 = .ok (.astore_n 2, 1) := by decide +kernel
theorem dL_addExaminer_12 : decode cL_addExaminer 12 = .ok (.iconst 1, 1) := by decide +kernel
theorem dL_addExaminer_13 : decode cL_addExaminer 13 = .ok (.ireturn, 1) := by decide +kernel
theorem dL_addExaminer_14 : decode cL_addExaminer 14 = .ok (.iconst 0, 1) := by decide +kernel
theorem dL_addExaminer_15 : decode cL_addExaminer 15 = .ok (.ireturn, 1) := by decide +kernel
theorem dL_addPupil_0 : decode cL_addPupil 0 = .ok (.aload_n 1, 1) := by decide +kernel
theorem dL_addPupil_1 : decode cL_addPupil 1 = .ok (.iconst 0, 1) := by decide +kernel
theorem dL_addPupil_2 : decode cL_addPupil 2 = .ok (.aload_n 0, 1) := by decide +kernel
theorem dL_addPupil_3 : decode cL_addPupil 3 = .ok (.invokevirtual 15, 3) := by decide +kernel
theorem dL_addPupil_6 : decode cL_addPupil 6 = .ok (.i2l, 1) := by decide +kernel
theorem dL_addPupil_7 : decode cL_addPupil 7 = .ok (.lastore, 1) := by decide +kernel
theorem dL_addPupil_8 : decode cL_addPupil 8 = .ok (.goto 6, 3) := by decide +kernel
theorem dL_addPupil_11 : decode cL_addPupil 11 = .ok (.astore_n 2, 1) := by decide +kernel
theorem dL_addPupil_12 : decode cL_addPupil 12 = .ok (.iconst 1, 1) := by decide +kernel
theorem dL_addPupil_13 : decode cL_addPupil 13 = .ok (.ireturn, 1) := by decide +kernel
theorem dL_addPupil_14 : decode cL_addPupil 14 = .ok (.iconst 0, 1) := by decide +kernel
theorem dL_addPupil_15 : decode cL_addPupil 15 = .ok (.ireturn, 1) := by decide +kernel
theorem dL_ask_0 : decode cL_ask 0 = .ok (.aload_n 2, 1) := by decide +kernel
theorem dL_ask_1 : decode cL_ask 1 = .ok (.iconst 0, 1) := by decide +kernel
theorem dL_ask_2 : decode cL_ask 2 = .ok (.aload_n 0, 1) := by decide +kernel
theorem dL_ask_3 : decode cL_ask 3 = .ok (.iload_n 1, 1) := by decide +kernel
theorem dL_ask_4 : decode cL_ask 4 = .ok (.invokevirtual 18, 3) := by decide +kernel
theorem dL_ask_7 : decode cL_ask 7 = .ok (.i2l, 1) := by decide +kernel
theorem dL_ask_8 : decode cL_ask 8 = .ok (.lastore, 1) := by decide +kernel
theorem dL_ask_9 : decode cL_ask 9 = .ok (.goto 9, 3) := by decide +kernel
theorem dL_ask_12 : decode cL_ask 12 = .ok (.astore_n 3, 1) := by decide +kernel
theorem dL_ask_13 : decode cL_ask 13 = .ok (.iconst 1, 1) := by decide +kernel
theorem dL_ask_14 : decode cL_ask 14 = .ok (.ireturn, 1) := by decide +kernel
theorem dL_ask_15 : decode cL_ask 15 = .ok (.astore_n 3, 1) := by decide +kernel
theorem dL_ask_16 : decode cL_ask 16 = .ok (.iconst 2, 1) := by decide +kernel
theorem dL_ask_17 : decode cL_ask 17 = .ok (.ireturn, 1) := by decide +kernel
theorem dL_ask_18 : decode cL_ask 18 = .ok (.iconst 0, 1) := by decide +kernel
theorem dL_ask_19 : decode cL_ask 19 = .ok (.ireturn, 1) := by decide +kernel
theorem dL_quit_0 : decode cL_quit 0 = .ok (.aload_n 2, 1) := by decide +kernel
theorem dL_quit_1 : decode cL_quit 1 = .ok (.iconst 0, 1) := by decide +kernel
theorem dL_quit_2 : decode cL_quit 2 = .ok (.aload_n 0, 1) := by decide +kernel
theorem dL_quit_3 : decode cL_quit 3 = .ok (.iload_n 1, 1) := by decide +kernel
theorem dL_quit_4 : decode cL_quit 4 = .ok (.invokevirtual 24, 3) := by decide +kernel
theorem dL_quit_7 : decode cL_quit 7 = .ok (.i2l, 1) := by decide +kernel
theorem dL_quit_8 : decode cL_quit 8 = .ok (.lastore, 1) := by decide +kernel
theorem dL_quit_9 : decode cL_quit 9 = .ok (.goto 9, 3) := by decide +kernel
theorem dL_quit_12 : decode cL_quit 12 = .ok (.astore_n 3, 1) := by decide +kernel
theorem dL_quit_13 : decode cL_quit 13 = .ok (.iconst 1, 1) := by decide +kernel
theorem dL_quit_14 : decode cL_quit 14 = .ok (.ireturn, 1) := by decide +kernel
theorem dL_quit_15 : decode cL_quit 15 = .ok (.astore_n 3, 1) := by decide +kernel
theorem dL_quit_16 : decode cL_quit 16 = .ok (.iconst 2, 1) := by decide +kernel
theorem dL_quit_17 : decode cL_quit 17 = .ok (.ireturn, 1) := by decide +kernel
theorem dL_quit_18 : decode cL_quit 18 = .ok (.iconst 0, 1) := by decide +kernel
theorem dL_quit_19 : decode cL_quit 19 = .ok (.ireturn, 1) := by decide +kernel
theorem dL_cancel_0 : decode cL_cancel 0 = .ok (.aload_n 3, 1) := by decide +kernel
theorem dL_cancel_1 : decode cL_cancel 1 = .ok (.iconst 0, 1) := by decide +kernel
theorem dL_cancel_2 : decode cL_cancel 2 = .ok (.aload_n 0, 1) := by decide +kernel
theorem dL_cancel_3 : decode cL_cancel 3 = .ok (.iload_n 1, 1) := by decide +kernel
theorem dL_cancel_4 : decode cL_cancel 4 = .ok (.iload_n 2, 1) := by decide +kernel
theorem dL_cancel_5 : decode cL_cancel 5 = .ok (.invokevirtual 27, 3) := by decide +kernel
theorem dL_cancel_8 : decode cL_cancel 8 = .ok (.i2l, 1) := by decide +kernel
theorem dL_cancel_9 : decode cL_cancel 9 = .ok (.lastore, 1) := by decide +kernel
theorem dL_cancel_10 : decode cL_cancel 10 = .ok (.goto 11, 3) := by decide +kernel
theorem dL_cancel_13 : decode cL_cancel 13 = .ok (.astore 4, 2) := by decide +kernel
theorem dL_cancel_15 : decode cL_cancel 15 = .ok (.iconst 1, 1) := by decide +kernel
theorem dL_cancel_16 : decode cL_cancel 16 = .ok (.ireturn, 1) := by decide +kernel
theorem dL_cancel_17 : decode cL_cancel 17 = .ok (.astore 4, 2) := by decide +kernel
theorem dL_cancel_19 : decode cL_cancel 19 = .ok (.iconst 2, 1) := by decide +kernel
theorem dL_cancel_20 : decode cL_cancel 20 = .ok (.ireturn, 1) := by decide +kernel
theorem dL_cancel_21 : decode cL_cancel 21 = .ok (.iconst 0, 1) := by decide +kernel
theorem dL_cancel_22 : decode cL_cancel 22 = .ok (.ireturn, 1) := by decide +kernel
theorem dL_test_0 : decode cL_test 0 = .ok (.aload_n 3, 1) := by decide +kernel
theorem dL_test_1 : decode cL_test 1 = .ok (.iconst 0, 1) := by decide +kernel
theorem dL_test_2 : decode cL_test 2 = .ok (.aload_n 0, 1) := by decide +kernel
theorem dL_test_3 : decode cL_test 3 = .ok (.iload_n 1, 1) := by decide +kernel
theorem dL_test_4 : decode cL_test 4 = .ok (.iload_n 2, 1) := by decide +kernel
theorem dL_test_5 : decode cL_test 5 = .ok (.invokevirtual 33, 3) := by decide +kernel
theorem dL_test_8 : decode cL_test 8 = .ok (.i2l, 1) := by decide +kernel
theorem dL_test_9 : decode cL_test 9 = .ok (.lastore, 1) := by decide +kernel
theorem dL_test_10 : decode cL_test 10 = .ok (.goto 11, 3) := by decide +kernel
theorem dL_test_13 : decode cL_test 13 = .ok (.astore 4, 2) := by decide +kernel
theorem dL_test_15 : decode cL_test 15 = .ok (.iconst 1, 1) := by decide +kernel
theorem dL_test_16 : decode cL_test 16 = .ok (.ireturn, 1) := by decide +kernel
theorem dL_test_17 : decode cL_test 17 = .ok (.astore 4, 2) := by decide +kernel
theorem dL_test_19 : decode cL_test 19 = .ok (.iconst 2, 1) := by decide +kernel
theorem dL_test_20 : decode cL_test 20 = .ok (.ireturn, 1) := by decide +kernel
theorem dL_test_21 : decode cL_test 21 = .ok (.iconst 0, 1) := by decide +kernel
theorem dL_test_22 : decode cL_test 22 = .ok (.ireturn, 1) := by decide +kernel
theorem dL_next_0 : decode cL_next 0 = .ok (.aload_n 1, 1) := by decide +kernel
theorem dL_next_1 : decode cL_next 1 = .ok (.iconst 0, 1) := by decide +kernel
theorem dL_next_2 : decode cL_next 2 = .ok (.aload_n 0, 1) := by decide +kernel
theorem dL_next_3 : decode cL_next 3 = .ok (.invokevirtual 37, 3) := by decide +kernel
theorem dL_next_6 : decode cL_next 6 = .ok (.i2l, 1) := by decide +kernel
theorem dL_next_7 : decode cL_next 7 = .ok (.lastore, 1) := by decide +kernel
theorem dL_next_8 : decode cL_next 8 = .ok (.goto 6, 3) := by decide +kernel
theorem dL_next_11 : decode cL_next 11 = .ok (.astore_n 2, 1) := by decide +kernel
theorem dL_next_12 : decode cL_next 12 = .ok (.iconst 1, 1) := by decide +kernel
theorem dL_next_13 : decode cL_next 13 = .ok (.ireturn, 1) := by decide +kernel
theorem dL_next_14 : decode cL_next 14 = .ok (.iconst 0, 1) := by decide +kernel
theorem dL_next_15 : decode cL_next 15 = .ok (.ireturn, 1) := by decide +kernel
theorem dL_set_0 : decode cL_set 0 = .ok (.aload_n 3, 1) := by decide +kernel
theorem dL_set_1 : decode cL_set 1 = .ok (.iconst 0, 1) := by decide +kernel
theorem dL_set_2 : decode cL_set 2 = .ok (.aload_n 0, 1) := by decide +kernel
theorem dL_set_3 : decode cL_set 3 = .ok (.iload_n 1, 1) := by decide +kernel
theorem dL_set_4 : decode cL_set 4 = .ok (.iload_n 2, 1) := by decide +kernel
theorem dL_set_5 : decode cL_set 5 = .ok (.invokevirtual 40, 3) := by decide +kernel
theorem dL_set_8 : decode cL_set 8 = .ok (.i2l, 1) := by decide +kernel
theorem dL_set_9 : decode cL_set 9 = .ok (.lastore, 1) := by decide +kernel
theorem dL_set_10 : decode cL_set 10 = .ok (.goto 11, 3) := by decide +kernel
theorem dL_set_13 : decode cL_set 13 = .ok (.astore 4, 2) := by decide +kernel
theorem dL_set_15 : decode cL_set 15 = .ok (.iconst 1, 1) := by decide +kernel
theorem dL_set_16 : decode cL_set 16 = .ok (.ireturn, 1) := by decide +kernel
theorem dL_set_17 : decode cL_set 17 = .ok (.astore 4, 2) := by decide +kernel
theorem dL_set_19 : decode cL_set 19 = .ok (.iconst 2, 1) := by decide +kernel
theorem dL_set_20 : decode cL_set 20 = .ok (.ireturn, 1) := by decide +kernel
theorem dL_set_21 : decode cL_set 21 = .ok (.iconst 0, 1) := by decide +kernel
theorem dL_set_22 : decode cL_set 22 = .ok (.ireturn, 1) := by decide +kernel
theorem dL_append_0 : decode cL_append 0 = .ok (.aload_n 2, 1) := by decide +kernel
theorem dL_append_1 : decode cL_append 1 = .ok (.iconst 0, 1) := by decide +kernel
theorem dL_append_2 : decode cL_append 2 = .ok (.aload_n 0, 1) := by decide +kernel
theorem dL_append_3 : decode cL_append 3 = .ok (.iload_n 1, 1) := by decide +kernel
theorem dL_append_4 : decode cL_append 4 = .ok (.invokevirtual 43, 3) := by decide +kernel
theorem dL_append_7 : decode cL_append 7 = .ok (.i2l, 1) := by decide +kernel
theorem dL_append_8 : decode cL_append 8 = .ok (.lastore, 1) := by decide +kernel
theorem dL_append_9 : decode cL_append 9 = .ok (.goto 9, 3) := by decide +kernel
theorem dL_append_12 : decode cL_append 12 = .ok (.astore_n 3, 1) := by decide +kernel
theorem dL_append_13 : decode cL_append 13 = .ok (.iconst 1, 1) := by decide +kernel
theorem dL_append_14 : decode cL_append 14 = .ok (.ireturn, 1) := by decide +kernel
theorem dL_append_15 : decode cL_append 15 = .ok (.astore_n 3, 1) := by decide +kernel
theorem dL_append_16 : decode cL_append 16 = .ok (.iconst 2, 1) := by decide +kernel
theorem dL_append_17 : decode cL_append 17 = .ok (.ireturn, 1) := by decide +kernel
theorem dL_append_18 : decode cL_append 18 = .ok (.iconst 0, 1) := by decide +kernel
theorem dL_append_19 : decode cL_append 19 = .ok (.ireturn, 1) := by decide +kernel
theorem dL_run_0 : decode cL_run 0 = .ok (.aload_n 1, 1) := by decide +kernel
theorem dL_run_1 : decode cL_run 1 = .ok (.iconst 0, 1) := by decide +kernel
theorem dL_run_2 : decode cL_run 2 = .ok (.aload_n 0, 1) := by decide +kernel
theorem dL_run_3 : decode cL_run 3 = .ok (.invokevirtual 46, 3) := by decide +kernel
theorem dL_run_6 : decode cL_run 6 = .ok (.i2l, 1) := by decide +kernel
theorem dL_run_7 : decode cL_run 7 = .ok (.lastore, 1) := by decide +kernel
theorem dL_run_8 : decode cL_run 8 = .ok (.goto 6, 3) := by decide +kernel
theorem dL_run_11 : decode cL_run 11 = .ok (.astore_n 2, 1) := by decide +kernel
theorem dL_run_12 : decode cL_run 12 = .ok (.iconst 1, 1) := by decide +kernel
theorem dL_run_13 : decode cL_run 13 = .ok (.ireturn, 1) := by decide +kernel
theorem dL_run_14 : decode cL_run 14 = .ok (.iconst 0, 1) := by decide +kernel
theorem dL_run_15 : decode cL_run 15 = .ok (.ireturn, 1) := by decide +kernel
theorem dL_undo_0 : decode cL_undo 0 = .ok (.aload_n 1, 1) := by decide +kernel
theorem dL_undo_1 : decode cL_undo 1 = .ok (.iconst 0, 1) := by decide +kernel
theorem dL_undo_2 : decode cL_undo 2 = .ok (.aload_n 0, 1) := by decide +kernel
theorem dL_undo_3 : decode cL_undo 3 = .ok (.invokevirtual 49, 3) := by decide +kernel
theorem dL_undo_6 : decode cL_undo 6 = .ok (.i2l, 1) := by decide +kernel
theorem dL_undo_7 : decode cL_undo 7 = .ok (.lastore, 1) := by decide +kernel
theorem dL_undo_8 : decode cL_undo 8 = .ok (.goto 6, 3) := by decide +kernel
theorem dL_undo_11 : decode cL_undo 11 = .ok (.astore_n 2, 1) := by decide +kernel
theorem dL_undo_12 : decode cL_undo 12 = .ok (.iconst 1, 1) := by decide +kernel
theorem dL_undo_13 : decode cL_undo 13 = .ok (.ireturn, 1) := by decide +kernel
theorem dL_undo_14 : decode cL_undo 14 = .ok (.iconst 0, 1) := by decide +kernel
theorem dL_undo_15 : decode cL_undo 15 = .ok (.ireturn, 1) := by decide +kernel
theorem dL_pupil_0 : decode cL_pupil 0 = .ok (.aload_n 3, 1) := by decide +kernel
theorem dL_pupil_1 : decode cL_pupil 1 = .ok (.iconst 0, 1) := by decide +kernel
theorem dL_pupil_2 : decode cL_pupil 2 = .ok (.aload_n 0, 1) := by decide +kernel
theorem dL_pupil_3 : decode cL_pupil 3 = .ok (.iload_n 1, 1) := by decide +kernel
theorem dL_pupil_4 : decode cL_pupil 4 = .ok (.iload_n 2, 1) := by decide +kernel
theorem dL_pupil_5 : decode cL_pupil 5 = .ok (.invokevirtual 52, 3) := by decide +kernel
theorem dL_pupil_8 : decode cL_pupil 8 = .ok (.i2l, 1) := by decide +kernel
theorem dL_pupil_9 : decode cL_pupil 9 = .ok (.lastore, 1) := by decide +kernel
theorem dL_pupil_10 : decode cL_pupil 10 = .ok (.goto 11, 3) := by decide +kernel
theorem dL_pupil_13 : decode cL_pupil 13 = .ok (.astore 4, 2) := by decide +kernel
theorem dL_pupil_15 : decode cL_pupil 15 = .ok (.iconst 1, 1) := by decide +kernel
theorem dL_pupil_16 : decode cL_pupil 16 = .ok (.ireturn, 1) := by decide +kernel
theorem dL_pupil_17 : decode cL_pupil 17 = .ok (.astore 4, 2) := by decide +kernel
theorem dL_pupil_19 : decode cL_pupil 19 = .ok (.iconst 2, 1) := by decide +kernel
theorem dL_pupil_20 : decode cL_pupil 20 = .ok (.ireturn, 1) := by decide +kernel
theorem dL_pupil_21 : decode cL_pupil 21 = .ok (.iconst 0, 1) := by decide +kernel
theorem dL_pupil_22 : decode cL_pupil 22 = .ok (.ireturn, 1) := by decide +kernel
theorem dL_examiner_0 : decode cL_examiner 0 = .ok (.aload_n 3, 1) := by decide +kernel
theorem dL_examiner_1 : decode cL_examiner 1 = .ok (.iconst 0, 1) := by decide +kernel
theorem dL_examiner_2 : decode cL_examiner 2 = .ok (.aload_n 0, 1) := by decide +kernel
theorem dL_examiner_3 : decode cL_examiner 3 = .ok (.iload_n 1, 1) := by decide +kernel
theorem dL_examiner_4 : decode cL_examiner 4 = .ok (.iload_n 2, 1) := by decide +kernel
theorem dL_examiner_5 : decode cL_examiner 5 = .ok (.invokevirtual 55, 3) := by decide +kernel
theorem dL_examiner_8 : decode cL_examiner 8 = .ok (.i2l, 1) := by decide +kernel
theorem dL_examiner_9 : decode cL_examiner 9 = .ok (.lastore, 1) := by decide +kernel
theorem dL_examiner_10 : decode cL_examiner 10 = .ok (.goto 11, 3) := by decide +kernel
theorem dL_examiner_13 : decode cL_examiner 13 = .ok (.astore 4, 2) := by decide +kernel
theorem dL_examiner_15 : decode cL_examiner 15 = .ok (.iconst 1, 1) := by decide +kernel
theorem dL_examiner_16 : decode cL_examiner 16 = .ok (.ireturn, 1) := by decide +kernel
theorem dL_examiner_17 : decode cL_examiner 17 = .ok (.astore 4, 2) := by decide +kernel
theorem dL_examiner_19 : decode cL_examiner 19 = .ok (.iconst 2, 1) := by decide +kernel
theorem dL_examiner_20 : decode cL_examiner 20 = .ok (.ireturn, 1) := by decide +kernel
theorem dL_examiner_21 : decode cL_examiner 21 = .ok (.iconst 0, 1) := by decide +kernel
theorem dL_examiner_22 : decode cL_examiner 22 = .ok (.ireturn, 1) := by decide +kernel
theorem dL_slot_0 : decode cL_slot 0 = .ok (.aload 4, 2) := by decide +kernel
theorem dL_slot_2 : decode cL_slot 2 = .ok (.iconst 0, 1) := by decide +kernel
theorem dL_slot_3 : decode cL_slot 3 = .ok (.aload_n 0, 1) := by decide +kernel
theorem dL_slot_4 : decode cL_slot 4 = .ok (.iload_n 1, 1) := by decide +kernel
theorem dL_slot_5 : decode cL_slot 5 = .ok (.iload_n 2, 1) := by decide +kernel
theorem dL_slot_6 : decode cL_slot 6 = .ok (.iload_n 3, 1) := by decide +kernel
theorem dL_slot_7 : decode cL_slot 7 = .ok (.invokevirtual 58, 3) := by decide +kernel
theorem dL_slot_10 : decode cL_slot 10 = .ok (.i2l, 1) := by decide +kernel
theorem dL_slot_11 : decode cL_slot 11 = .ok (.lastore, 1) := by decide +kernel
theorem dL_slot_12 : decode cL_slot 12 = .ok (.goto 11, 3) := by decide +kernel
theorem dL_slot_15 : decode cL_slot 15 = .ok (.astore 5, 2) := by decide +kernel
theorem dL_slot_17 : decode cL_slot 17 = .ok (.iconst 1, 1) := by decide +kernel
theorem dL_slot_18 : decode cL_slot 18 = .ok (.ireturn, 1) := by decide +kernel
theorem dL_slot_19 : decode cL_slot 19 = .ok (.astore 5, 2) := by decide +kernel
theorem dL_slot_21 : decode cL_slot 21 = .ok (.iconst 2, 1) := by decide +kernel
theorem dL_slot_22 : decode cL_slot 22 = .ok (.ireturn, 1) := by decide +kernel
theorem dL_slot_23 : decode cL_slot 23 = .ok (.iconst 0, 1) := by decide +kernel
theorem dL_slot_24 : decode cL_slot 24 = .ok (.ireturn, 1) := by decide +kernel
theorem dL_count_0 : decode cL_count 0 = .ok (.aload_n 2, 1) := by decide +kernel
theorem dL_count_1 : decode cL_count 1 = .ok (.iconst 0, 1) := by decide +kernel
theorem dL_count_2 : decode cL_count 2 = .ok (.aload_n 0, 1) := by decide +kernel
theorem dL_count_3 : decode cL_count 3 = .ok (.iload_n 1, 1) := by decide +kernel
theorem dL_count_4 : decode cL_count 4 = .ok (.invokevirtual 62, 3) := by decide +kernel
theorem dL_count_7 : decode cL_count 7 = .ok (.i2l, 1) := by decide +kernel
theorem dL_count_8 : decode cL_count 8 = .ok (.lastore, 1) := by decide +kernel
theorem dL_count_9 : decode cL_count 9 = .ok (.goto 6, 3) := by decide +kernel
theorem dL_count_12 : decode cL_count 12 = .ok (.astore_n 3, 1) := by decide +kernel
theorem dL_count_13 : decode cL_count 13 = .ok (.iconst 1, 1) := by decide +kernel
theorem dL_count_14 : decode cL_count 14 = .ok (.ireturn, 1) := by decide +kernel
theorem dL_count_15 : decode cL_count 15 = .ok (.iconst 0, 1) := by decide +kernel
theorem dL_count_16 : decode cL_count 16 = .ok (.ireturn, 1) := by decide +kernel
theorem dL_setting_0 : decode cL_setting 0 = .ok (.aload_n 2, 1) := by decide +kernel
theorem dL_setting_1 : decode cL_setting 1 = .ok (.iconst 0, 1) := by decide +kernel
theorem dL_setting_2 : decode cL_setting 2 = .ok (.aload_n 0, 1) := by decide +kernel
theorem dL_setting_3 : decode cL_setting 3 = .ok (.iload_n 1, 1) := by decide +kernel
theorem dL_setting_4 : decode cL_setting 4 = .ok (.invokevirtual 65, 3) := by decide +kernel
theorem dL_setting_7 : decode cL_setting 7 = .ok (.i2l, 1) := by decide +kernel
theorem dL_setting_8 : decode cL_setting 8 = .ok (.lastore, 1) := by decide +kernel
theorem dL_setting_9 : decode cL_setting 9 = .ok (.goto 6, 3) := by decide +kernel
theorem dL_setting_12 : decode cL_setting 12 = .ok (.astore_n 3, 1) := by decide +kernel
theorem dL_setting_13 : decode cL_setting 13 = .ok (.iconst 1, 1) := by decide +kernel
theorem dL_setting_14 : decode cL_setting 14 = .ok (.ireturn, 1) := by decide +kernel
theorem dL_setting_15 : decode cL_setting 15 = .ok (.iconst 0, 1) := by decide +kernel
theorem dL_setting_16 : decode cL_setting 16 = .ok (.ireturn, 1) := by decide +kernel
theorem dL_earliest_0 : decode cL_earliest 0 = .ok (.aload_n 3, 1) := by decide +kernel
theorem dL_earliest_1 : decode cL_earliest 1 = .ok (.iconst 0, 1) := by decide +kernel
theorem dL_earliest_2 : decode cL_earliest 2 = .ok (.aload_n 0, 1) := by decide +kernel
theorem dL_earliest_3 : decode cL_earliest 3 = .ok (.iload_n 1, 1) := by decide +kernel
theorem dL_earliest_4 : decode cL_earliest 4 = .ok (.iload_n 2, 1) := by decide +kernel
theorem dL_earliest_5 : decode cL_earliest 5 = .ok (.invokevirtual 68, 3) := by decide +kernel
theorem dL_earliest_8 : decode cL_earliest 8 = .ok (.i2l, 1) := by decide +kernel
theorem dL_earliest_9 : decode cL_earliest 9 = .ok (.lastore, 1) := by decide +kernel
theorem dL_earliest_10 : decode cL_earliest 10 = .ok (.goto 11, 3) := by decide +kernel
theorem dL_earliest_13 : decode cL_earliest 13 = .ok (.astore 4, 2) := by decide +kernel
theorem dL_earliest_15 : decode cL_earliest 15 = .ok (.iconst 1, 1) := by decide +kernel
theorem dL_earliest_16 : decode cL_earliest 16 = .ok (.ireturn, 1) := by decide +kernel
theorem dL_earliest_17 : decode cL_earliest 17 = .ok (.astore 4, 2) := by decide +kernel
theorem dL_earliest_19 : decode cL_earliest 19 = .ok (.iconst 2, 1) := by decide +kernel
theorem dL_earliest_20 : decode cL_earliest 20 = .ok (.ireturn, 1) := by decide +kernel
theorem dL_earliest_21 : decode cL_earliest 21 = .ok (.iconst 0, 1) := by decide +kernel
theorem dL_earliest_22 : decode cL_earliest 22 = .ok (.ireturn, 1) := by decide +kernel
theorem dL_ifCancelled_0 : decode cL_ifCancelled 0 = .ok (.aload 4, 2) := by decide +kernel
theorem dL_ifCancelled_2 : decode cL_ifCancelled 2 = .ok (.iconst 0, 1) := by decide +kernel
theorem dL_ifCancelled_3 : decode cL_ifCancelled 3 = .ok (.aload_n 0, 1) := by decide +kernel
theorem dL_ifCancelled_4 : decode cL_ifCancelled 4 = .ok (.iload_n 1, 1) := by decide +kernel
theorem dL_ifCancelled_5 : decode cL_ifCancelled 5 = .ok (.iload_n 2, 1) := by decide +kernel
theorem dL_ifCancelled_6 : decode cL_ifCancelled 6 = .ok (.iload_n 3, 1) := by decide +kernel
theorem dL_ifCancelled_7 : decode cL_ifCancelled 7 = .ok (.invokevirtual 71, 3) := by decide +kernel
theorem dL_ifCancelled_10 : decode cL_ifCancelled 10 = .ok (.i2l, 1) := by decide +kernel
theorem dL_ifCancelled_11 : decode cL_ifCancelled 11 = .ok (.lastore, 1) := by decide +kernel
theorem dL_ifCancelled_12 : decode cL_ifCancelled 12 = .ok (.goto 11, 3) := by decide +kernel
theorem dL_ifCancelled_15 : decode cL_ifCancelled 15 = .ok (.astore 5, 2) := by decide +kernel
theorem dL_ifCancelled_17 : decode cL_ifCancelled 17 = .ok (.iconst 1, 1) := by decide +kernel
theorem dL_ifCancelled_18 : decode cL_ifCancelled 18 = .ok (.ireturn, 1) := by decide +kernel
theorem dL_ifCancelled_19 : decode cL_ifCancelled 19 = .ok (.astore 5, 2) := by decide +kernel
theorem dL_ifCancelled_21 : decode cL_ifCancelled 21 = .ok (.iconst 2, 1) := by decide +kernel
theorem dL_ifCancelled_22 : decode cL_ifCancelled 22 = .ok (.ireturn, 1) := by decide +kernel
theorem dL_ifCancelled_23 : decode cL_ifCancelled 23 = .ok (.iconst 0, 1) := by decide +kernel
theorem dL_ifCancelled_24 : decode cL_ifCancelled 24 = .ok (.ireturn, 1) := by decide +kernel
theorem dL_ifTested_0 : decode cL_ifTested 0 = .ok (.aload_n 3, 1) := by decide +kernel
theorem dL_ifTested_1 : decode cL_ifTested 1 = .ok (.iconst 0, 1) := by decide +kernel
theorem dL_ifTested_2 : decode cL_ifTested 2 = .ok (.aload_n 0, 1) := by decide +kernel
theorem dL_ifTested_3 : decode cL_ifTested 3 = .ok (.iload_n 1, 1) := by decide +kernel
theorem dL_ifTested_4 : decode cL_ifTested 4 = .ok (.iload_n 2, 1) := by decide +kernel
theorem dL_ifTested_5 : decode cL_ifTested 5 = .ok (.invokevirtual 74, 3) := by decide +kernel
theorem dL_ifTested_8 : decode cL_ifTested 8 = .ok (.i2l, 1) := by decide +kernel
theorem dL_ifTested_9 : decode cL_ifTested 9 = .ok (.lastore, 1) := by decide +kernel
theorem dL_ifTested_10 : decode cL_ifTested 10 = .ok (.goto 7, 3) := by decide +kernel
theorem dL_ifTested_13 : decode cL_ifTested 13 = .ok (.astore 4, 2) := by decide +kernel
theorem dL_ifTested_15 : decode cL_ifTested 15 = .ok (.iconst 1, 1) := by decide +kernel
theorem dL_ifTested_16 : decode cL_ifTested 16 = .ok (.ireturn, 1) := by decide +kernel
theorem dL_ifTested_17 : decode cL_ifTested 17 = .ok (.iconst 0, 1) := by decide +kernel
theorem dL_ifTested_18 : decode cL_ifTested 18 = .ok (.ireturn, 1) := by decide +kernel
theorem dL_couldHave_0 : decode cL_couldHave 0 = .ok (.aload_n 2, 1) := by decide +kernel
theorem dL_couldHave_1 : decode cL_couldHave 1 = .ok (.iconst 0, 1) := by decide +kernel
theorem dL_couldHave_2 : decode cL_couldHave 2 = .ok (.aload_n 0, 1) := by decide +kernel
theorem dL_couldHave_3 : decode cL_couldHave 3 = .ok (.iload_n 1, 1) := by decide +kernel
theorem dL_couldHave_4 : decode cL_couldHave 4 = .ok (.invokevirtual 77, 3) := by decide +kernel
theorem dL_couldHave_7 : decode cL_couldHave 7 = .ok (.i2l, 1) := by decide +kernel
theorem dL_couldHave_8 : decode cL_couldHave 8 = .ok (.lastore, 1) := by decide +kernel
theorem dL_couldHave_9 : decode cL_couldHave 9 = .ok (.goto 6, 3) := by decide +kernel
theorem dL_couldHave_12 : decode cL_couldHave 12 = .ok (.astore_n 3, 1) := by decide +kernel
theorem dL_couldHave_13 : decode cL_couldHave 13 = .ok (.iconst 1, 1) := by decide +kernel
theorem dL_couldHave_14 : decode cL_couldHave 14 = .ok (.ireturn, 1) := by decide +kernel
theorem dL_couldHave_15 : decode cL_couldHave 15 = .ok (.iconst 0, 1) := by decide +kernel
theorem dL_couldHave_16 : decode cL_couldHave 16 = .ok (.ireturn, 1) := by decide +kernel
theorem dL_law_0 : decode cL_law 0 = .ok (.new 8, 3) := by decide +kernel
theorem dL_law_3 : decode cL_law 3 = .ok (.dup, 1) := by decide +kernel
theorem dL_law_4 : decode cL_law 4 = .ok (.invokespecial 80, 3) := by decide +kernel
theorem dL_law_7 : decode cL_law 7 = .ok (.astore_n 1, 1) := by decide +kernel
theorem dL_law_8 : decode cL_law 8 = .ok (.new 81, 3) := by decide +kernel
theorem dL_law_11 : decode cL_law 11 = .ok (.dup, 1) := by decide +kernel
theorem dL_law_12 : decode cL_law 12 = .ok (.invokespecial 83, 3) := by decide +kernel
theorem dL_law_15 : decode cL_law 15 = .ok (.astore_n 2, 1) := by decide +kernel
theorem dL_law_16 : decode cL_law 16 = .ok (.iconst 1, 1) := by decide +kernel
theorem dL_law_17 : decode cL_law 17 = .ok (.newarray .long, 2) := by decide +kernel
theorem dL_law_19 : decode cL_law 19 = .ok (.astore_n 3, 1) := by decide +kernel
theorem dL_law_20 : decode cL_law 20 = .ok (.iconst 0, 1) := by decide +kernel
theorem dL_law_21 : decode cL_law 21 = .ok (.istore 4, 2) := by decide +kernel
theorem dL_law_23 : decode cL_law 23 = .ok (.iload 4, 2) := by decide +kernel
theorem dL_law_25 : decode cL_law 25 = .ok (.aload_n 0, 1) := by decide +kernel
theorem dL_law_26 : decode cL_law 26 = .ok (.arraylength, 1) := by decide +kernel
theorem dL_law_27 : decode cL_law 27 = .ok (.iconst 4, 1) := by decide +kernel
theorem dL_law_28 : decode cL_law 28 = .ok (.isub, 1) := by decide +kernel
theorem dL_law_29 : decode cL_law 29 = .ok (.if_icmp .gt 1414, 3) := by decide +kernel
theorem dL_law_32 : decode cL_law 32 = .ok (.aload_n 0, 1) := by decide +kernel
theorem dL_law_33 : decode cL_law 33 = .ok (.iload 4, 2) := by decide +kernel
theorem dL_law_35 : decode cL_law 35 = .ok (.iaload, 1) := by decide +kernel
theorem dL_law_36 : decode cL_law 36 = .ok (.bipush 31, 2) := by decide +kernel
theorem dL_law_38 : decode cL_law 38 = .ok (.iand, 1) := by decide +kernel
theorem dL_law_39 : decode cL_law 39 = .ok (.tableswitch 1398 0 23 #[109, 153, 197, 253, 309, 377, 461, 505, 573, 629, 642, 655, 699, 743, 811, 879, 959, 1015, 1071, 1139, 1219, 1287, 1343, 1384], 109) := by decide +kernel
theorem dL_law_148 : decode cL_law 148 = .ok (.aload_n 1, 1) := by decide +kernel
theorem dL_law_149 : decode cL_law 149 = .ok (.aload_n 3, 1) := by decide +kernel
theorem dL_law_150 : decode cL_law 150 = .ok (.invokestatic 84, 3) := by decide +kernel
theorem dL_law_153 : decode cL_law 153 = .ok (.istore 5, 2) := by decide +kernel
theorem dL_law_155 : decode cL_law 155 = .ok (.aload_n 2, 1) := by decide +kernel
theorem dL_law_156 : decode cL_law 156 = .ok (.invokevirtual 89, 3) := by decide +kernel
theorem dL_law_159 : decode cL_law 159 = .ok (.istore 6, 2) := by decide +kernel
theorem dL_law_161 : decode cL_law 161 = .ok (.aload_n 2, 1) := by decide +kernel
theorem dL_law_162 : decode cL_law 162 = .ok (.invokevirtual 90, 3) := by decide +kernel
theorem dL_law_165 : decode cL_law 165 = .ok (.iload 5, 2) := by decide +kernel
theorem dL_law_167 : decode cL_law 167 = .ok (.if_icmp .eq 5, 3) := by decide +kernel
theorem dL_law_170 : decode cL_law 170 = .ok (.iconst 0, 1) := by decide +kernel
theorem dL_law_171 : decode cL_law 171 = .ok (.ireturn, 1) := by decide +kernel
theorem dL_law_172 : decode cL_law 172 = .ok (.iload 5, 2) := by decide +kernel
theorem dL_law_174 : decode cL_law 174 = .ok (.ifCond .ne 15, 3) := by decide +kernel
theorem dL_law_177 : decode cL_law 177 = .ok (.aload_n 3, 1) := by decide +kernel
theorem dL_law_178 : decode cL_law 178 = .ok (.iconst 0, 1) := by decide +kernel
theorem dL_law_179 : decode cL_law 179 = .ok (.laload, 1) := by decide +kernel
theorem dL_law_180 : decode cL_law 180 = .ok (.iload 6, 2) := by decide +kernel
theorem dL_law_182 : decode cL_law 182 = .ok (.i2l, 1) := by decide +kernel
theorem dL_law_183 : decode cL_law 183 = .ok (.lcmp, 1) := by decide +kernel
theorem dL_law_184 : decode cL_law 184 = .ok (.ifCond .eq 5, 3) := by decide +kernel
theorem dL_law_187 : decode cL_law 187 = .ok (.iconst 0, 1) := by decide +kernel
theorem dL_law_188 : decode cL_law 188 = .ok (.ireturn, 1) := by decide +kernel
theorem dL_law_189 : decode cL_law 189 = .ok (.goto 1248, 3) := by decide +kernel
theorem dL_law_192 : decode cL_law 192 = .ok (.aload_n 1, 1) := by decide +kernel
theorem dL_law_193 : decode cL_law 193 = .ok (.aload_n 3, 1) := by decide +kernel
theorem dL_law_194 : decode cL_law 194 = .ok (.invokestatic 93, 3) := by decide +kernel
theorem dL_law_197 : decode cL_law 197 = .ok (.istore 5, 2) := by decide +kernel
theorem dL_law_199 : decode cL_law 199 = .ok (.aload_n 2, 1) := by decide +kernel
theorem dL_law_200 : decode cL_law 200 = .ok (.invokevirtual 95, 3) := by decide +kernel
theorem dL_law_203 : decode cL_law 203 = .ok (.istore 6, 2) := by decide +kernel
theorem dL_law_205 : decode cL_law 205 = .ok (.aload_n 2, 1) := by decide +kernel
theorem dL_law_206 : decode cL_law 206 = .ok (.invokevirtual 90, 3) := by decide +kernel
theorem dL_law_209 : decode cL_law 209 = .ok (.iload 5, 2) := by decide +kernel
theorem dL_law_211 : decode cL_law 211 = .ok (.if_icmp .eq 5, 3) := by decide +kernel
theorem dL_law_214 : decode cL_law 214 = .ok (.iconst 0, 1) := by decide +kernel
theorem dL_law_215 : decode cL_law 215 = .ok (.ireturn, 1) := by decide +kernel
theorem dL_law_216 : decode cL_law 216 = .ok (.iload 5, 2) := by decide +kernel
theorem dL_law_218 : decode cL_law 218 = .ok (.ifCond .ne 15, 3) := by decide +kernel
theorem dL_law_221 : decode cL_law 221 = .ok (.aload_n 3, 1) := by decide +kernel
theorem dL_law_222 : decode cL_law 222 = .ok (.iconst 0, 1) := by decide +kernel
theorem dL_law_223 : decode cL_law 223 = .ok (.laload, 1) := by decide +kernel
theorem dL_law_224 : decode cL_law 224 = .ok (.iload 6, 2) := by decide +kernel
theorem dL_law_226 : decode cL_law 226 = .ok (.i2l, 1) := by decide +kernel
theorem dL_law_227 : decode cL_law 227 = .ok (.lcmp, 1) := by decide +kernel
theorem dL_law_228 : decode cL_law 228 = .ok (.ifCond .eq 5, 3) := by decide +kernel
theorem dL_law_231 : decode cL_law 231 = .ok (.iconst 0, 1) := by decide +kernel
theorem dL_law_232 : decode cL_law 232 = .ok (.ireturn, 1) := by decide +kernel
theorem dL_law_233 : decode cL_law 233 = .ok (.goto 1204, 3) := by decide +kernel
theorem dL_law_236 : decode cL_law 236 = .ok (.aload_n 1, 1) := by decide +kernel
theorem dL_law_237 : decode cL_law 237 = .ok (.aload_n 0, 1) := by decide +kernel
theorem dL_law_238 : decode cL_law 238 = .ok (.iload 4, 2) := by decide +kernel
theorem dL_law_240 : decode cL_law 240 = .ok (.iconst 1, 1) := by decide +kernel
theorem dL_law_241 : decode cL_law 241 = .ok (.iadd, 1) := by decide +kernel
theorem dL_law_242 : decode cL_law 242 = .ok (.iaload, 1) := by decide +kernel
theorem dL_law_243 : decode cL_law 243 = .ok (.aload_n 3, 1) := by decide +kernel
theorem dL_law_244 : decode cL_law 244 = .ok (.invokestatic 96, 3) := by decide +kernel
theorem dL_law_247 : decode cL_law 247 = .ok (.istore 5, 2) := by decide +kernel
theorem dL_law_249 : decode cL_law 249 = .ok (.aload_n 2, 1) := by decide +kernel
theorem dL_law_250 : decode cL_law 250 = .ok (.aload_n 0, 1) := by decide +kernel
theorem dL_law_251 : decode cL_law 251 = .ok (.iload 4, 2) := by decide +kernel
theorem dL_law_253 : decode cL_law 253 = .ok (.iconst 1, 1) := by decide +kernel
theorem dL_law_254 : decode cL_law 254 = .ok (.iadd, 1) := by decide +kernel
theorem dL_law_255 : decode cL_law 255 = .ok (.iaload, 1) := by decide +kernel
theorem dL_law_256 : decode cL_law 256 = .ok (.invokevirtual 99, 3) := by decide +kernel
theorem dL_law_259 : decode cL_law 259 = .ok (.istore 6, 2) := by decide +kernel
theorem dL_law_261 : decode cL_law 261 = .ok (.aload_n 2, 1) := by decide +kernel
theorem dL_law_262 : decode cL_law 262 = .ok (.invokevirtual 90, 3) := by decide +kernel
theorem dL_law_265 : decode cL_law 265 = .ok (.iload 5, 2) := by decide +kernel
theorem dL_law_267 : decode cL_law 267 = .ok (.if_icmp .eq 5, 3) := by decide +kernel
theorem dL_law_270 : decode cL_law 270 = .ok (.iconst 0, 1) := by decide +kernel
theorem dL_law_271 : decode cL_law 271 = .ok (.ireturn, 1) := by decide +kernel
theorem dL_law_272 : decode cL_law 272 = .ok (.iload 5, 2) := by decide +kernel
theorem dL_law_274 : decode cL_law 274 = .ok (.ifCond .ne 15, 3) := by decide +kernel
theorem dL_law_277 : decode cL_law 277 = .ok (.aload_n 3, 1) := by decide +kernel
theorem dL_law_278 : decode cL_law 278 = .ok (.iconst 0, 1) := by decide +kernel
theorem dL_law_279 : decode cL_law 279 = .ok (.laload, 1) := by decide +kernel
theorem dL_law_280 : decode cL_law 280 = .ok (.iload 6, 2) := by decide +kernel
theorem dL_law_282 : decode cL_law 282 = .ok (.i2l, 1) := by decide +kernel
theorem dL_law_283 : decode cL_law 283 = .ok (.lcmp, 1) := by decide +kernel
theorem dL_law_284 : decode cL_law 284 = .ok (.ifCond .eq 5, 3) := by decide +kernel
theorem dL_law_287 : decode cL_law 287 = .ok (.iconst 0, 1) := by decide +kernel
theorem dL_law_288 : decode cL_law 288 = .ok (.ireturn, 1) := by decide +kernel
theorem dL_law_289 : decode cL_law 289 = .ok (.goto 1148, 3) := by decide +kernel
theorem dL_law_292 : decode cL_law 292 = .ok (.aload_n 1, 1) := by decide +kernel
theorem dL_law_293 : decode cL_law 293 = .ok (.aload_n 0, 1) := by decide +kernel
theorem dL_law_294 : decode cL_law 294 = .ok (.iload 4, 2) := by decide +kernel
theorem dL_law_296 : decode cL_law 296 = .ok (.iconst 1, 1) := by decide +kernel
theorem dL_law_297 : decode cL_law 297 = .ok (.iadd, 1) := by decide +kernel
theorem dL_law_298 : decode cL_law 298 = .ok (.iaload, 1) := by decide +kernel
theorem dL_law_299 : decode cL_law 299 = .ok (.aload_n 3, 1) := by decide +kernel
theorem dL_law_300 : decode cL_law 300 = .ok (.invokestatic 100, 3) := by decide +kernel
theorem dL_law_303 : decode cL_law 303 = .ok (.istore 5, 2) := by decide +kernel
theorem dL_law_305 : decode cL_law 305 = .ok (.aload_n 2, 1) := by decide +kernel
theorem dL_law_306 : decode cL_law 306 = .ok (.aload_n 0, 1) := by decide +kernel
theorem dL_law_307 : decode cL_law 307 = .ok (.iload 4, 2) := by decide +kernel
theorem dL_law_309 : decode cL_law 309 = .ok (.iconst 1, 1) := by decide +kernel
theorem dL_law_310 : decode cL_law 310 = .ok (.iadd, 1) := by decide +kernel
theorem dL_law_311 : decode cL_law 311 = .ok (.iaload, 1) := by decide +kernel
theorem dL_law_312 : decode cL_law 312 = .ok (.invokevirtual 102, 3) := by decide +kernel
theorem dL_law_315 : decode cL_law 315 = .ok (.istore 6, 2) := by decide +kernel
theorem dL_law_317 : decode cL_law 317 = .ok (.aload_n 2, 1) := by decide +kernel
theorem dL_law_318 : decode cL_law 318 = .ok (.invokevirtual 90, 3) := by decide +kernel
theorem dL_law_321 : decode cL_law 321 = .ok (.iload 5, 2) := by decide +kernel
theorem dL_law_323 : decode cL_law 323 = .ok (.if_icmp .eq 5, 3) := by decide +kernel
theorem dL_law_326 : decode cL_law 326 = .ok (.iconst 0, 1) := by decide +kernel
theorem dL_law_327 : decode cL_law 327 = .ok (.ireturn, 1) := by decide +kernel
theorem dL_law_328 : decode cL_law 328 = .ok (.iload 5, 2) := by decide +kernel
theorem dL_law_330 : decode cL_law 330 = .ok (.ifCond .ne 15, 3) := by decide +kernel
theorem dL_law_333 : decode cL_law 333 = .ok (.aload_n 3, 1) := by decide +kernel
theorem dL_law_334 : decode cL_law 334 = .ok (.iconst 0, 1) := by decide +kernel
theorem dL_law_335 : decode cL_law 335 = .ok (.laload, 1) := by decide +kernel
theorem dL_law_336 : decode cL_law 336 = .ok (.iload 6, 2) := by decide +kernel
theorem dL_law_338 : decode cL_law 338 = .ok (.i2l, 1) := by decide +kernel
theorem dL_law_339 : decode cL_law 339 = .ok (.lcmp, 1) := by decide +kernel
theorem dL_law_340 : decode cL_law 340 = .ok (.ifCond .eq 5, 3) := by decide +kernel
theorem dL_law_343 : decode cL_law 343 = .ok (.iconst 0, 1) := by decide +kernel
theorem dL_law_344 : decode cL_law 344 = .ok (.ireturn, 1) := by decide +kernel
theorem dL_law_345 : decode cL_law 345 = .ok (.goto 1092, 3) := by decide +kernel
theorem dL_law_348 : decode cL_law 348 = .ok (.aload_n 1, 1) := by decide +kernel
theorem dL_law_349 : decode cL_law 349 = .ok (.aload_n 0, 1) := by decide +kernel
theorem dL_law_350 : decode cL_law 350 = .ok (.iload 4, 2) := by decide +kernel
theorem dL_law_352 : decode cL_law 352 = .ok (.iconst 1, 1) := by decide +kernel
theorem dL_law_353 : decode cL_law 353 = .ok (.iadd, 1) := by decide +kernel
theorem dL_law_354 : decode cL_law 354 = .ok (.iaload, 1) := by decide +kernel
theorem dL_law_355 : decode cL_law 355 = .ok (.aload_n 0, 1) := by decide +kernel
theorem dL_law_356 : decode cL_law 356 = .ok (.iload 4, 2) := by decide +kernel
theorem dL_law_358 : decode cL_law 358 = .ok (.iconst 2, 1) := by decide +kernel
theorem dL_law_359 : decode cL_law 359 = .ok (.iadd, 1) := by decide +kernel
theorem dL_law_360 : decode cL_law 360 = .ok (.iaload, 1) := by decide +kernel
theorem dL_law_361 : decode cL_law 361 = .ok (.aload_n 3, 1) := by decide +kernel
theorem dL_law_362 : decode cL_law 362 = .ok (.invokestatic 103, 3) := by decide +kernel
theorem dL_law_365 : decode cL_law 365 = .ok (.istore 5, 2) := by decide +kernel
theorem dL_law_367 : decode cL_law 367 = .ok (.aload_n 2, 1) := by decide +kernel
theorem dL_law_368 : decode cL_law 368 = .ok (.aload_n 0, 1) := by decide +kernel
theorem dL_law_369 : decode cL_law 369 = .ok (.iload 4, 2) := by decide +kernel
theorem dL_law_371 : decode cL_law 371 = .ok (.iconst 1, 1) := by decide +kernel
theorem dL_law_372 : decode cL_law 372 = .ok (.iadd, 1) := by decide +kernel
theorem dL_law_373 : decode cL_law 373 = .ok (.iaload, 1) := by decide +kernel
theorem dL_law_374 : decode cL_law 374 = .ok (.aload_n 0, 1) := by decide +kernel
theorem dL_law_375 : decode cL_law 375 = .ok (.iload 4, 2) := by decide +kernel
theorem dL_law_377 : decode cL_law 377 = .ok (.iconst 2, 1) := by decide +kernel
theorem dL_law_378 : decode cL_law 378 = .ok (.iadd, 1) := by decide +kernel
theorem dL_law_379 : decode cL_law 379 = .ok (.iaload, 1) := by decide +kernel
theorem dL_law_380 : decode cL_law 380 = .ok (.invokevirtual 106, 3) := by decide +kernel
theorem dL_law_383 : decode cL_law 383 = .ok (.istore 6, 2) := by decide +kernel
theorem dL_law_385 : decode cL_law 385 = .ok (.aload_n 2, 1) := by decide +kernel
theorem dL_law_386 : decode cL_law 386 = .ok (.invokevirtual 90, 3) := by decide +kernel
theorem dL_law_389 : decode cL_law 389 = .ok (.iload 5, 2) := by decide +kernel
theorem dL_law_391 : decode cL_law 391 = .ok (.if_icmp .eq 5, 3) := by decide +kernel
theorem dL_law_394 : decode cL_law 394 = .ok (.iconst 0, 1) := by decide +kernel
theorem dL_law_395 : decode cL_law 395 = .ok (.ireturn, 1) := by decide +kernel
theorem dL_law_396 : decode cL_law 396 = .ok (.iload 5, 2) := by decide +kernel
theorem dL_law_398 : decode cL_law 398 = .ok (.ifCond .ne 15, 3) := by decide +kernel
theorem dL_law_401 : decode cL_law 401 = .ok (.aload_n 3, 1) := by decide +kernel
theorem dL_law_402 : decode cL_law 402 = .ok (.iconst 0, 1) := by decide +kernel
theorem dL_law_403 : decode cL_law 403 = .ok (.laload, 1) := by decide +kernel
theorem dL_law_404 : decode cL_law 404 = .ok (.iload 6, 2) := by decide +kernel
theorem dL_law_406 : decode cL_law 406 = .ok (.i2l, 1) := by decide +kernel
theorem dL_law_407 : decode cL_law 407 = .ok (.lcmp, 1) := by decide +kernel
theorem dL_law_408 : decode cL_law 408 = .ok (.ifCond .eq 5, 3) := by decide +kernel
theorem dL_law_411 : decode cL_law 411 = .ok (.iconst 0, 1) := by decide +kernel
theorem dL_law_412 : decode cL_law 412 = .ok (.ireturn, 1) := by decide +kernel
theorem dL_law_413 : decode cL_law 413 = .ok (.goto 1024, 3) := by decide +kernel
theorem dL_law_416 : decode cL_law 416 = .ok (.aload_n 1, 1) := by decide +kernel
theorem dL_law_417 : decode cL_law 417 = .ok (.aload_n 0, 1) := by decide +kernel
theorem dL_law_418 : decode cL_law 418 = .ok (.iload 4, 2) := by decide +kernel
theorem dL_law_420 : decode cL_law 420 = .ok (.iconst 1, 1) := by decide +kernel
theorem dL_law_421 : decode cL_law 421 = .ok (.iadd, 1) := by decide +kernel
theorem dL_law_422 : decode cL_law 422 = .ok (.iaload, 1) := by decide +kernel
theorem dL_law_423 : decode cL_law 423 = .ok (.aload_n 0, 1) := by decide +kernel
theorem dL_law_424 : decode cL_law 424 = .ok (.iload 4, 2) := by decide +kernel
theorem dL_law_426 : decode cL_law 426 = .ok (.iconst 2, 1) := by decide +kernel
theorem dL_law_427 : decode cL_law 427 = .ok (.iadd, 1) := by decide +kernel
theorem dL_law_428 : decode cL_law 428 = .ok (.iaload, 1) := by decide +kernel
theorem dL_law_429 : decode cL_law 429 = .ok (.ifCond .eq 7, 3) := by decide +kernel
theorem dL_law_432 : decode cL_law 432 = .ok (.iconst 1, 1) := by decide +kernel
theorem dL_law_433 : decode cL_law 433 = .ok (.goto 4, 3) := by decide +kernel
theorem dL_law_436 : decode cL_law 436 = .ok (.iconst 0, 1) := by decide +kernel
theorem dL_law_437 : decode cL_law 437 = .ok (.aload_n 3, 1) := by decide +kernel
theorem dL_law_438 : decode cL_law 438 = .ok (.invokestatic 107, 3) := by decide +kernel
theorem dL_law_441 : decode cL_law 441 = .ok (.istore 5, 2) := by decide +kernel
theorem dL_law_443 : decode cL_law 443 = .ok (.aload_n 2, 1) := by decide +kernel
theorem dL_law_444 : decode cL_law 444 = .ok (.aload_n 0, 1) := by decide +kernel
theorem dL_law_445 : decode cL_law 445 = .ok (.iload 4, 2) := by decide +kernel
theorem dL_law_447 : decode cL_law 447 = .ok (.iconst 1, 1) := by decide +kernel
theorem dL_law_448 : decode cL_law 448 = .ok (.iadd, 1) := by decide +kernel
theorem dL_law_449 : decode cL_law 449 = .ok (.iaload, 1) := by decide +kernel
theorem dL_law_450 : decode cL_law 450 = .ok (.aload_n 0, 1) := by decide +kernel
theorem dL_law_451 : decode cL_law 451 = .ok (.iload 4, 2) := by decide +kernel
theorem dL_law_453 : decode cL_law 453 = .ok (.iconst 2, 1) := by decide +kernel
theorem dL_law_454 : decode cL_law 454 = .ok (.iadd, 1) := by decide +kernel
theorem dL_law_455 : decode cL_law 455 = .ok (.iaload, 1) := by decide +kernel
theorem dL_law_456 : decode cL_law 456 = .ok (.ifCond .eq 7, 3) := by decide +kernel
theorem dL_law_459 : decode cL_law 459 = .ok (.iconst 1, 1) := by decide +kernel
theorem dL_law_460 : decode cL_law 460 = .ok (.goto 4, 3) := by decide +kernel
theorem dL_law_463 : decode cL_law 463 = .ok (.iconst 0, 1) := by decide +kernel
theorem dL_law_464 : decode cL_law 464 = .ok (.invokevirtual 110, 3) := by decide +kernel
theorem dL_law_467 : decode cL_law 467 = .ok (.istore 6, 2) := by decide +kernel
theorem dL_law_469 : decode cL_law 469 = .ok (.aload_n 2, 1) := by decide +kernel
theorem dL_law_470 : decode cL_law 470 = .ok (.invokevirtual 90, 3) := by decide +kernel
theorem dL_law_473 : decode cL_law 473 = .ok (.iload 5, 2) := by decide +kernel
theorem dL_law_475 : decode cL_law 475 = .ok (.if_icmp .eq 5, 3) := by decide +kernel
theorem dL_law_478 : decode cL_law 478 = .ok (.iconst 0, 1) := by decide +kernel
theorem dL_law_479 : decode cL_law 479 = .ok (.ireturn, 1) := by decide +kernel
theorem dL_law_480 : decode cL_law 480 = .ok (.iload 5, 2) := by decide +kernel
theorem dL_law_482 : decode cL_law 482 = .ok (.ifCond .ne 15, 3) := by decide +kernel
theorem dL_law_485 : decode cL_law 485 = .ok (.aload_n 3, 1) := by decide +kernel
theorem dL_law_486 : decode cL_law 486 = .ok (.iconst 0, 1) := by decide +kernel
theorem dL_law_487 : decode cL_law 487 = .ok (.laload, 1) := by decide +kernel
theorem dL_law_488 : decode cL_law 488 = .ok (.iload 6, 2) := by decide +kernel
theorem dL_law_490 : decode cL_law 490 = .ok (.i2l, 1) := by decide +kernel
theorem dL_law_491 : decode cL_law 491 = .ok (.lcmp, 1) := by decide +kernel
theorem dL_law_492 : decode cL_law 492 = .ok (.ifCond .eq 5, 3) := by decide +kernel
theorem dL_law_495 : decode cL_law 495 = .ok (.iconst 0, 1) := by decide +kernel
theorem dL_law_496 : decode cL_law 496 = .ok (.ireturn, 1) := by decide +kernel
theorem dL_law_497 : decode cL_law 497 = .ok (.goto 940, 3) := by decide +kernel
theorem dL_law_500 : decode cL_law 500 = .ok (.aload_n 1, 1) := by decide +kernel
theorem dL_law_501 : decode cL_law 501 = .ok (.aload_n 3, 1) := by decide +kernel
theorem dL_law_502 : decode cL_law 502 = .ok (.invokestatic 111, 3) := by decide +kernel
theorem dL_law_505 : decode cL_law 505 = .ok (.istore 5, 2) := by decide +kernel
theorem dL_law_507 : decode cL_law 507 = .ok (.aload_n 2, 1) := by decide +kernel
theorem dL_law_508 : decode cL_law 508 = .ok (.invokevirtual 113, 3) := by decide +kernel
theorem dL_law_511 : decode cL_law 511 = .ok (.istore 6, 2) := by decide +kernel
theorem dL_law_513 : decode cL_law 513 = .ok (.aload_n 2, 1) := by decide +kernel
theorem dL_law_514 : decode cL_law 514 = .ok (.invokevirtual 90, 3) := by decide +kernel
theorem dL_law_517 : decode cL_law 517 = .ok (.iload 5, 2) := by decide +kernel
theorem dL_law_519 : decode cL_law 519 = .ok (.if_icmp .eq 5, 3) := by decide +kernel
theorem dL_law_522 : decode cL_law 522 = .ok (.iconst 0, 1) := by decide +kernel
theorem dL_law_523 : decode cL_law 523 = .ok (.ireturn, 1) := by decide +kernel
theorem dL_law_524 : decode cL_law 524 = .ok (.iload 5, 2) := by decide +kernel
theorem dL_law_526 : decode cL_law 526 = .ok (.ifCond .ne 15, 3) := by decide +kernel
theorem dL_law_529 : decode cL_law 529 = .ok (.aload_n 3, 1) := by decide +kernel
theorem dL_law_530 : decode cL_law 530 = .ok (.iconst 0, 1) := by decide +kernel
theorem dL_law_531 : decode cL_law 531 = .ok (.laload, 1) := by decide +kernel
theorem dL_law_532 : decode cL_law 532 = .ok (.iload 6, 2) := by decide +kernel
theorem dL_law_534 : decode cL_law 534 = .ok (.i2l, 1) := by decide +kernel
theorem dL_law_535 : decode cL_law 535 = .ok (.lcmp, 1) := by decide +kernel
theorem dL_law_536 : decode cL_law 536 = .ok (.ifCond .eq 5, 3) := by decide +kernel
theorem dL_law_539 : decode cL_law 539 = .ok (.iconst 0, 1) := by decide +kernel
theorem dL_law_540 : decode cL_law 540 = .ok (.ireturn, 1) := by decide +kernel
theorem dL_law_541 : decode cL_law 541 = .ok (.goto 896, 3) := by decide +kernel
theorem dL_law_544 : decode cL_law 544 = .ok (.aload_n 1, 1) := by decide +kernel
theorem dL_law_545 : decode cL_law 545 = .ok (.aload_n 0, 1) := by decide +kernel
theorem dL_law_546 : decode cL_law 546 = .ok (.iload 4, 2) := by decide +kernel
theorem dL_law_548 : decode cL_law 548 = .ok (.iconst 1, 1) := by decide +kernel
theorem dL_law_549 : decode cL_law 549 = .ok (.iadd, 1) := by decide +kernel
theorem dL_law_550 : decode cL_law 550 = .ok (.iaload, 1) := by decide +kernel
theorem dL_law_551 : decode cL_law 551 = .ok (.aload_n 0, 1) := by decide +kernel
theorem dL_law_552 : decode cL_law 552 = .ok (.iload 4, 2) := by decide +kernel
theorem dL_law_554 : decode cL_law 554 = .ok (.iconst 2, 1) := by decide +kernel
theorem dL_law_555 : decode cL_law 555 = .ok (.iadd, 1) := by decide +kernel
theorem dL_law_556 : decode cL_law 556 = .ok (.iaload, 1) := by decide +kernel
theorem dL_law_557 : decode cL_law 557 = .ok (.aload_n 3, 1) := by decide +kernel
theorem dL_law_558 : decode cL_law 558 = .ok (.invokestatic 114, 3) := by decide +kernel
theorem dL_law_561 : decode cL_law 561 = .ok (.istore 5, 2) := by decide +kernel
theorem dL_law_563 : decode cL_law 563 = .ok (.aload_n 2, 1) := by decide +kernel
theorem dL_law_564 : decode cL_law 564 = .ok (.aload_n 0, 1) := by decide +kernel
theorem dL_law_565 : decode cL_law 565 = .ok (.iload 4, 2) := by decide +kernel
theorem dL_law_567 : decode cL_law 567 = .ok (.iconst 1, 1) := by decide +kernel
theorem dL_law_568 : decode cL_law 568 = .ok (.iadd, 1) := by decide +kernel
theorem dL_law_569 : decode cL_law 569 = .ok (.iaload, 1) := by decide +kernel
theorem dL_law_570 : decode cL_law 570 = .ok (.aload_n 0, 1) := by decide +kernel
theorem dL_law_571 : decode cL_law 571 = .ok (.iload 4, 2) := by decide +kernel
theorem dL_law_573 : decode cL_law 573 = .ok (.iconst 2, 1) := by decide +kernel
theorem dL_law_574 : decode cL_law 574 = .ok (.iadd, 1) := by decide +kernel
theorem dL_law_575 : decode cL_law 575 = .ok (.iaload, 1) := by decide +kernel
theorem dL_law_576 : decode cL_law 576 = .ok (.invokevirtual 116, 3) := by decide +kernel
theorem dL_law_579 : decode cL_law 579 = .ok (.istore 6, 2) := by decide +kernel
theorem dL_law_581 : decode cL_law 581 = .ok (.aload_n 2, 1) := by decide +kernel
theorem dL_law_582 : decode cL_law 582 = .ok (.invokevirtual 90, 3) := by decide +kernel
theorem dL_law_585 : decode cL_law 585 = .ok (.iload 5, 2) := by decide +kernel
theorem dL_law_587 : decode cL_law 587 = .ok (.if_icmp .eq 5, 3) := by decide +kernel
theorem dL_law_590 : decode cL_law 590 = .ok (.iconst 0, 1) := by decide +kernel
theorem dL_law_591 : decode cL_law 591 = .ok (.ireturn, 1) := by decide +kernel
theorem dL_law_592 : decode cL_law 592 = .ok (.iload 5, 2) := by decide +kernel
theorem dL_law_594 : decode cL_law 594 = .ok (.ifCond .ne 15, 3) := by decide +kernel
theorem dL_law_597 : decode cL_law 597 = .ok (.aload_n 3, 1) := by decide +kernel
theorem dL_law_598 : decode cL_law 598 = .ok (.iconst 0, 1) := by decide +kernel
theorem dL_law_599 : decode cL_law 599 = .ok (.laload, 1) := by decide +kernel
theorem dL_law_600 : decode cL_law 600 = .ok (.iload 6, 2) := by decide +kernel
theorem dL_law_602 : decode cL_law 602 = .ok (.i2l, 1) := by decide +kernel
theorem dL_law_603 : decode cL_law 603 = .ok (.lcmp, 1) := by decide +kernel
theorem dL_law_604 : decode cL_law 604 = .ok (.ifCond .eq 5, 3) := by decide +kernel
theorem dL_law_607 : decode cL_law 607 = .ok (.iconst 0, 1) := by decide +kernel
theorem dL_law_608 : decode cL_law 608 = .ok (.ireturn, 1) := by decide +kernel
theorem dL_law_609 : decode cL_law 609 = .ok (.goto 828, 3) := by decide +kernel
theorem dL_law_612 : decode cL_law 612 = .ok (.aload_n 1, 1) := by decide +kernel
theorem dL_law_613 : decode cL_law 613 = .ok (.aload_n 0, 1) := by decide +kernel
theorem dL_law_614 : decode cL_law 614 = .ok (.iload 4, 2) := by decide +kernel
theorem dL_law_616 : decode cL_law 616 = .ok (.iconst 1, 1) := by decide +kernel
theorem dL_law_617 : decode cL_law 617 = .ok (.iadd, 1) := by decide +kernel
theorem dL_law_618 : decode cL_law 618 = .ok (.iaload, 1) := by decide +kernel
theorem dL_law_619 : decode cL_law 619 = .ok (.aload_n 3, 1) := by decide +kernel
theorem dL_law_620 : decode cL_law 620 = .ok (.invokestatic 117, 3) := by decide +kernel
theorem dL_law_623 : decode cL_law 623 = .ok (.istore 5, 2) := by decide +kernel
theorem dL_law_625 : decode cL_law 625 = .ok (.aload_n 2, 1) := by decide +kernel
theorem dL_law_626 : decode cL_law 626 = .ok (.aload_n 0, 1) := by decide +kernel
theorem dL_law_627 : decode cL_law 627 = .ok (.iload 4, 2) := by decide +kernel
theorem dL_law_629 : decode cL_law 629 = .ok (.iconst 1, 1) := by decide +kernel
theorem dL_law_630 : decode cL_law 630 = .ok (.iadd, 1) := by decide +kernel
theorem dL_law_631 : decode cL_law 631 = .ok (.iaload, 1) := by decide +kernel
theorem dL_law_632 : decode cL_law 632 = .ok (.invokevirtual 119, 3) := by decide +kernel
theorem dL_law_635 : decode cL_law 635 = .ok (.istore 6, 2) := by decide +kernel
theorem dL_law_637 : decode cL_law 637 = .ok (.aload_n 2, 1) := by decide +kernel
theorem dL_law_638 : decode cL_law 638 = .ok (.invokevirtual 90, 3) := by decide +kernel
theorem dL_law_641 : decode cL_law 641 = .ok (.iload 5, 2) := by decide +kernel
theorem dL_law_643 : decode cL_law 643 = .ok (.if_icmp .eq 5, 3) := by decide +kernel
theorem dL_law_646 : decode cL_law 646 = .ok (.iconst 0, 1) := by decide +kernel
theorem dL_law_647 : decode cL_law 647 = .ok (.ireturn, 1) := by decide +kernel
theorem dL_law_648 : decode cL_law 648 = .ok (.iload 5, 2) := by decide +kernel
theorem dL_law_650 : decode cL_law 650 = .ok (.ifCond .ne 15, 3) := by decide +kernel
theorem dL_law_653 : decode cL_law 653 = .ok (.aload_n 3, 1) := by decide +kernel
theorem dL_law_654 : decode cL_law 654 = .ok (.iconst 0, 1) := by decide +kernel
theorem dL_law_655 : decode cL_law 655 = .ok (.laload, 1) := by decide +kernel
theorem dL_law_656 : decode cL_law 656 = .ok (.iload 6, 2) := by decide +kernel
theorem dL_law_658 : decode cL_law 658 = .ok (.i2l, 1) := by decide +kernel
theorem dL_law_659 : decode cL_law 659 = .ok (.lcmp, 1) := by decide +kernel
theorem dL_law_660 : decode cL_law 660 = .ok (.ifCond .eq 5, 3) := by decide +kernel
theorem dL_law_663 : decode cL_law 663 = .ok (.iconst 0, 1) := by decide +kernel
theorem dL_law_664 : decode cL_law 664 = .ok (.ireturn, 1) := by decide +kernel
theorem dL_law_665 : decode cL_law 665 = .ok (.goto 772, 3) := by decide +kernel
theorem dL_law_668 : decode cL_law 668 = .ok (.aload_n 1, 1) := by decide +kernel
theorem dL_law_669 : decode cL_law 669 = .ok (.invokevirtual 120, 3) := by decide +kernel
theorem dL_law_672 : decode cL_law 672 = .ok (.aload_n 2, 1) := by decide +kernel
theorem dL_law_673 : decode cL_law 673 = .ok (.invokevirtual 123, 3) := by decide +kernel
theorem dL_law_676 : decode cL_law 676 = .ok (.if_icmp .eq 761, 3) := by decide +kernel
theorem dL_law_679 : decode cL_law 679 = .ok (.iconst 0, 1) := by decide +kernel
theorem dL_law_680 : decode cL_law 680 = .ok (.ireturn, 1) := by decide +kernel
theorem dL_law_681 : decode cL_law 681 = .ok (.aload_n 1, 1) := by decide +kernel
theorem dL_law_682 : decode cL_law 682 = .ok (.invokevirtual 124, 3) := by decide +kernel
theorem dL_law_685 : decode cL_law 685 = .ok (.aload_n 2, 1) := by decide +kernel
theorem dL_law_686 : decode cL_law 686 = .ok (.invokevirtual 127, 3) := by decide +kernel
theorem dL_law_689 : decode cL_law 689 = .ok (.if_icmp .eq 748, 3) := by decide +kernel
theorem dL_law_692 : decode cL_law 692 = .ok (.iconst 0, 1) := by decide +kernel
theorem dL_law_693 : decode cL_law 693 = .ok (.ireturn, 1) := by decide +kernel
theorem dL_law_694 : decode cL_law 694 = .ok (.aload_n 1, 1) := by decide +kernel
theorem dL_law_695 : decode cL_law 695 = .ok (.aload_n 3, 1) := by decide +kernel
theorem dL_law_696 : decode cL_law 696 = .ok (.invokestatic 128, 3) := by decide +kernel
theorem dL_law_699 : decode cL_law 699 = .ok (.istore 5, 2) := by decide +kernel
theorem dL_law_701 : decode cL_law 701 = .ok (.aload_n 2, 1) := by decide +kernel
theorem dL_law_702 : decode cL_law 702 = .ok (.invokevirtual 130, 3) := by decide +kernel
theorem dL_law_705 : decode cL_law 705 = .ok (.istore 6, 2) := by decide +kernel
theorem dL_law_707 : decode cL_law 707 = .ok (.aload_n 2, 1) := by decide +kernel
theorem dL_law_708 : decode cL_law 708 = .ok (.invokevirtual 90, 3) := by decide +kernel
theorem dL_law_711 : decode cL_law 711 = .ok (.iload 5, 2) := by decide +kernel
theorem dL_law_713 : decode cL_law 713 = .ok (.if_icmp .eq 5, 3) := by decide +kernel
theorem dL_law_716 : decode cL_law 716 = .ok (.iconst 0, 1) := by decide +kernel
theorem dL_law_717 : decode cL_law 717 = .ok (.ireturn, 1) := by decide +kernel
theorem dL_law_718 : decode cL_law 718 = .ok (.iload 5, 2) := by decide +kernel
theorem dL_law_720 : decode cL_law 720 = .ok (.ifCond .ne 15, 3) := by decide +kernel
theorem dL_law_723 : decode cL_law 723 = .ok (.aload_n 3, 1) := by decide +kernel
theorem dL_law_724 : decode cL_law 724 = .ok (.iconst 0, 1) := by decide +kernel
theorem dL_law_725 : decode cL_law 725 = .ok (.laload, 1) := by decide +kernel
theorem dL_law_726 : decode cL_law 726 = .ok (.iload 6, 2) := by decide +kernel
theorem dL_law_728 : decode cL_law 728 = .ok (.i2l, 1) := by decide +kernel
theorem dL_law_729 : decode cL_law 729 = .ok (.lcmp, 1) := by decide +kernel
theorem dL_law_730 : decode cL_law 730 = .ok (.ifCond .eq 5, 3) := by decide +kernel
theorem dL_law_733 : decode cL_law 733 = .ok (.iconst 0, 1) := by decide +kernel
theorem dL_law_734 : decode cL_law 734 = .ok (.ireturn, 1) := by decide +kernel
theorem dL_law_735 : decode cL_law 735 = .ok (.goto 702, 3) := by decide +kernel
theorem dL_law_738 : decode cL_law 738 = .ok (.aload_n 1, 1) := by decide +kernel
theorem dL_law_739 : decode cL_law 739 = .ok (.aload_n 3, 1) := by decide +kernel
theorem dL_law_740 : decode cL_law 740 = .ok (.invokestatic 131, 3) := by decide +kernel
theorem dL_law_743 : decode cL_law 743 = .ok (.istore 5, 2) := by decide +kernel
theorem dL_law_745 : decode cL_law 745 = .ok (.aload_n 2, 1) := by decide +kernel
theorem dL_law_746 : decode cL_law 746 = .ok (.invokevirtual 133, 3) := by decide +kernel
theorem dL_law_749 : decode cL_law 749 = .ok (.istore 6, 2) := by decide +kernel
theorem dL_law_751 : decode cL_law 751 = .ok (.aload_n 2, 1) := by decide +kernel
theorem dL_law_752 : decode cL_law 752 = .ok (.invokevirtual 90, 3) := by decide +kernel
theorem dL_law_755 : decode cL_law 755 = .ok (.iload 5, 2) := by decide +kernel
theorem dL_law_757 : decode cL_law 757 = .ok (.if_icmp .eq 5, 3) := by decide +kernel
theorem dL_law_760 : decode cL_law 760 = .ok (.iconst 0, 1) := by decide +kernel
theorem dL_law_761 : decode cL_law 761 = .ok (.ireturn, 1) := by decide +kernel
theorem dL_law_762 : decode cL_law 762 = .ok (.iload 5, 2) := by decide +kernel
theorem dL_law_764 : decode cL_law 764 = .ok (.ifCond .ne 15, 3) := by decide +kernel
theorem dL_law_767 : decode cL_law 767 = .ok (.aload_n 3, 1) := by decide +kernel
theorem dL_law_768 : decode cL_law 768 = .ok (.iconst 0, 1) := by decide +kernel
theorem dL_law_769 : decode cL_law 769 = .ok (.laload, 1) := by decide +kernel
theorem dL_law_770 : decode cL_law 770 = .ok (.iload 6, 2) := by decide +kernel
theorem dL_law_772 : decode cL_law 772 = .ok (.i2l, 1) := by decide +kernel
theorem dL_law_773 : decode cL_law 773 = .ok (.lcmp, 1) := by decide +kernel
theorem dL_law_774 : decode cL_law 774 = .ok (.ifCond .eq 5, 3) := by decide +kernel
theorem dL_law_777 : decode cL_law 777 = .ok (.iconst 0, 1) := by decide +kernel
theorem dL_law_778 : decode cL_law 778 = .ok (.ireturn, 1) := by decide +kernel
theorem dL_law_779 : decode cL_law 779 = .ok (.goto 658, 3) := by decide +kernel
theorem dL_law_782 : decode cL_law 782 = .ok (.aload_n 1, 1) := by decide +kernel
theorem dL_law_783 : decode cL_law 783 = .ok (.aload_n 0, 1) := by decide +kernel
theorem dL_law_784 : decode cL_law 784 = .ok (.iload 4, 2) := by decide +kernel
theorem dL_law_786 : decode cL_law 786 = .ok (.iconst 1, 1) := by decide +kernel
theorem dL_law_787 : decode cL_law 787 = .ok (.iadd, 1) := by decide +kernel
theorem dL_law_788 : decode cL_law 788 = .ok (.iaload, 1) := by decide +kernel
theorem dL_law_789 : decode cL_law 789 = .ok (.aload_n 0, 1) := by decide +kernel
theorem dL_law_790 : decode cL_law 790 = .ok (.iload 4, 2) := by decide +kernel
theorem dL_law_792 : decode cL_law 792 = .ok (.iconst 2, 1) := by decide +kernel
theorem dL_law_793 : decode cL_law 793 = .ok (.iadd, 1) := by decide +kernel
theorem dL_law_794 : decode cL_law 794 = .ok (.iaload, 1) := by decide +kernel
theorem dL_law_795 : decode cL_law 795 = .ok (.aload_n 3, 1) := by decide +kernel
theorem dL_law_796 : decode cL_law 796 = .ok (.invokestatic 134, 3) := by decide +kernel
theorem dL_law_799 : decode cL_law 799 = .ok (.istore 5, 2) := by decide +kernel
theorem dL_law_801 : decode cL_law 801 = .ok (.aload_n 2, 1) := by decide +kernel
theorem dL_law_802 : decode cL_law 802 = .ok (.aload_n 0, 1) := by decide +kernel
theorem dL_law_803 : decode cL_law 803 = .ok (.iload 4, 2) := by decide +kernel
theorem dL_law_805 : decode cL_law 805 = .ok (.iconst 1, 1) := by decide +kernel
theorem dL_law_806 : decode cL_law 806 = .ok (.iadd, 1) := by decide +kernel
theorem dL_law_807 : decode cL_law 807 = .ok (.iaload, 1) := by decide +kernel
theorem dL_law_808 : decode cL_law 808 = .ok (.aload_n 0, 1) := by decide +kernel
theorem dL_law_809 : decode cL_law 809 = .ok (.iload 4, 2) := by decide +kernel
theorem dL_law_811 : decode cL_law 811 = .ok (.iconst 2, 1) := by decide +kernel
theorem dL_law_812 : decode cL_law 812 = .ok (.iadd, 1) := by decide +kernel
theorem dL_law_813 : decode cL_law 813 = .ok (.iaload, 1) := by decide +kernel
theorem dL_law_814 : decode cL_law 814 = .ok (.invokevirtual 136, 3) := by decide +kernel
theorem dL_law_817 : decode cL_law 817 = .ok (.istore 6, 2) := by decide +kernel
theorem dL_law_819 : decode cL_law 819 = .ok (.aload_n 2, 1) := by decide +kernel
theorem dL_law_820 : decode cL_law 820 = .ok (.invokevirtual 90, 3) := by decide +kernel
theorem dL_law_823 : decode cL_law 823 = .ok (.iload 5, 2) := by decide +kernel
theorem dL_law_825 : decode cL_law 825 = .ok (.if_icmp .eq 5, 3) := by decide +kernel
theorem dL_law_828 : decode cL_law 828 = .ok (.iconst 0, 1) := by decide +kernel
theorem dL_law_829 : decode cL_law 829 = .ok (.ireturn, 1) := by decide +kernel
theorem dL_law_830 : decode cL_law 830 = .ok (.iload 5, 2) := by decide +kernel
theorem dL_law_832 : decode cL_law 832 = .ok (.ifCond .ne 15, 3) := by decide +kernel
theorem dL_law_835 : decode cL_law 835 = .ok (.aload_n 3, 1) := by decide +kernel
theorem dL_law_836 : decode cL_law 836 = .ok (.iconst 0, 1) := by decide +kernel
theorem dL_law_837 : decode cL_law 837 = .ok (.laload, 1) := by decide +kernel
theorem dL_law_838 : decode cL_law 838 = .ok (.iload 6, 2) := by decide +kernel
theorem dL_law_840 : decode cL_law 840 = .ok (.i2l, 1) := by decide +kernel
theorem dL_law_841 : decode cL_law 841 = .ok (.lcmp, 1) := by decide +kernel
theorem dL_law_842 : decode cL_law 842 = .ok (.ifCond .eq 5, 3) := by decide +kernel
theorem dL_law_845 : decode cL_law 845 = .ok (.iconst 0, 1) := by decide +kernel
theorem dL_law_846 : decode cL_law 846 = .ok (.ireturn, 1) := by decide +kernel
theorem dL_law_847 : decode cL_law 847 = .ok (.goto 590, 3) := by decide +kernel
theorem dL_law_850 : decode cL_law 850 = .ok (.aload_n 1, 1) := by decide +kernel
theorem dL_law_851 : decode cL_law 851 = .ok (.aload_n 0, 1) := by decide +kernel
theorem dL_law_852 : decode cL_law 852 = .ok (.iload 4, 2) := by decide +kernel
theorem dL_law_854 : decode cL_law 854 = .ok (.iconst 1, 1) := by decide +kernel
theorem dL_law_855 : decode cL_law 855 = .ok (.iadd, 1) := by decide +kernel
theorem dL_law_856 : decode cL_law 856 = .ok (.iaload, 1) := by decide +kernel
theorem dL_law_857 : decode cL_law 857 = .ok (.aload_n 0, 1) := by decide +kernel
theorem dL_law_858 : decode cL_law 858 = .ok (.iload 4, 2) := by decide +kernel
theorem dL_law_860 : decode cL_law 860 = .ok (.iconst 2, 1) := by decide +kernel
theorem dL_law_861 : decode cL_law 861 = .ok (.iadd, 1) := by decide +kernel
theorem dL_law_862 : decode cL_law 862 = .ok (.iaload, 1) := by decide +kernel
theorem dL_law_863 : decode cL_law 863 = .ok (.aload_n 3, 1) := by decide +kernel
theorem dL_law_864 : decode cL_law 864 = .ok (.invokestatic 137, 3) := by decide +kernel
theorem dL_law_867 : decode cL_law 867 = .ok (.istore 5, 2) := by decide +kernel
theorem dL_law_869 : decode cL_law 869 = .ok (.aload_n 2, 1) := by decide +kernel
theorem dL_law_870 : decode cL_law 870 = .ok (.aload_n 0, 1) := by decide +kernel
theorem dL_law_871 : decode cL_law 871 = .ok (.iload 4, 2) := by decide +kernel
theorem dL_law_873 : decode cL_law 873 = .ok (.iconst 1, 1) := by decide +kernel
theorem dL_law_874 : decode cL_law 874 = .ok (.iadd, 1) := by decide +kernel
theorem dL_law_875 : decode cL_law 875 = .ok (.iaload, 1) := by decide +kernel
theorem dL_law_876 : decode cL_law 876 = .ok (.aload_n 0, 1) := by decide +kernel
theorem dL_law_877 : decode cL_law 877 = .ok (.iload 4, 2) := by decide +kernel
theorem dL_law_879 : decode cL_law 879 = .ok (.iconst 2, 1) := by decide +kernel
theorem dL_law_880 : decode cL_law 880 = .ok (.iadd, 1) := by decide +kernel
theorem dL_law_881 : decode cL_law 881 = .ok (.iaload, 1) := by decide +kernel
theorem dL_law_882 : decode cL_law 882 = .ok (.invokevirtual 139, 3) := by decide +kernel
theorem dL_law_885 : decode cL_law 885 = .ok (.istore 6, 2) := by decide +kernel
theorem dL_law_887 : decode cL_law 887 = .ok (.aload_n 2, 1) := by decide +kernel
theorem dL_law_888 : decode cL_law 888 = .ok (.invokevirtual 90, 3) := by decide +kernel
theorem dL_law_891 : decode cL_law 891 = .ok (.iload 5, 2) := by decide +kernel
theorem dL_law_893 : decode cL_law 893 = .ok (.if_icmp .eq 5, 3) := by decide +kernel
theorem dL_law_896 : decode cL_law 896 = .ok (.iconst 0, 1) := by decide +kernel
theorem dL_law_897 : decode cL_law 897 = .ok (.ireturn, 1) := by decide +kernel
theorem dL_law_898 : decode cL_law 898 = .ok (.iload 5, 2) := by decide +kernel
theorem dL_law_900 : decode cL_law 900 = .ok (.ifCond .ne 15, 3) := by decide +kernel
theorem dL_law_903 : decode cL_law 903 = .ok (.aload_n 3, 1) := by decide +kernel
theorem dL_law_904 : decode cL_law 904 = .ok (.iconst 0, 1) := by decide +kernel
theorem dL_law_905 : decode cL_law 905 = .ok (.laload, 1) := by decide +kernel
theorem dL_law_906 : decode cL_law 906 = .ok (.iload 6, 2) := by decide +kernel
theorem dL_law_908 : decode cL_law 908 = .ok (.i2l, 1) := by decide +kernel
theorem dL_law_909 : decode cL_law 909 = .ok (.lcmp, 1) := by decide +kernel
theorem dL_law_910 : decode cL_law 910 = .ok (.ifCond .eq 5, 3) := by decide +kernel
theorem dL_law_913 : decode cL_law 913 = .ok (.iconst 0, 1) := by decide +kernel
theorem dL_law_914 : decode cL_law 914 = .ok (.ireturn, 1) := by decide +kernel
theorem dL_law_915 : decode cL_law 915 = .ok (.goto 522, 3) := by decide +kernel
theorem dL_law_918 : decode cL_law 918 = .ok (.aload_n 1, 1) := by decide +kernel
theorem dL_law_919 : decode cL_law 919 = .ok (.aload_n 0, 1) := by decide +kernel
theorem dL_law_920 : decode cL_law 920 = .ok (.iload 4, 2) := by decide +kernel
theorem dL_law_922 : decode cL_law 922 = .ok (.iconst 1, 1) := by decide +kernel
theorem dL_law_923 : decode cL_law 923 = .ok (.iadd, 1) := by decide +kernel
theorem dL_law_924 : decode cL_law 924 = .ok (.iaload, 1) := by decide +kernel
theorem dL_law_925 : decode cL_law 925 = .ok (.aload_n 0, 1) := by decide +kernel
theorem dL_law_926 : decode cL_law 926 = .ok (.iload 4, 2) := by decide +kernel
theorem dL_law_928 : decode cL_law 928 = .ok (.iconst 2, 1) := by decide +kernel
theorem dL_law_929 : decode cL_law 929 = .ok (.iadd, 1) := by decide +kernel
theorem dL_law_930 : decode cL_law 930 = .ok (.iaload, 1) := by decide +kernel
theorem dL_law_931 : decode cL_law 931 = .ok (.aload_n 0, 1) := by decide +kernel
theorem dL_law_932 : decode cL_law 932 = .ok (.iload 4, 2) := by decide +kernel
theorem dL_law_934 : decode cL_law 934 = .ok (.iconst 3, 1) := by decide +kernel
theorem dL_law_935 : decode cL_law 935 = .ok (.iadd, 1) := by decide +kernel
theorem dL_law_936 : decode cL_law 936 = .ok (.iaload, 1) := by decide +kernel
theorem dL_law_937 : decode cL_law 937 = .ok (.aload_n 3, 1) := by decide +kernel
theorem dL_law_938 : decode cL_law 938 = .ok (.invokestatic 140, 3) := by decide +kernel
theorem dL_law_941 : decode cL_law 941 = .ok (.istore 5, 2) := by decide +kernel
theorem dL_law_943 : decode cL_law 943 = .ok (.aload_n 2, 1) := by decide +kernel
theorem dL_law_944 : decode cL_law 944 = .ok (.aload_n 0, 1) := by decide +kernel
theorem dL_law_945 : decode cL_law 945 = .ok (.iload 4, 2) := by decide +kernel
theorem dL_law_947 : decode cL_law 947 = .ok (.iconst 1, 1) := by decide +kernel
theorem dL_law_948 : decode cL_law 948 = .ok (.iadd, 1) := by decide +kernel
theorem dL_law_949 : decode cL_law 949 = .ok (.iaload, 1) := by decide +kernel
theorem dL_law_950 : decode cL_law 950 = .ok (.aload_n 0, 1) := by decide +kernel
theorem dL_law_951 : decode cL_law 951 = .ok (.iload 4, 2) := by decide +kernel
theorem dL_law_953 : decode cL_law 953 = .ok (.iconst 2, 1) := by decide +kernel
theorem dL_law_954 : decode cL_law 954 = .ok (.iadd, 1) := by decide +kernel
theorem dL_law_955 : decode cL_law 955 = .ok (.iaload, 1) := by decide +kernel
theorem dL_law_956 : decode cL_law 956 = .ok (.aload_n 0, 1) := by decide +kernel
theorem dL_law_957 : decode cL_law 957 = .ok (.iload 4, 2) := by decide +kernel
theorem dL_law_959 : decode cL_law 959 = .ok (.iconst 3, 1) := by decide +kernel
theorem dL_law_960 : decode cL_law 960 = .ok (.iadd, 1) := by decide +kernel
theorem dL_law_961 : decode cL_law 961 = .ok (.iaload, 1) := by decide +kernel
theorem dL_law_962 : decode cL_law 962 = .ok (.invokevirtual 143, 3) := by decide +kernel
theorem dL_law_965 : decode cL_law 965 = .ok (.istore 6, 2) := by decide +kernel
theorem dL_law_967 : decode cL_law 967 = .ok (.aload_n 2, 1) := by decide +kernel
theorem dL_law_968 : decode cL_law 968 = .ok (.invokevirtual 90, 3) := by decide +kernel
theorem dL_law_971 : decode cL_law 971 = .ok (.iload 5, 2) := by decide +kernel
theorem dL_law_973 : decode cL_law 973 = .ok (.if_icmp .eq 5, 3) := by decide +kernel
theorem dL_law_976 : decode cL_law 976 = .ok (.iconst 0, 1) := by decide +kernel
theorem dL_law_977 : decode cL_law 977 = .ok (.ireturn, 1) := by decide +kernel
theorem dL_law_978 : decode cL_law 978 = .ok (.iload 5, 2) := by decide +kernel
theorem dL_law_980 : decode cL_law 980 = .ok (.ifCond .ne 15, 3) := by decide +kernel
theorem dL_law_983 : decode cL_law 983 = .ok (.aload_n 3, 1) := by decide +kernel
theorem dL_law_984 : decode cL_law 984 = .ok (.iconst 0, 1) := by decide +kernel
theorem dL_law_985 : decode cL_law 985 = .ok (.laload, 1) := by decide +kernel
theorem dL_law_986 : decode cL_law 986 = .ok (.iload 6, 2) := by decide +kernel
theorem dL_law_988 : decode cL_law 988 = .ok (.i2l, 1) := by decide +kernel
theorem dL_law_989 : decode cL_law 989 = .ok (.lcmp, 1) := by decide +kernel
theorem dL_law_990 : decode cL_law 990 = .ok (.ifCond .eq 5, 3) := by decide +kernel
theorem dL_law_993 : decode cL_law 993 = .ok (.iconst 0, 1) := by decide +kernel
theorem dL_law_994 : decode cL_law 994 = .ok (.ireturn, 1) := by decide +kernel
theorem dL_law_995 : decode cL_law 995 = .ok (.goto 442, 3) := by decide +kernel
theorem dL_law_998 : decode cL_law 998 = .ok (.aload_n 1, 1) := by decide +kernel
theorem dL_law_999 : decode cL_law 999 = .ok (.aload_n 0, 1) := by decide +kernel
theorem dL_law_1000 : decode cL_law 1000 = .ok (.iload 4, 2) := by decide +kernel
theorem dL_law_1002 : decode cL_law 1002 = .ok (.iconst 1, 1) := by decide +kernel
theorem dL_law_1003 : decode cL_law 1003 = .ok (.iadd, 1) := by decide +kernel
theorem dL_law_1004 : decode cL_law 1004 = .ok (.iaload, 1) := by decide +kernel
theorem dL_law_1005 : decode cL_law 1005 = .ok (.aload_n 3, 1) := by decide +kernel
theorem dL_law_1006 : decode cL_law 1006 = .ok (.invokestatic 144, 3) := by decide +kernel
theorem dL_law_1009 : decode cL_law 1009 = .ok (.istore 5, 2) := by decide +kernel
theorem dL_law_1011 : decode cL_law 1011 = .ok (.aload_n 2, 1) := by decide +kernel
theorem dL_law_1012 : decode cL_law 1012 = .ok (.aload_n 0, 1) := by decide +kernel
theorem dL_law_1013 : decode cL_law 1013 = .ok (.iload 4, 2) := by decide +kernel
theorem dL_law_1015 : decode cL_law 1015 = .ok (.iconst 1, 1) := by decide +kernel
theorem dL_law_1016 : decode cL_law 1016 = .ok (.iadd, 1) := by decide +kernel
theorem dL_law_1017 : decode cL_law 1017 = .ok (.iaload, 1) := by decide +kernel
theorem dL_law_1018 : decode cL_law 1018 = .ok (.invokevirtual 146, 3) := by decide +kernel
theorem dL_law_1021 : decode cL_law 1021 = .ok (.istore 6, 2) := by decide +kernel
theorem dL_law_1023 : decode cL_law 1023 = .ok (.aload_n 2, 1) := by decide +kernel
theorem dL_law_1024 : decode cL_law 1024 = .ok (.invokevirtual 90, 3) := by decide +kernel
theorem dL_law_1027 : decode cL_law 1027 = .ok (.iload 5, 2) := by decide +kernel
theorem dL_law_1029 : decode cL_law 1029 = .ok (.if_icmp .eq 5, 3) := by decide +kernel
theorem dL_law_1032 : decode cL_law 1032 = .ok (.iconst 0, 1) := by decide +kernel
theorem dL_law_1033 : decode cL_law 1033 = .ok (.ireturn, 1) := by decide +kernel
theorem dL_law_1034 : decode cL_law 1034 = .ok (.iload 5, 2) := by decide +kernel
theorem dL_law_1036 : decode cL_law 1036 = .ok (.ifCond .ne 15, 3) := by decide +kernel
theorem dL_law_1039 : decode cL_law 1039 = .ok (.aload_n 3, 1) := by decide +kernel
theorem dL_law_1040 : decode cL_law 1040 = .ok (.iconst 0, 1) := by decide +kernel
theorem dL_law_1041 : decode cL_law 1041 = .ok (.laload, 1) := by decide +kernel
theorem dL_law_1042 : decode cL_law 1042 = .ok (.iload 6, 2) := by decide +kernel
theorem dL_law_1044 : decode cL_law 1044 = .ok (.i2l, 1) := by decide +kernel
theorem dL_law_1045 : decode cL_law 1045 = .ok (.lcmp, 1) := by decide +kernel
theorem dL_law_1046 : decode cL_law 1046 = .ok (.ifCond .eq 5, 3) := by decide +kernel
theorem dL_law_1049 : decode cL_law 1049 = .ok (.iconst 0, 1) := by decide +kernel
theorem dL_law_1050 : decode cL_law 1050 = .ok (.ireturn, 1) := by decide +kernel
theorem dL_law_1051 : decode cL_law 1051 = .ok (.goto 386, 3) := by decide +kernel
theorem dL_law_1054 : decode cL_law 1054 = .ok (.aload_n 1, 1) := by decide +kernel
theorem dL_law_1055 : decode cL_law 1055 = .ok (.aload_n 0, 1) := by decide +kernel
theorem dL_law_1056 : decode cL_law 1056 = .ok (.iload 4, 2) := by decide +kernel
theorem dL_law_1058 : decode cL_law 1058 = .ok (.iconst 1, 1) := by decide +kernel
theorem dL_law_1059 : decode cL_law 1059 = .ok (.iadd, 1) := by decide +kernel
theorem dL_law_1060 : decode cL_law 1060 = .ok (.iaload, 1) := by decide +kernel
theorem dL_law_1061 : decode cL_law 1061 = .ok (.aload_n 3, 1) := by decide +kernel
theorem dL_law_1062 : decode cL_law 1062 = .ok (.invokestatic 147, 3) := by decide +kernel
theorem dL_law_1065 : decode cL_law 1065 = .ok (.istore 5, 2) := by decide +kernel
theorem dL_law_1067 : decode cL_law 1067 = .ok (.aload_n 2, 1) := by decide +kernel
theorem dL_law_1068 : decode cL_law 1068 = .ok (.aload_n 0, 1) := by decide +kernel
theorem dL_law_1069 : decode cL_law 1069 = .ok (.iload 4, 2) := by decide +kernel
theorem dL_law_1071 : decode cL_law 1071 = .ok (.iconst 1, 1) := by decide +kernel
theorem dL_law_1072 : decode cL_law 1072 = .ok (.iadd, 1) := by decide +kernel
theorem dL_law_1073 : decode cL_law 1073 = .ok (.iaload, 1) := by decide +kernel
theorem dL_law_1074 : decode cL_law 1074 = .ok (.invokevirtual 149, 3) := by decide +kernel
theorem dL_law_1077 : decode cL_law 1077 = .ok (.istore 6, 2) := by decide +kernel
theorem dL_law_1079 : decode cL_law 1079 = .ok (.aload_n 2, 1) := by decide +kernel
theorem dL_law_1080 : decode cL_law 1080 = .ok (.invokevirtual 90, 3) := by decide +kernel
theorem dL_law_1083 : decode cL_law 1083 = .ok (.iload 5, 2) := by decide +kernel
theorem dL_law_1085 : decode cL_law 1085 = .ok (.if_icmp .eq 5, 3) := by decide +kernel
theorem dL_law_1088 : decode cL_law 1088 = .ok (.iconst 0, 1) := by decide +kernel
theorem dL_law_1089 : decode cL_law 1089 = .ok (.ireturn, 1) := by decide +kernel
theorem dL_law_1090 : decode cL_law 1090 = .ok (.iload 5, 2) := by decide +kernel
theorem dL_law_1092 : decode cL_law 1092 = .ok (.ifCond .ne 15, 3) := by decide +kernel
theorem dL_law_1095 : decode cL_law 1095 = .ok (.aload_n 3, 1) := by decide +kernel
theorem dL_law_1096 : decode cL_law 1096 = .ok (.iconst 0, 1) := by decide +kernel
theorem dL_law_1097 : decode cL_law 1097 = .ok (.laload, 1) := by decide +kernel
theorem dL_law_1098 : decode cL_law 1098 = .ok (.iload 6, 2) := by decide +kernel
theorem dL_law_1100 : decode cL_law 1100 = .ok (.i2l, 1) := by decide +kernel
theorem dL_law_1101 : decode cL_law 1101 = .ok (.lcmp, 1) := by decide +kernel
theorem dL_law_1102 : decode cL_law 1102 = .ok (.ifCond .eq 5, 3) := by decide +kernel
theorem dL_law_1105 : decode cL_law 1105 = .ok (.iconst 0, 1) := by decide +kernel
theorem dL_law_1106 : decode cL_law 1106 = .ok (.ireturn, 1) := by decide +kernel
theorem dL_law_1107 : decode cL_law 1107 = .ok (.goto 330, 3) := by decide +kernel
theorem dL_law_1110 : decode cL_law 1110 = .ok (.aload_n 1, 1) := by decide +kernel
theorem dL_law_1111 : decode cL_law 1111 = .ok (.aload_n 0, 1) := by decide +kernel
theorem dL_law_1112 : decode cL_law 1112 = .ok (.iload 4, 2) := by decide +kernel
theorem dL_law_1114 : decode cL_law 1114 = .ok (.iconst 1, 1) := by decide +kernel
theorem dL_law_1115 : decode cL_law 1115 = .ok (.iadd, 1) := by decide +kernel
theorem dL_law_1116 : decode cL_law 1116 = .ok (.iaload, 1) := by decide +kernel
theorem dL_law_1117 : decode cL_law 1117 = .ok (.aload_n 0, 1) := by decide +kernel
theorem dL_law_1118 : decode cL_law 1118 = .ok (.iload 4, 2) := by decide +kernel
theorem dL_law_1120 : decode cL_law 1120 = .ok (.iconst 2, 1) := by decide +kernel
theorem dL_law_1121 : decode cL_law 1121 = .ok (.iadd, 1) := by decide +kernel
theorem dL_law_1122 : decode cL_law 1122 = .ok (.iaload, 1) := by decide +kernel
theorem dL_law_1123 : decode cL_law 1123 = .ok (.aload_n 3, 1) := by decide +kernel
theorem dL_law_1124 : decode cL_law 1124 = .ok (.invokestatic 150, 3) := by decide +kernel
theorem dL_law_1127 : decode cL_law 1127 = .ok (.istore 5, 2) := by decide +kernel
theorem dL_law_1129 : decode cL_law 1129 = .ok (.aload_n 2, 1) := by decide +kernel
theorem dL_law_1130 : decode cL_law 1130 = .ok (.aload_n 0, 1) := by decide +kernel
theorem dL_law_1131 : decode cL_law 1131 = .ok (.iload 4, 2) := by decide +kernel
theorem dL_law_1133 : decode cL_law 1133 = .ok (.iconst 1, 1) := by decide +kernel
theorem dL_law_1134 : decode cL_law 1134 = .ok (.iadd, 1) := by decide +kernel
theorem dL_law_1135 : decode cL_law 1135 = .ok (.iaload, 1) := by decide +kernel
theorem dL_law_1136 : decode cL_law 1136 = .ok (.aload_n 0, 1) := by decide +kernel
theorem dL_law_1137 : decode cL_law 1137 = .ok (.iload 4, 2) := by decide +kernel
theorem dL_law_1139 : decode cL_law 1139 = .ok (.iconst 2, 1) := by decide +kernel
theorem dL_law_1140 : decode cL_law 1140 = .ok (.iadd, 1) := by decide +kernel
theorem dL_law_1141 : decode cL_law 1141 = .ok (.iaload, 1) := by decide +kernel
theorem dL_law_1142 : decode cL_law 1142 = .ok (.invokevirtual 152, 3) := by decide +kernel
theorem dL_law_1145 : decode cL_law 1145 = .ok (.istore 6, 2) := by decide +kernel
theorem dL_law_1147 : decode cL_law 1147 = .ok (.aload_n 2, 1) := by decide +kernel
theorem dL_law_1148 : decode cL_law 1148 = .ok (.invokevirtual 90, 3) := by decide +kernel
theorem dL_law_1151 : decode cL_law 1151 = .ok (.iload 5, 2) := by decide +kernel
theorem dL_law_1153 : decode cL_law 1153 = .ok (.if_icmp .eq 5, 3) := by decide +kernel
theorem dL_law_1156 : decode cL_law 1156 = .ok (.iconst 0, 1) := by decide +kernel
theorem dL_law_1157 : decode cL_law 1157 = .ok (.ireturn, 1) := by decide +kernel
theorem dL_law_1158 : decode cL_law 1158 = .ok (.iload 5, 2) := by decide +kernel
theorem dL_law_1160 : decode cL_law 1160 = .ok (.ifCond .ne 15, 3) := by decide +kernel
theorem dL_law_1163 : decode cL_law 1163 = .ok (.aload_n 3, 1) := by decide +kernel
theorem dL_law_1164 : decode cL_law 1164 = .ok (.iconst 0, 1) := by decide +kernel
theorem dL_law_1165 : decode cL_law 1165 = .ok (.laload, 1) := by decide +kernel
theorem dL_law_1166 : decode cL_law 1166 = .ok (.iload 6, 2) := by decide +kernel
theorem dL_law_1168 : decode cL_law 1168 = .ok (.i2l, 1) := by decide +kernel
theorem dL_law_1169 : decode cL_law 1169 = .ok (.lcmp, 1) := by decide +kernel
theorem dL_law_1170 : decode cL_law 1170 = .ok (.ifCond .eq 5, 3) := by decide +kernel
theorem dL_law_1173 : decode cL_law 1173 = .ok (.iconst 0, 1) := by decide +kernel
theorem dL_law_1174 : decode cL_law 1174 = .ok (.ireturn, 1) := by decide +kernel
theorem dL_law_1175 : decode cL_law 1175 = .ok (.goto 262, 3) := by decide +kernel
theorem dL_law_1178 : decode cL_law 1178 = .ok (.aload_n 1, 1) := by decide +kernel
theorem dL_law_1179 : decode cL_law 1179 = .ok (.aload_n 0, 1) := by decide +kernel
theorem dL_law_1180 : decode cL_law 1180 = .ok (.iload 4, 2) := by decide +kernel
theorem dL_law_1182 : decode cL_law 1182 = .ok (.iconst 1, 1) := by decide +kernel
theorem dL_law_1183 : decode cL_law 1183 = .ok (.iadd, 1) := by decide +kernel
theorem dL_law_1184 : decode cL_law 1184 = .ok (.iaload, 1) := by decide +kernel
theorem dL_law_1185 : decode cL_law 1185 = .ok (.aload_n 0, 1) := by decide +kernel
theorem dL_law_1186 : decode cL_law 1186 = .ok (.iload 4, 2) := by decide +kernel
theorem dL_law_1188 : decode cL_law 1188 = .ok (.iconst 2, 1) := by decide +kernel
theorem dL_law_1189 : decode cL_law 1189 = .ok (.iadd, 1) := by decide +kernel
theorem dL_law_1190 : decode cL_law 1190 = .ok (.iaload, 1) := by decide +kernel
theorem dL_law_1191 : decode cL_law 1191 = .ok (.aload_n 0, 1) := by decide +kernel
theorem dL_law_1192 : decode cL_law 1192 = .ok (.iload 4, 2) := by decide +kernel
theorem dL_law_1194 : decode cL_law 1194 = .ok (.iconst 3, 1) := by decide +kernel
theorem dL_law_1195 : decode cL_law 1195 = .ok (.iadd, 1) := by decide +kernel
theorem dL_law_1196 : decode cL_law 1196 = .ok (.iaload, 1) := by decide +kernel
theorem dL_law_1197 : decode cL_law 1197 = .ok (.aload_n 3, 1) := by decide +kernel
theorem dL_law_1198 : decode cL_law 1198 = .ok (.invokestatic 153, 3) := by decide +kernel
theorem dL_law_1201 : decode cL_law 1201 = .ok (.istore 5, 2) := by decide +kernel
theorem dL_law_1203 : decode cL_law 1203 = .ok (.aload_n 2, 1) := by decide +kernel
theorem dL_law_1204 : decode cL_law 1204 = .ok (.aload_n 0, 1) := by decide +kernel
theorem dL_law_1205 : decode cL_law 1205 = .ok (.iload 4, 2) := by decide +kernel
theorem dL_law_1207 : decode cL_law 1207 = .ok (.iconst 1, 1) := by decide +kernel
theorem dL_law_1208 : decode cL_law 1208 = .ok (.iadd, 1) := by decide +kernel
theorem dL_law_1209 : decode cL_law 1209 = .ok (.iaload, 1) := by decide +kernel
theorem dL_law_1210 : decode cL_law 1210 = .ok (.aload_n 0, 1) := by decide +kernel
theorem dL_law_1211 : decode cL_law 1211 = .ok (.iload 4, 2) := by decide +kernel
theorem dL_law_1213 : decode cL_law 1213 = .ok (.iconst 2, 1) := by decide +kernel
theorem dL_law_1214 : decode cL_law 1214 = .ok (.iadd, 1) := by decide +kernel
theorem dL_law_1215 : decode cL_law 1215 = .ok (.iaload, 1) := by decide +kernel
theorem dL_law_1216 : decode cL_law 1216 = .ok (.aload_n 0, 1) := by decide +kernel
theorem dL_law_1217 : decode cL_law 1217 = .ok (.iload 4, 2) := by decide +kernel
theorem dL_law_1219 : decode cL_law 1219 = .ok (.iconst 3, 1) := by decide +kernel
theorem dL_law_1220 : decode cL_law 1220 = .ok (.iadd, 1) := by decide +kernel
theorem dL_law_1221 : decode cL_law 1221 = .ok (.iaload, 1) := by decide +kernel
theorem dL_law_1222 : decode cL_law 1222 = .ok (.invokevirtual 155, 3) := by decide +kernel
theorem dL_law_1225 : decode cL_law 1225 = .ok (.istore 6, 2) := by decide +kernel
theorem dL_law_1227 : decode cL_law 1227 = .ok (.aload_n 2, 1) := by decide +kernel
theorem dL_law_1228 : decode cL_law 1228 = .ok (.invokevirtual 90, 3) := by decide +kernel
theorem dL_law_1231 : decode cL_law 1231 = .ok (.iload 5, 2) := by decide +kernel
theorem dL_law_1233 : decode cL_law 1233 = .ok (.if_icmp .eq 5, 3) := by decide +kernel
theorem dL_law_1236 : decode cL_law 1236 = .ok (.iconst 0, 1) := by decide +kernel
theorem dL_law_1237 : decode cL_law 1237 = .ok (.ireturn, 1) := by decide +kernel
theorem dL_law_1238 : decode cL_law 1238 = .ok (.iload 5, 2) := by decide +kernel
theorem dL_law_1240 : decode cL_law 1240 = .ok (.ifCond .ne 15, 3) := by decide +kernel
theorem dL_law_1243 : decode cL_law 1243 = .ok (.aload_n 3, 1) := by decide +kernel
theorem dL_law_1244 : decode cL_law 1244 = .ok (.iconst 0, 1) := by decide +kernel
theorem dL_law_1245 : decode cL_law 1245 = .ok (.laload, 1) := by decide +kernel
theorem dL_law_1246 : decode cL_law 1246 = .ok (.iload 6, 2) := by decide +kernel
theorem dL_law_1248 : decode cL_law 1248 = .ok (.i2l, 1) := by decide +kernel
theorem dL_law_1249 : decode cL_law 1249 = .ok (.lcmp, 1) := by decide +kernel
theorem dL_law_1250 : decode cL_law 1250 = .ok (.ifCond .eq 5, 3) := by decide +kernel
theorem dL_law_1253 : decode cL_law 1253 = .ok (.iconst 0, 1) := by decide +kernel
theorem dL_law_1254 : decode cL_law 1254 = .ok (.ireturn, 1) := by decide +kernel
theorem dL_law_1255 : decode cL_law 1255 = .ok (.goto 182, 3) := by decide +kernel
theorem dL_law_1258 : decode cL_law 1258 = .ok (.aload_n 1, 1) := by decide +kernel
theorem dL_law_1259 : decode cL_law 1259 = .ok (.aload_n 0, 1) := by decide +kernel
theorem dL_law_1260 : decode cL_law 1260 = .ok (.iload 4, 2) := by decide +kernel
theorem dL_law_1262 : decode cL_law 1262 = .ok (.iconst 1, 1) := by decide +kernel
theorem dL_law_1263 : decode cL_law 1263 = .ok (.iadd, 1) := by decide +kernel
theorem dL_law_1264 : decode cL_law 1264 = .ok (.iaload, 1) := by decide +kernel
theorem dL_law_1265 : decode cL_law 1265 = .ok (.aload_n 0, 1) := by decide +kernel
theorem dL_law_1266 : decode cL_law 1266 = .ok (.iload 4, 2) := by decide +kernel
theorem dL_law_1268 : decode cL_law 1268 = .ok (.iconst 2, 1) := by decide +kernel
theorem dL_law_1269 : decode cL_law 1269 = .ok (.iadd, 1) := by decide +kernel
theorem dL_law_1270 : decode cL_law 1270 = .ok (.iaload, 1) := by decide +kernel
theorem dL_law_1271 : decode cL_law 1271 = .ok (.aload_n 3, 1) := by decide +kernel
theorem dL_law_1272 : decode cL_law 1272 = .ok (.invokestatic 156, 3) := by decide +kernel
theorem dL_law_1275 : decode cL_law 1275 = .ok (.istore 5, 2) := by decide +kernel
theorem dL_law_1277 : decode cL_law 1277 = .ok (.aload_n 2, 1) := by decide +kernel
theorem dL_law_1278 : decode cL_law 1278 = .ok (.aload_n 0, 1) := by decide +kernel
theorem dL_law_1279 : decode cL_law 1279 = .ok (.iload 4, 2) := by decide +kernel
theorem dL_law_1281 : decode cL_law 1281 = .ok (.iconst 1, 1) := by decide +kernel
theorem dL_law_1282 : decode cL_law 1282 = .ok (.iadd, 1) := by decide +kernel
theorem dL_law_1283 : decode cL_law 1283 = .ok (.iaload, 1) := by decide +kernel
theorem dL_law_1284 : decode cL_law 1284 = .ok (.aload_n 0, 1) := by decide +kernel
theorem dL_law_1285 : decode cL_law 1285 = .ok (.iload 4, 2) := by decide +kernel
theorem dL_law_1287 : decode cL_law 1287 = .ok (.iconst 2, 1) := by decide +kernel
theorem dL_law_1288 : decode cL_law 1288 = .ok (.iadd, 1) := by decide +kernel
theorem dL_law_1289 : decode cL_law 1289 = .ok (.iaload, 1) := by decide +kernel
theorem dL_law_1290 : decode cL_law 1290 = .ok (.invokevirtual 158, 3) := by decide +kernel
theorem dL_law_1293 : decode cL_law 1293 = .ok (.istore 6, 2) := by decide +kernel
theorem dL_law_1295 : decode cL_law 1295 = .ok (.aload_n 2, 1) := by decide +kernel
theorem dL_law_1296 : decode cL_law 1296 = .ok (.invokevirtual 90, 3) := by decide +kernel
theorem dL_law_1299 : decode cL_law 1299 = .ok (.iload 5, 2) := by decide +kernel
theorem dL_law_1301 : decode cL_law 1301 = .ok (.if_icmp .eq 5, 3) := by decide +kernel
theorem dL_law_1304 : decode cL_law 1304 = .ok (.iconst 0, 1) := by decide +kernel
theorem dL_law_1305 : decode cL_law 1305 = .ok (.ireturn, 1) := by decide +kernel
theorem dL_law_1306 : decode cL_law 1306 = .ok (.iload 5, 2) := by decide +kernel
theorem dL_law_1308 : decode cL_law 1308 = .ok (.ifCond .ne 15, 3) := by decide +kernel
theorem dL_law_1311 : decode cL_law 1311 = .ok (.aload_n 3, 1) := by decide +kernel
theorem dL_law_1312 : decode cL_law 1312 = .ok (.iconst 0, 1) := by decide +kernel
theorem dL_law_1313 : decode cL_law 1313 = .ok (.laload, 1) := by decide +kernel
theorem dL_law_1314 : decode cL_law 1314 = .ok (.iload 6, 2) := by decide +kernel
theorem dL_law_1316 : decode cL_law 1316 = .ok (.i2l, 1) := by decide +kernel
theorem dL_law_1317 : decode cL_law 1317 = .ok (.lcmp, 1) := by decide +kernel
theorem dL_law_1318 : decode cL_law 1318 = .ok (.ifCond .eq 5, 3) := by decide +kernel
theorem dL_law_1321 : decode cL_law 1321 = .ok (.iconst 0, 1) := by decide +kernel
theorem dL_law_1322 : decode cL_law 1322 = .ok (.ireturn, 1) := by decide +kernel
theorem dL_law_1323 : decode cL_law 1323 = .ok (.goto 114, 3) := by decide +kernel
theorem dL_law_1326 : decode cL_law 1326 = .ok (.aload_n 1, 1) := by decide +kernel
theorem dL_law_1327 : decode cL_law 1327 = .ok (.aload_n 0, 1) := by decide +kernel
theorem dL_law_1328 : decode cL_law 1328 = .ok (.iload 4, 2) := by decide +kernel
theorem dL_law_1330 : decode cL_law 1330 = .ok (.iconst 1, 1) := by decide +kernel
theorem dL_law_1331 : decode cL_law 1331 = .ok (.iadd, 1) := by decide +kernel
theorem dL_law_1332 : decode cL_law 1332 = .ok (.iaload, 1) := by decide +kernel
theorem dL_law_1333 : decode cL_law 1333 = .ok (.aload_n 3, 1) := by decide +kernel
theorem dL_law_1334 : decode cL_law 1334 = .ok (.invokestatic 159, 3) := by decide +kernel
theorem dL_law_1337 : decode cL_law 1337 = .ok (.istore 5, 2) := by decide +kernel
theorem dL_law_1339 : decode cL_law 1339 = .ok (.aload_n 2, 1) := by decide +kernel
theorem dL_law_1340 : decode cL_law 1340 = .ok (.aload_n 0, 1) := by decide +kernel
theorem dL_law_1341 : decode cL_law 1341 = .ok (.iload 4, 2) := by decide +kernel
theorem dL_law_1343 : decode cL_law 1343 = .ok (.iconst 1, 1) := by decide +kernel
theorem dL_law_1344 : decode cL_law 1344 = .ok (.iadd, 1) := by decide +kernel
theorem dL_law_1345 : decode cL_law 1345 = .ok (.iaload, 1) := by decide +kernel
theorem dL_law_1346 : decode cL_law 1346 = .ok (.invokevirtual 161, 3) := by decide +kernel
theorem dL_law_1349 : decode cL_law 1349 = .ok (.istore 6, 2) := by decide +kernel
theorem dL_law_1351 : decode cL_law 1351 = .ok (.aload_n 2, 1) := by decide +kernel
theorem dL_law_1352 : decode cL_law 1352 = .ok (.invokevirtual 90, 3) := by decide +kernel
theorem dL_law_1355 : decode cL_law 1355 = .ok (.iload 5, 2) := by decide +kernel
theorem dL_law_1357 : decode cL_law 1357 = .ok (.if_icmp .eq 5, 3) := by decide +kernel
theorem dL_law_1360 : decode cL_law 1360 = .ok (.iconst 0, 1) := by decide +kernel
theorem dL_law_1361 : decode cL_law 1361 = .ok (.ireturn, 1) := by decide +kernel
theorem dL_law_1362 : decode cL_law 1362 = .ok (.iload 5, 2) := by decide +kernel
theorem dL_law_1364 : decode cL_law 1364 = .ok (.ifCond .ne 15, 3) := by decide +kernel
theorem dL_law_1367 : decode cL_law 1367 = .ok (.aload_n 3, 1) := by decide +kernel
theorem dL_law_1368 : decode cL_law 1368 = .ok (.iconst 0, 1) := by decide +kernel
theorem dL_law_1369 : decode cL_law 1369 = .ok (.laload, 1) := by decide +kernel
theorem dL_law_1370 : decode cL_law 1370 = .ok (.iload 6, 2) := by decide +kernel
theorem dL_law_1372 : decode cL_law 1372 = .ok (.i2l, 1) := by decide +kernel
theorem dL_law_1373 : decode cL_law 1373 = .ok (.lcmp, 1) := by decide +kernel
theorem dL_law_1374 : decode cL_law 1374 = .ok (.ifCond .eq 5, 3) := by decide +kernel
theorem dL_law_1377 : decode cL_law 1377 = .ok (.iconst 0, 1) := by decide +kernel
theorem dL_law_1378 : decode cL_law 1378 = .ok (.ireturn, 1) := by decide +kernel
theorem dL_law_1379 : decode cL_law 1379 = .ok (.goto 58, 3) := by decide +kernel
theorem dL_law_1382 : decode cL_law 1382 = .ok (.aload_n 1, 1) := by decide +kernel
theorem dL_law_1383 : decode cL_law 1383 = .ok (.invokevirtual 162, 3) := by decide +kernel
theorem dL_law_1386 : decode cL_law 1386 = .ok (.dstore 5, 2) := by decide +kernel
theorem dL_law_1388 : decode cL_law 1388 = .ok (.aload_n 2, 1) := by decide +kernel
theorem dL_law_1389 : decode cL_law 1389 = .ok (.invokevirtual 166, 3) := by decide +kernel
theorem dL_law_1392 : decode cL_law 1392 = .ok (.dstore 7, 2) := by decide +kernel
theorem dL_law_1394 : decode cL_law 1394 = .ok (.dload 5, 2) := by decide +kernel
theorem dL_law_1396 : decode cL_law 1396 = .ok (.dload 7, 2) := by decide +kernel
theorem dL_law_1398 : decode cL_law 1398 = .ok (.dcmp .l, 1) := by decide +kernel
theorem dL_law_1399 : decode cL_law 1399 = .ok (.ifCond .eq 21, 3) := by decide +kernel
theorem dL_law_1402 : decode cL_law 1402 = .ok (.dload 5, 2) := by decide +kernel
theorem dL_law_1404 : decode cL_law 1404 = .ok (.dload 5, 2) := by decide +kernel
theorem dL_law_1406 : decode cL_law 1406 = .ok (.dcmp .l, 1) := by decide +kernel
theorem dL_law_1407 : decode cL_law 1407 = .ok (.ifCond .eq 11, 3) := by decide +kernel
theorem dL_law_1410 : decode cL_law 1410 = .ok (.dload 7, 2) := by decide +kernel
theorem dL_law_1412 : decode cL_law 1412 = .ok (.dload 7, 2) := by decide +kernel
theorem dL_law_1414 : decode cL_law 1414 = .ok (.dcmp .l, 1) := by decide +kernel
theorem dL_law_1415 : decode cL_law 1415 = .ok (.ifCond .ne 5, 3) := by decide +kernel
theorem dL_law_1418 : decode cL_law 1418 = .ok (.iconst 0, 1) := by decide +kernel
theorem dL_law_1419 : decode cL_law 1419 = .ok (.ireturn, 1) := by decide +kernel
theorem dL_law_1420 : decode cL_law 1420 = .ok (.goto 17, 3) := by decide +kernel
theorem dL_law_1423 : decode cL_law 1423 = .ok (.aload_n 1, 1) := by decide +kernel
theorem dL_law_1424 : decode cL_law 1424 = .ok (.invokevirtual 167, 3) := by decide +kernel
theorem dL_law_1427 : decode cL_law 1427 = .ok (.aload_n 2, 1) := by decide +kernel
theorem dL_law_1428 : decode cL_law 1428 = .ok (.invokevirtual 171, 3) := by decide +kernel
theorem dL_law_1431 : decode cL_law 1431 = .ok (.lcmp, 1) := by decide +kernel
theorem dL_law_1432 : decode cL_law 1432 = .ok (.ifCond .eq 5, 3) := by decide +kernel
theorem dL_law_1435 : decode cL_law 1435 = .ok (.iconst 0, 1) := by decide +kernel
theorem dL_law_1436 : decode cL_law 1436 = .ok (.ireturn, 1) := by decide +kernel
theorem dL_law_1437 : decode cL_law 1437 = .ok (.iinc 4 4, 3) := by decide +kernel
theorem dL_law_1440 : decode cL_law 1440 = .ok (.goto (-1417), 3) := by decide +kernel
theorem dL_law_1443 : decode cL_law 1443 = .ok (.iconst 1, 1) := by decide +kernel
theorem dL_law_1444 : decode cL_law 1444 = .ok (.ireturn, 1) := by decide +kernel
end
section
/-! THE PURE LAYER: values and memory without addresses. A value: int, long, double, or an object by its kind t, region r and number j.
Regions: 0..7 the offices (0 office, 1 trial, 2..7 saves), 8 the TestSlots object and its text, 9 the model, 10 what is only read, and the law's row.
Kinds: 0 Office, 1 settings, 2 diary, 3 queue, 4 Pupil, 5 Examiner, 6 routes, 7 pupils, 8 examiners, 10 TestSlots, 11 saves, 12 OrderText, 13 codes, 14 kinds, 15 numbers, 16 days,
20 TestSlotsModel, 21 s, 22 aside, 23 saved, 24 text, 25 order, 26 told, 27 has, 28 mine, 29 by, 30 isOn, 40 out, 41 script, 42 FIRST_SETTINGS, 43 HIGHEST_SETTINGS, 44 words, 45 their bytes. -/
abbrev PV : Type := Int32 ⊕ (Int64 ⊕ (UInt64 ⊕ (Nat × Nat × Nat)))
abbrev pI (x : Int32) : PV := .inl x
abbrev pL (x : Int64) : PV := .inr (.inl x)
abbrev pD (x : UInt64) : PV := .inr (.inr (.inl x))
abbrev pO (t r j : Nat) : PV := .inr (.inr (.inr (t, r, j)))
/-- ints by region, kind, number, place; two longs: 0 the law's out[0], 1 the model's digested -/
abbrev PM : Type := (Nat → Nat → Nat → Nat → Int32) × (Nat → Int64)
/-- the end of a method: a value or none, or an exception by its number -/
abbrev Ou : Type := Option PV ⊕ Nat
abbrev MD : Type := String × ByteArray × Nat × Option FieldType × List (Nat × Nat × Nat × Nat)
/-- what stays the same throughout: launch, slots of fields, classes of rows, addresses, the first new address, length and contents of the script -/
abbrev GG : Type := Launch × va_G × (Nat → ClassId) × (Nat → Nat → Nat → Nat) × Nat × Nat × (Nat → Int32)
abbrev gl (g : GG) : Launch := g.1
abbrev gD (g : GG) : va_G := g.2.1
abbrev gc (g : GG) : Nat → ClassId := g.2.2.1
abbrev ga (g : GG) : Nat → Nat → Nat → Nat := g.2.2.2.1
abbrev gN (g : GG) : Nat := g.2.2.2.2.1
abbrev gL (g : GG) : Nat := g.2.2.2.2.2.1
abbrev gx (g : GG) : Nat → Int32 := g.2.2.2.2.2.2
abbrev gA (g : GG) : Nat → Prop := fun q => gN g ≤ q
/-- what may be written -/
def trip : List (Nat × Nat × Nat) :=
  (List.range 8).flatMap (fun r => [(0, r, 0), (1, r, 0), (2, r, 0), (3, r, 0), (7, r, 0), (8, r, 0)] ++ (List.range 12).map (fun j => (4, r, j)) ++ (List.range 4).flatMap (fun j => [(5, r, j), (6, r, j)]))
  ++ [(10, 8, 0), (11, 8, 0), (12, 8, 0), (13, 8, 0), (14, 8, 0), (15, 8, 0), (16, 8, 0)]
  ++ [(20, 9, 0), (21, 9, 0), (22, 9, 0), (23, 9, 0), (24, 9, 0), (25, 9, 0), (26, 9, 0), (27, 9, 0), (28, 9, 0), (29, 9, 0), (30, 9, 0), (40, 10, 0)]
def rtrip : List (Nat × Nat × Nat) := [(41, 10, 0), (42, 10, 0), (43, 10, 0)] ++ (List.range 6).flatMap (fun j => [(44, 10, j), (45, 10, j)])
theorem trip_nodup : trip.Nodup := by decide +kernel
theorem rtrip_big : ∀ z ∈ rtrip, 41 ≤ z.1 := by decide +kernel
/-- fields by kind: 0 int, 1 boolean, 2 long, 3 a reference that stays: its kind, its region (0: the same, r + 1 else) -/
def fds (t : Nat) : List (Nat × Nat × Nat) :=
  if t = 0 then [(0, 0, 0), (0, 0, 0), (0, 0, 0), (0, 0, 0), (0, 0, 0), (3, 1, 0), (3, 2, 0), (3, 7, 0), (3, 8, 0), (3, 3, 0)] else
  if t = 4 then [(0, 0, 0), (0, 0, 0), (0, 0, 0), (0, 0, 0), (0, 0, 0), (0, 0, 0), (0, 0, 0), (0, 0, 0), (0, 0, 0)] else
  if t = 5 then [(3, 6, 0), (0, 0, 0), (0, 0, 0)] else
  if t = 10 then [(3, 0, 1), (3, 0, 2), (3, 11, 0), (0, 0, 0), (3, 12, 0)] else
  if t = 12 then [(3, 13, 0), (0, 0, 0), (0, 0, 0), (0, 0, 0), (3, 14, 0), (3, 15, 0), (3, 16, 0)] else
  if t = 20 then [(0, 0, 0), (3, 21, 0), (3, 22, 0), (3, 23, 0), (0, 0, 0), (3, 24, 0), (0, 0, 0), (3, 25, 0), (0, 0, 0), (1, 0, 0), (3, 26, 0), (3, 27, 0), (3, 28, 0), (3, 29, 0), (3, 30, 0), (2, 0, 0)] else
  []
/-- the number of the class among vwCl -/
def cix (t : Nat) : Nat :=
  if t = 0 then 1 else
  if t = 4 then 3 else
  if t = 5 then 0 else
  if t = 10 then 4 else
  if t = 12 then 2 else
  if t = 20 then 5 else
  9
/-- rows: 0 int, 1 boolean, 2 long, 3 Pupil, 4 Examiner, 5 Office; and the length -/
def ark (t : Nat) : Option (Nat × Nat) :=
  if t = 1 then some (0, 4) else
  if t = 2 then some (0, 160) else
  if t = 3 then some (0, 12) else
  if t = 6 then some (0, 4) else
  if t = 7 then some (3, 12) else
  if t = 8 then some (4, 4) else
  if t = 11 then some (5, 6) else
  if t = 13 then some (0, 60) else
  if t = 14 then some (0, 60) else
  if t = 15 then some (0, 60) else
  if t = 16 then some (0, 60) else
  if t = 21 then some (0, 341) else
  if t = 22 then some (0, 341) else
  if t = 23 then some (0, 2046) else
  if t = 24 then some (0, 60) else
  if t = 25 then some (0, 12) else
  if t = 26 then some (0, 3) else
  if t = 27 then some (0, 16) else
  if t = 28 then some (0, 12) else
  if t = 29 then some (0, 16) else
  if t = 30 then some (1, 12) else
  if t = 40 then some (2, 1) else
  none
abbrev ix (x : Int32) : Nat := x.toNatClampNeg
def fvl (z : Nat × Nat × Nat) (m : PM) (k : Nat) (d : Nat × Nat × Nat) : PV :=
  if d.1 = 3 then (if d.2.2 = 0 then pO d.2.1 z.2.1 z.2.2 else pO d.2.1 (d.2.2 - 1) z.2.2) else if d.1 = 2 then pL (m.2 1) else pI (m.1 z.2.1 z.1 z.2.2 k)
def fget (z : Nat × Nat × Nat) (m : PM) (k : Nat) : Option PV := ((fds z.1)[k]?).map (fvl z m k)
def pv (g : GG) (v : PV) : Value := match v with
  | .inl x => .int x
  | .inr (.inl x) => .long x
  | .inr (.inr (.inl x)) => .double x
  | .inr (.inr (.inr z)) => .ref (ga g z.1 z.2.1 z.2.2)
def obv (g : GG) (m : PM) (z : Nat × Nat × Nat) : List Value := (List.range (fds z.1).length).map (fun k => match fget z m k with | some v => pv g v | none => .null)
def arc (g : GG) (m : PM) (z : Nat × Nat × Nat) (k : Nat) : (Nat → Int32) ⊕ (Nat → Int64) ⊕ (Nat → UInt32) ⊕ (Nat → UInt64) ⊕ (Nat → Option Nat) :=
  if k = 2 then .inr (.inl (fun i => if i = 0 then m.2 0 else 0)) else
  if k = 3 then .inr (.inr (.inr (.inr (fun i => some (ga g 4 z.2.1 i))))) else
  if k = 4 then .inr (.inr (.inr (.inr (fun i => some (ga g 5 z.2.1 i))))) else
  if k = 5 then .inr (.inr (.inr (.inr (fun i => some (ga g 0 (ix (m.1 8 11 0 i)) 0))))) else
  .inl (m.1 z.2.1 z.1 z.2.2)
def cellE (g : GG) (m : PM) (z : Nat × Nat × Nat) : va_E := match ark z.1 with
  | some (k, n) => .inl (gc g k, n, arc g m z k)
  | none => .inr (cix z.1, obv g m z)
def cells (g : GG) (m : PM) : va_W := trip.map (fun z => (ga g z.1 z.2.1 z.2.2, cellE g m z))
abbrev World (g : GG) (m : PM) (H : Heap) : Prop := va_P (gD g) vwCl (cells g m) H
/-- writing: a row of a kind in a region; a place of it; a long -/
def tset (τ : Nat → Nat → Nat → Int32) (t j : Nat) (f : Nat → Int32) : Nat → Nat → Nat → Int32 := fun t' => if t' = t then (fun j' => if j' = j then f else τ t' j') else τ t'
def rset (m : PM) (r : Nat) (τ : Nat → Nat → Nat → Int32) : PM := (fun r' => if r' = r then τ else m.1 r', m.2)
def setR (m : PM) (t r j : Nat) (f : Nat → Int32) : PM := rset m r (tset (m.1 r) t j f)
def setI (m : PM) (t r j k : Nat) (x : Int32) : PM := setR m t r j (upd (m.1 r t j) k x)
def setL (m : PM) (k : Nat) (x : Int64) : PM := (m.1, vp_updL m.2 k x)
theorem setR_s (m : PM) (t r j : Nat) (f : Nat → Int32) : (setR m t r j f).1 r t j = f := by simp [setR, rset, tset]
theorem setR_n (m : PM) {t r j : Nat} (f : Nat → Int32) {t' r' j' : Nat} (h : (t', r', j') ≠ (t, r, j)) : (setR m t r j f).1 r' t' j' = m.1 r' t' j' := by
  by_cases h1 : r' = r
  · subst h1
    by_cases h2 : t' = t
    · subst h2
      by_cases h3 : j' = j
      · subst h3
        exact absurd rfl h
      · simp [setR, rset, tset, h3]
    · simp [setR, rset, tset, h2]
  · simp [setR, rset, h1]
theorem setR_l (m : PM) (t r j : Nat) (f : Nat → Int32) : (setR m t r j f).2 = m.2 := rfl
/-- a kind and number are among what may be written, and their place in the list -/
theorem cells_at {g : GG} {m : PM} {z : Nat × Nat × Nat} {q0 : Nat} (h : trip[q0]? = some z) : (cells g m)[q0]? = some (ga g z.1 z.2.1 z.2.2, cellE g m z) := by
  simp [cells, List.getElem?_map, h]
theorem trip_inj {i j : Nat} {z : Nat × Nat × Nat} (hi : trip[i]? = some z) (hj : trip[j]? = some z) : i = j := by
  obtain ⟨h1, h2⟩ := List.getElem?_eq_some_iff.mp hi
  obtain ⟨h3, h4⟩ := List.getElem?_eq_some_iff.mp hj
  exact (List.getElem_inj trip_nodup).mp (h2.trans h4.symm)
theorem cells_set {g : GG} {m m' : PM} {z : Nat × Nat × Nat} {q0 : Nat} {e : va_E} (h : trip[q0]? = some z) (he : cellE g m' z = e) (ho : ∀ z' ∈ trip, z' ≠ z → cellE g m' z' = cellE g m z') : (cells g m).set q0 (ga g z.1 z.2.1 z.2.2, e) = cells g m' := by
  apply List.ext_getElem?
  intro i
  rw [List.getElem?_set]
  by_cases hi : q0 = i
  · subst hi
    rw [cells_at (m := m') h, he]
    have hl : q0 < (cells g m).length := by
      have := (List.getElem?_eq_some_iff.mp h).1
      simpa [cells] using this
    simp [hl]
  · rw [if_neg hi]
    cases hz : trip[i]? with
    | none => simp [cells, List.getElem?_map, hz]
    | some z' =>
      rw [cells_at hz, cells_at hz, ho z' (List.mem_of_getElem? hz) (fun q => hi (trip_inj h (q ▸ hz)))]
theorem fds_none {t : Nat} (h : 21 ≤ t) : fds t = [] := by
  unfold fds
  rw [if_neg (by omega), if_neg (by omega), if_neg (by omega), if_neg (by omega), if_neg (by omega), if_neg (by omega)]
theorem fds_tab : ∀ t, t < 21 → (fds t).all (fun p => p.1 != 2 || t == 20) = true := by decide +kernel
theorem fds_long {t k : Nat} {d : Nat × Nat × Nat} (h : (fds t)[k]? = some d) (h2 : d.1 = 2) : t = 20 := by
  rcases Nat.lt_or_ge t 21 with q | q
  · have := List.all_eq_true.mp (fds_tab t q) d (List.mem_of_getElem? h)
    rw [h2] at this
    simpa using this
  · rw [fds_none q] at h
    simp at h
theorem ark_tab : ∀ t, t < 41 → (ark t).all (fun p => (p.1 != 2 || t == 40) && (decide (p.1 < 5) || t == 11)) = true := by decide +kernel
theorem ark_none {t : Nat} (h : 41 ≤ t) : ark t = none := by
  unfold ark
  rw [if_neg (by omega), if_neg (by omega), if_neg (by omega), if_neg (by omega), if_neg (by omega), if_neg (by omega), if_neg (by omega), if_neg (by omega), if_neg (by omega), if_neg (by omega), if_neg (by omega), if_neg (by omega), if_neg (by omega), if_neg (by omega), if_neg (by omega), if_neg (by omega), if_neg (by omega), if_neg (by omega), if_neg (by omega), if_neg (by omega), if_neg (by omega), if_neg (by omega)]
theorem ark_both {t k n : Nat} (h : ark t = some (k, n)) : (k = 2 → t = 40) ∧ (5 ≤ k → t = 11) := by
  rcases Nat.lt_or_ge t 41 with q | q
  · have := ark_tab t q
    rw [h] at this
    simp at this
    exact ⟨fun e => this.1.resolve_left (fun z => z e), fun e => this.2.resolve_left (by omega)⟩
  · rw [ark_none q] at h
    cases h
theorem ark_long {t n : Nat} (h : ark t = some (2, n)) : t = 40 := (ark_both h).1 rfl
theorem ark_off {t k n : Nat} (h : ark t = some (k + 5, n)) : t = 11 := (ark_both h).2 (by omega)
/-- what a cell shows depends on its own row, on the longs, and (the saves) on its own row in its region -/
theorem cellE_kept {g : GG} {m m' : PM} {z : Nat × Nat × Nat} (h1 : m'.1 z.2.1 z.1 z.2.2 = m.1 z.2.1 z.1 z.2.2) (h2 : z.1 = 20 → m'.2 1 = m.2 1) (h3 : z.1 = 40 → m'.2 0 = m.2 0) (h4 : z.1 = 11 → m'.1 8 11 0 = m.1 8 11 0) : cellE g m' z = cellE g m z := by
  obtain ⟨t, r, j⟩ := z
  have h1' : m'.1 r t j = m.1 r t j := h1
  have hob : obv g m' (t, r, j) = obv g m (t, r, j) := by
    unfold obv
    refine List.map_congr_left fun k hk => ?_
    have e : fget (t, r, j) m' k = fget (t, r, j) m k := by
      unfold fget
      cases hd : (fds t)[k]? with
      | none => rfl
      | some d =>
        show some _ = some _
        unfold fvl
        by_cases e3 : d.1 = 3
        · rw [if_pos e3, if_pos e3]
        · rw [if_neg e3, if_neg e3]
          by_cases e2 : d.1 = 2
          · rw [if_pos e2, if_pos e2, h2 (fds_long hd e2)]
          · rw [if_neg e2, if_neg e2]
            show some (pI (m'.1 r t j k)) = some (pI (m.1 r t j k))
            rw [h1']
    rw [e]
  unfold cellE
  cases ha : ark (t, r, j).1 with
  | none => simp only [hob]
  | some kn =>
    obtain ⟨k, n⟩ := kn
    have ea : arc g m' (t, r, j) k = arc g m (t, r, j) k := by
      unfold arc
      by_cases e2 : k = 2
      · rw [if_pos e2, if_pos e2, h3 ((ark_both ha).1 e2)]
      · rw [if_neg e2, if_neg e2]
        by_cases e3 : k = 3
        · rw [if_pos e3, if_pos e3]
        · rw [if_neg e3, if_neg e3]
          by_cases e4 : k = 4
          · rw [if_pos e4, if_pos e4]
          · rw [if_neg e4, if_neg e4]
            by_cases e5 : k = 5
            · rw [if_pos e5, if_pos e5, h4 ((ark_both ha).2 (by omega))]
            · rw [if_neg e5, if_neg e5]
              show Sum.inl (m'.1 r t j) = Sum.inl (m.1 r t j)
              rw [h1']
    show Sum.inl _ = Sum.inl _
    rw [ea]
end
section
/-! THE CONTEXT: what every method knows of the state it starts in; and Wq: a method at a place, over the pure memory, comes to an end with Q -/
def gTbl : List Cond := lw_tbl.filter goodWord
theorem gTbl_good : GoodIn gTbl gTbl := goodIn_sub (fun _ h => h) (List.all_eq_true.mpr fun w h => (List.mem_filter.mp h).2)
theorem gT {w : Cond} (i : Nat) (h : lw_tbl[i]? = some w) (hg : goodWord w = true) : w ∈ gTbl := List.mem_filter.mpr ⟨List.mem_of_getElem? h, hg⟩
abbrev tysG (g : GG) : List (ClassId × FieldType) := [(gc g 0, .int), (gc g 1, .boolean), (gc g 2, .long), (gc g 3, .object "TestSlots$Pupil"), (gc g 4, .object "TestSlots$Examiner"), (gc g 5, .object "TestSlots$Office")]
/-- the words of the orders, as the text's class holds them: their places in its constants, texts, bytes -/
def wdI : List Nat := [64, 66, 68, 70, 72, 74]
def wdT : List String := ["ask", "quit", "pass", "fail", "ill", "next"]
def wdB : List (List Int32) := [[97, 115, 107], [113, 117, 105, 116], [112, 97, 115, 115], [102, 97, 105, 108], [105, 108, 108], [110, 101, 120, 116]]
def wdL : List Nat := [3, 4, 4, 4, 3, 4]
/-- the exceptions' texts: their places in the constants of TestSlots -/
def exT : List (Nat × String) := [(39, "there are 4 examiners"), (54, "there are 12 pupils"), (65, "no such pupil"), (71, "the pupil is not idle"), (80, "the pupil has no slot, and does not wait"), (88, "no such examiner"), (96, "days is out of range"), (106, "the pupil has no slot of today"), (116, "the day would be above 9999"), (124, "no such setting"), (130, "value is out of range"), (135, "code is not 33 to 126"), (140, "the buffer has 60 characters"), (155, "the buffer is not complete orders"), (163, "there is no saved state"), (169, "what is not 0 to 10"), (174, "what is not 0 to 8"), (179, "days or slot is out of range"), (188, "what is not 0 to 14"), (193, "what is not 0 to 2"), (201, "days is out of range, or what is not 0 to 2"), (206, "no such pupil or examiner")]
/-- calls between nest mates: the class that calls, the place, the method -/
def nestW : List (String × Nat × MethodName) := [("TestSlots$Office", 103, yX4_daysTo), ("TestSlots$Office", 99, yX4_partOfCell), ("TestSlots$Office", 120, yX4_examinerAt), ("TestSlots$Office", 106, yX4_cellAt), ("TestSlots$Office", 64, yX3_init), ("TestSlots$Office", 65, yX0_init), ("TestSlots", 29, yX2_init)]
/-- exceptions by their numbers 1, 2, 3; which is none of which -/
def exN : List String := ["java/lang/IllegalStateException", "java/lang/IllegalArgumentException", "java/lang/IndexOutOfBoundsException"]
def ncW : List (String × String) := [("java/lang/IndexOutOfBoundsException", "java/lang/IllegalStateException"), ("java/lang/IllegalArgumentException", "java/lang/IllegalStateException"), ("java/lang/IllegalStateException", "java/lang/IndexOutOfBoundsException"), ("java/lang/IllegalArgumentException", "java/lang/IndexOutOfBoundsException"), ("java/lang/IllegalStateException", "java/lang/IllegalArgumentException"), ("java/lang/IndexOutOfBoundsException", "java/lang/IllegalArgumentException")]
def decW : List MethodName := [Bundle.initS "java/lang/RuntimeException", Bundle.initS "java/lang/Exception", Bundle.initS "java/lang/Throwable"]
def fsT (k : Nat) : Value := .int (([3, 1, 2, 50] : List Int32).getD k 0)
def hsT (k : Nat) : Value := .int (([20, 1, 9, 999] : List Int32).getD k 0)
/-- what is only read -/
def Fz (g : GG) (U : State) (H : Heap) : Prop :=
  (va_X (ga g 41 10 0) (gL g) (gx g) U H ∧ ga g 41 10 0 < gN g) ∧
  (va_T .int (ga g 42 10 0) 4 fsT (gA g) U H ∧ va_Z "TestSlots" "FIRST_SETTINGS" "[I" (.ref (ga g 42 10 0)) (gA g) U H) ∧
  (va_T .int (ga g 43 10 0) 4 hsT (gA g) U H ∧ va_Z "TestSlots" "HIGHEST_SETTINGS" "[I" (.ref (ga g 43 10 0)) (gA g) U H) ∧
  (vx_Zq Bundle.tN "UNASSIGNED_STACK" Bundle.steD (gA g) U H ∧ vx_Zq Bundle.tN "SUPPRESSED_SENTINEL" Bundle.listD (gA g) U H) ∧
  (vk_S 6 wdL wdB (fun j => ga g 44 10 j) (fun j => ga g 45 10 j) (gA g) U H ∧ va_Z "java/lang/String" "COMPACT_STRINGS" "Z" (.int 1) (gA g) U H ∧ va_Zq "jdk/internal/util/Preconditions" "SIOOBE_FORMATTER" "Ljava/util/function/BiFunction;" (gA g) U H) ∧
  (∀ i, i < 6 → vk_R "TestSlots$OrderText" (wdI.getD i 0) (wdT.getD i "") (ga g 44 10 i) U) ∧
  (∀ z ∈ exT, ∃ sa : Nat, vk_R "TestSlots" z.1 z.2 sa U) ∧
  (∀ z ∈ nestW, va_Nw (.methodLinkNest z.1 z.2.1 z.2.2 "TestSlots") U) ∧
  (∀ z ∈ ncW, va_Nc z.1 z.2 U) ∧ (∀ E ∈ exN, va_Nw (.castable E E) U) ∧ (∀ y ∈ decW, va_Nw (.declares y) U)
theorem Fz.to {g : GG} {u U : State} {H H1 : Heap} (h : Fz g u H) (hvm : u.vm.Alike U.vm) (hR : ∀ own k tx a, vk_R own k tx a u → vk_R own k tx a U) (hM : ∀ a i y h, va_Nw (.methodLinkNest a i y h) u → va_Nw (.methodLinkNest a i y h) U) (hC : ∀ C T, va_Nw (.castable C T) u → va_Nw (.castable C T) U) (hDc : ∀ y, va_Nw (.declares y) u → va_Nw (.declares y) U) (hN : gN g ≤ H.size) (hq : ∀ q : Nat, q < H.size → ¬ gA g q → H1[q]? = H[q]?) : Fz g U H1 := by
  obtain ⟨⟨a1, a2⟩, ⟨b1, b2⟩, ⟨c1, c2⟩, ⟨d1, d2⟩, ⟨e1, e2, e3⟩, f1, f2, f3, f4, f5, f6⟩ := h
  refine ⟨⟨(a1.moved hvm).kept (hq _ (Nat.lt_of_lt_of_le a2 hN) (Nat.not_le.mpr a2)), a2⟩, ⟨(b1.moved hvm).kept hq, (b2.moved hvm).kept hq⟩, ⟨(c1.moved hvm).kept hq, (c2.moved hvm).kept hq⟩, ⟨(d1.moved hvm).kept hq, (d2.moved hvm).kept hq⟩, ⟨(e1.moved hvm).kept hq, (e2.moved hvm).kept hq, (e3.moved hvm).kept hq⟩, fun i hi => hR _ _ _ _ (f1 i hi), fun z hz => ?_, fun z hz => hM _ _ _ _ (f3 z hz), fun z hz => (f4 z hz).moved hvm, fun E hE => hC _ _ (f5 E hE), fun y hy => hDc _ (f6 y hy)⟩
  obtain ⟨sa, h⟩ := f2 z hz
  exact ⟨sa, hR _ _ _ _ h⟩
/-- what is known of a state -/
def Kn (g : GG) (U : State) : Prop := gN g ≤ U.heap.size ∧ va_K (gD g) vwCl (tysG g) U ∧ Fz g U U.heap ∧ (∀ m : PM, va_D (gA g) (cells g m)) ∧ (gl g).stackTraces = false
theorem Kn.to {g : GG} {s U : State} {H : Heap} {locs : List Loc} (h : Kn g s) (hS : va_S (gA g) s.heap H locs) (hU : U.heap = H) (hW : s.WarmedH U.vm) : Kn g U := by
  obtain ⟨h1, h2, h3, h4, h5⟩ := h
  subst hU
  exact ⟨Nat.le_trans h1 hS.1, h2.moved hW.alike, h3.to hW.alike (fun _ _ _ _ z => z.warm hW) (fun _ _ _ _ z => z.warmM hW) (fun _ _ z => z.warmC hW) (fun _ z => z.warmD hW) h1 hS.2.1, h4, h5⟩
theorem Kn.same {g : GG} {u U : State} (h : Kn g u) (hv : U.vm = u.vm) (hh : U.heap = u.heap) : Kn g U := by
  obtain ⟨h1, h2, h3, h4, h5⟩ := h
  refine ⟨by rw [hh]; exact h1, h2.moved (by rw [hv]; exact Vm.Alike.refl _), ?_, h4, h5⟩
  rw [hh]
  exact h3.to (by rw [hv]; exact Vm.Alike.refl _) (fun _ _ _ _ z => z.same hv) (fun _ _ _ _ z => z.same rfl hv.symm) (fun _ _ z => z.same rfl hv.symm) (fun _ z => z.same rfl hv.symm) h1 (fun _ _ _ => rfl)
/-- what is known in a method of a class, at any time -/
def Fx (g : GG) (M : MD) (p : Program) (s : State) (mm : MethodId) (args : Array Value) (meth : Method) (cd : Code) : Prop :=
  p.tables.exec = Jvm.exec ∧ cd.code = M.2.1 ∧ cd.maxLocals = M.2.2.1 ∧ s.vm.findClass M.1 = some mm.cls ∧ (∀ w ∈ gTbl, w.before args s = true) ∧ Kn g s ∧ meth.sig.returnType = M.2.2.2.1 ∧ meth.locks = false ∧ cd.exceptionTable.toList = tableOf M.2.2.2.2
/-- a value that is an object of the world -/
def vOK (v : PV) : Prop := match v with
  | .inr (.inr (.inr z)) => z ∈ trip ++ rtrip
  | _ => True
def vAll : List PV → Prop
  | [] => True
  | v :: l => vOK v ∧ vAll l
def oAll : List (Option PV) → Prop
  | [] => True
  | some v :: l => vOK v ∧ oAll l
  | none :: l => oAll l
def lp (g : GG) : Nat → List (Option PV) → List (Nat × Value)
  | _, [] => []
  | i, none :: l => lp g (i + 1) l
  | i, some v :: l => (i, pv g v) :: lp g (i + 1) l
/-- where a method ends: at the instruction that returns, or where an exception is made -/
def Ends (g : GG) (M : MD) (o : Ou) (pc : Nat) (st : List Value) : Prop := match o with
  | .inl none => decode M.2.1 pc = .ok (.return_, 1) ∧ st = [] ∧ M.2.2.2.1 = none
  | .inl (some (.inl x)) => decode M.2.1 pc = .ok (.ireturn, 1) ∧ st = [.int x] ∧ ∃ rt, M.2.2.2.1 = some rt ∧ narrow rt (.int x) = .int x
  | .inl (some (.inr (.inl x))) => decode M.2.1 pc = .ok (.lreturn, 1) ∧ st = [.long x] ∧ M.2.2.2.1 = some .long
  | .inl (some (.inr (.inr (.inl x)))) => decode M.2.1 pc = .ok (.dreturn, 1) ∧ st = [.double x] ∧ M.2.2.2.1 = some .double
  | .inl (some (.inr (.inr (.inr z)))) => decode M.2.1 pc = .ok (.areturn, 1) ∧ st = [.ref (ga g z.1 z.2.1 z.2.2)] ∧ (∃ n, M.2.2.2.1 = some (.object n)) ∧ z ∈ trip ++ rtrip
  | .inr E => ∃ (ik is ic : Nat) (tx : String), M.1 = "TestSlots" ∧ decode M.2.1 pc = .ok (.new ik, 3) ∧ decode M.2.1 (pc + 3) = .ok (.dup, 1) ∧ decode M.2.1 (pc + 4) = .ok (.ldc is, 2) ∧ decode M.2.1 (pc + 6) = .ok (.invokespecial ic, 3) ∧ decode M.2.1 (pc + 9) = .ok (.athrow, 1) ∧ (is, tx) ∈ exT ∧ (E, ik, ic) ∈ [(1, 37, 41), (2, 94, 98), (3, 63, 67)] ∧ (st.map fun v => v.category).sum ≤ 8
/-- c and n: the cells and slots that are left of the method's room -/
def Wq (g : GG) (d : Nat) (M : MD) (c n pc : Nat) (ls : List (Option PV)) (st : List PV) (m : PM) (Q : Ou → PM → Nat → Nat → Prop) : Prop :=
  ∀ (p : Program) (e : Env) (R : Room) (s : State) (mm : MethodId) (args : Array Value) (below : List Frame) (meth : Method) (cd : Code) (H : Heap) (locs : List Loc) (L : Array Slot) (QQ : State → Prop),
    Fx g M p s mm args meth cd → d ≤ R.frames → 33 * d ≤ R.locals → c ≤ R.cells ∧ n ≤ R.slots → World g m H → lv_has L M.2.2.1 (lp g 0 ls) → vAll st → oAll ls → va_S (gA g) s.heap H locs →
    (∀ (o : Ou) (m' : PM) (c' n' pc' : Nat) (L' : Array Slot) (st' : List Value) (H' : Heap) (locs' : List Loc), Q o m' c' n' → World g m' H' → L'.size = M.2.2.1 → va_S (gA g) s.heap H' locs' → Ends g M o pc' st' → W p (gl g) e R s mm args below meth cd H' locs' (R.cells - c') (R.slots - n') QQ (F0 mm pc' L' st')) →
    W p (gl g) e R s mm args below meth cd H locs (R.cells - c) (R.slots - n) QQ (F0 mm pc L (st.map (pv g)))
/-- a method that makes no object on its way to its end -/
abbrev Wp (g : GG) (d : Nat) (M : MD) (pc : Nat) (ls : List (Option PV)) (st : List PV) (m : PM) (Q : Ou → PM → Prop) : Prop := Wq g d M 0 0 pc ls st m (fun o m' c n => c = 0 ∧ n = 0 ∧ Q o m')
/-- locals: reading and writing -/
theorem lp_in {g : GG} : ∀ (ls : List (Option PV)) (i k : Nat) (v : PV), ls[k]? = some (some v) → (i + k, pv g v) ∈ lp g i ls
  | [], _, _, _, h => by simp at h
  | none :: l, i, 0, v, h => by simp at h
  | some w :: l, i, 0, v, h => by
    simp at h
    subst h
    exact List.mem_cons_self
  | none :: l, i, k + 1, v, h => by
    have := lp_in (g := g) l (i + 1) k v (by simpa using h)
    rw [show i + (k + 1) = i + 1 + k by omega]
    exact this
  | some w :: l, i, k + 1, v, h => by
    have := lp_in (g := g) l (i + 1) k v (by simpa using h)
    rw [show i + (k + 1) = i + 1 + k by omega]
    exact List.mem_cons_of_mem _ this
theorem lp_of {g : GG} : ∀ (ls : List (Option PV)) (i : Nat) (q : Nat × Value), q ∈ lp g i ls → ∃ k v, ls[k]? = some (some v) ∧ q = (i + k, pv g v)
  | [], _, _, h => by cases h
  | none :: l, i, q, h => by
    obtain ⟨k, v, h1, h2⟩ := lp_of (g := g) l (i + 1) q h
    exact ⟨k + 1, v, by simpa using h1, by rw [h2, show i + (k + 1) = i + 1 + k by omega]⟩
  | some w :: l, i, q, h => by
    rcases List.mem_cons.mp h with h | h
    · exact ⟨0, w, rfl, h⟩
    · obtain ⟨k, v, h1, h2⟩ := lp_of (g := g) l (i + 1) q h
      exact ⟨k + 1, v, by simpa using h1, by rw [h2, show i + (k + 1) = i + 1 + k by omega]⟩
theorem lp_at {g : GG} {L : Array Slot} {nL : Nat} {ls : List (Option PV)} (h : lv_has L nL (lp g 0 ls)) {k : Nat} {v : PV} (hk : ls[k]? = some (some v)) : L[k]? = some (.val (pv g v)) := by
  have := h.2.2 _ (lp_in ls 0 k v hk)
  simpa using this
theorem oAll_at : ∀ {ls : List (Option PV)} {k : Nat} {v : PV}, oAll ls → ls[k]? = some (some v) → vOK v
  | some w :: l, 0, v, h, hk => by
    simp at hk
    subst hk
    exact h.1
  | some w :: l, k + 1, v, h, hk => oAll_at (ls := l) h.2 (by simpa using hk)
  | none :: l, k + 1, v, h, hk => oAll_at (ls := l) h (by simpa using hk)
def two : Option PV → Bool
  | some (.inr (.inl _)) => true
  | some (.inr (.inr (.inl _))) => true
  | _ => false
def psto1 : List (Option PV) → Nat → PV → List (Option PV)
  | [], _, _ => []
  | _ :: l, 0, v => some v :: l
  | o :: l, 1, v => (if two o then none else o) :: psto1 l 0 v
  | o :: l, n + 2, v => o :: psto1 l (n + 1) v
def psto2 : List (Option PV) → Nat → PV → List (Option PV)
  | [], _, _ => []
  | [_], 0, _ => []
  | _ :: _ :: l, 0, v => some v :: none :: l
  | o :: l, 1, v => (if two o then none else o) :: psto2 l 0 v
  | o :: l, n + 2, v => o :: psto2 l (n + 1) v
theorem two_cat {g : GG} {v : PV} (h : two (some v) = false) : (pv g v).category ≠ 2 := by
  rcases v with x | x | x | x
  · simp [pv, Value.category]
  · simp [two] at h
  · simp [two] at h
  · simp [pv, Value.category]
theorem psto1_of : ∀ (ls : List (Option PV)) (i : Nat) (v w : PV) (k : Nat), (psto1 ls i v)[k]? = some (some w) → (k = i ∧ w = v) ∨ (k ≠ i ∧ ls[k]? = some (some w) ∧ ¬ (k + 1 = i ∧ two (some w) = true))
  | [], _, _, _, _, h => by simp [psto1] at h
  | o :: l, 0, v, w, k, h => by
    rw [psto1] at h
    cases k with
    | zero => exact Or.inl ⟨rfl, by simpa using h.symm⟩
    | succ k => exact Or.inr ⟨by omega, by simpa using h, by omega⟩
  | o :: l, 1, v, w, k, h => by
    rw [psto1] at h
    cases k with
    | zero =>
      by_cases ho : two o = true
      · simp [ho] at h
      · simp [ho] at h
        exact Or.inr ⟨by omega, by simp [h], fun q => ho (by rw [h]; exact q.2)⟩
    | succ k =>
      rcases psto1_of l 0 v w k (by simpa using h) with ⟨a, b⟩ | ⟨a, b, c⟩
      · exact Or.inl ⟨by omega, b⟩
      · exact Or.inr ⟨by omega, by simpa using b, by omega⟩
  | o :: l, n + 2, v, w, k, h => by
    rw [psto1] at h
    cases k with
    | zero => exact Or.inr ⟨by omega, by simpa using h, by omega⟩
    | succ k =>
      rcases psto1_of l (n + 1) v w k (by simpa using h) with ⟨a, b⟩ | ⟨a, b, c⟩
      · exact Or.inl ⟨by omega, b⟩
      · exact Or.inr ⟨by omega, by simpa using b, fun q => c ⟨by omega, q.2⟩⟩
theorem psto2_of : ∀ (ls : List (Option PV)) (i : Nat) (v w : PV) (k : Nat), (psto2 ls i v)[k]? = some (some w) → (k = i ∧ w = v) ∨ (k ≠ i ∧ k ≠ i + 1 ∧ ls[k]? = some (some w) ∧ ¬ (k + 1 = i ∧ two (some w) = true))
  | [], _, _, _, _, h => by simp [psto2] at h
  | [o], 0, v, w, k, h => by simp [psto2] at h
  | o :: o2 :: l, 0, v, w, k, h => by
    rw [psto2] at h
    match k with
    | 0 => exact Or.inl ⟨rfl, by simpa using h.symm⟩
    | 1 => simp at h
    | k + 2 => exact Or.inr ⟨by omega, by omega, by simpa using h, by omega⟩
  | o :: l, 1, v, w, k, h => by
    rw [psto2] at h
    cases k with
    | zero =>
      by_cases ho : two o = true
      · simp [ho] at h
      · simp [ho] at h
        exact Or.inr ⟨by omega, by omega, by simp [h], fun q => ho (by rw [h]; exact q.2)⟩
    | succ k =>
      rcases psto2_of l 0 v w k (by simpa using h) with ⟨a, b⟩ | ⟨a, a2, b, c⟩
      · exact Or.inl ⟨by omega, b⟩
      · exact Or.inr ⟨by omega, by omega, by simpa using b, by omega⟩
  | o :: l, n + 2, v, w, k, h => by
    rw [psto2] at h
    cases k with
    | zero => exact Or.inr ⟨by omega, by omega, by simpa using h, by omega⟩
    | succ k =>
      rcases psto2_of l (n + 1) v w k (by simpa using h) with ⟨a, b⟩ | ⟨a, a2, b, c⟩
      · exact Or.inl ⟨by omega, b⟩
      · exact Or.inr ⟨by omega, by omega, by simpa using b, fun q => c ⟨by omega, q.2⟩⟩
theorem oAll_of : ∀ {ls : List (Option PV)}, (∀ (k : Nat) (v : PV), ls[k]? = some (some v) → vOK v) → oAll ls
  | [], _ => trivial
  | some w :: l, h => ⟨h 0 w rfl, oAll_of (fun k v hk => h (k + 1) v (by simpa using hk))⟩
  | none :: l, h => oAll_of (ls := l) (fun k v hk => h (k + 1) v (by simpa using hk))
theorem lp_sto1 {g : GG} {L' : Array Slot} {nL i : Nat} {v : PV} {ls : List (Option PV)} (h : lv_has L' nL ((i, pv g v) :: (lp g 0 ls).filter (fun q => !(q.1 == i) && !(q.1 + 1 == i && q.2.category == 2)))) : lv_has L' nL (lp g 0 (psto1 ls i v)) := by
  refine ⟨h.1, h.2.1, fun q hq => ?_⟩
  obtain ⟨k, w, h1, rfl⟩ := lp_of _ _ _ hq
  rcases psto1_of ls i v w k h1 with ⟨a, b⟩ | ⟨a, b, c⟩
  · subst a; subst b
    exact h.2.2 (0 + k, pv g w) (by rw [Nat.zero_add]; exact List.mem_cons_self)
  · refine h.2.2 _ (List.mem_cons_of_mem _ (List.mem_filter.mpr ⟨lp_in ls 0 k w b, ?_⟩))
    have hc : ¬ (k + 1 = i ∧ (pv g w).category = 2) := fun q => by
      cases ht : two (some w) with
      | true => exact c ⟨q.1, ht⟩
      | false => exact two_cat ht q.2
    simp [a]
    by_cases q : k + 1 = i
    · exact Or.inr (fun z => hc ⟨q, z⟩)
    · exact Or.inl q
theorem lp_sto2 {g : GG} {L' : Array Slot} {nL i : Nat} {v : PV} {ls : List (Option PV)} (h : lv_has L' nL ((i, pv g v) :: (lp g 0 ls).filter (fun q => !(q.1 == i) && (!(q.1 == i + 1) && !(q.1 + 1 == i && q.2.category == 2))))) : lv_has L' nL (lp g 0 (psto2 ls i v)) := by
  refine ⟨h.1, h.2.1, fun q hq => ?_⟩
  obtain ⟨k, w, h1, rfl⟩ := lp_of _ _ _ hq
  rcases psto2_of ls i v w k h1 with ⟨a, b⟩ | ⟨a, a2, b, c⟩
  · subst a; subst b
    exact h.2.2 (0 + k, pv g w) (by rw [Nat.zero_add]; exact List.mem_cons_self)
  · refine h.2.2 _ (List.mem_cons_of_mem _ (List.mem_filter.mpr ⟨lp_in ls 0 k w b, ?_⟩))
    have hc : ¬ (k + 1 = i ∧ (pv g w).category = 2) := fun q => by
      cases ht : two (some w) with
      | true => exact c ⟨q.1, ht⟩
      | false => exact two_cat ht q.2
    simp [a, a2]
    by_cases q : k + 1 = i
    · exact Or.inr (fun z => hc ⟨q, z⟩)
    · exact Or.inl q
theorem oAll_sto1 {ls : List (Option PV)} {i : Nat} {v : PV} (h : oAll ls) (hv : vOK v) : oAll (psto1 ls i v) := oAll_of fun k w hk => by
  rcases psto1_of ls i v w k hk with ⟨a, b⟩ | ⟨a, b, c⟩
  · rw [b]; exact hv
  · exact oAll_at h b
theorem oAll_sto2 {ls : List (Option PV)} {i : Nat} {v : PV} (h : oAll ls) (hv : vOK v) : oAll (psto2 ls i v) := oAll_of fun k w hk => by
  rcases psto2_of ls i v w k hk with ⟨a, b⟩ | ⟨a, a2, b, c⟩
  · rw [b]; exact hv
  · exact oAll_at h b
/-- fewer locals are known -/
def fewer : List (Option PV) → List (Option PV) → Prop
  | [], _ => True
  | none :: l, _ :: k => fewer l k
  | none :: l, [] => fewer l []
  | some v :: l, some w :: k => v = w ∧ fewer l k
  | some _ :: _, _ => False
theorem fewer_at : ∀ {l k : List (Option PV)} {i : Nat} {v : PV}, fewer l k → l[i]? = some (some v) → k[i]? = some (some v)
  | some a :: l, some b :: k, 0, v, h, hi => by
    simp at hi ⊢
    rw [← h.1, hi]
  | some a :: l, some b :: k, i + 1, v, h, hi => by
    have := fewer_at (l := l) (k := k) (i := i) h.2 (by simpa using hi)
    simpa using this
  | none :: l, b :: k, i + 1, v, h, hi => by
    have := fewer_at (l := l) (k := k) (i := i) h (by simpa using hi)
    simpa using this
  | none :: l, [], i + 1, v, h, hi => by
    have := fewer_at (l := l) (k := []) (i := i) h (by simpa using hi)
    simp at this
theorem Wq.few {g : GG} {d : Nat} {M : MD} {c n pc : Nat} {ls ls' : List (Option PV)} {st : List PV} {m : PM} {Q : Ou → PM → Nat → Nat → Prop} (h : fewer ls' ls) (q : Wq g d M c n pc ls' st m Q) : Wq g d M c n pc ls st m Q := by
  intro p e R s mm args below meth cd H locs L QQ F hf hl hr hw hL hst hls hS hk
  refine q p e R s mm args below meth cd H locs L QQ F hf hl hr hw ⟨hL.1, hL.2.1, fun z hz => ?_⟩ hst (oAll_of fun k v hv => oAll_at hls (fewer_at h hv)) hS hk
  obtain ⟨k, v, h1, rfl⟩ := lp_of _ _ _ hz
  exact hL.2.2 _ (lp_in ls 0 k v (fewer_at h h1))
theorem Wq.mono {g : GG} {d : Nat} {M : MD} {c n pc : Nat} {ls : List (Option PV)} {st : List PV} {m : PM} {Q Q' : Ou → PM → Nat → Nat → Prop} (q : Wq g d M c n pc ls st m Q) (h : ∀ o m' c' n', Q o m' c' n' → Q' o m' c' n') : Wq g d M c n pc ls st m Q' := by
  intro p e R s mm args below meth cd H locs L QQ F hf hl hr hw hL hst hls hS hk
  exact q p e R s mm args below meth cd H locs L QQ F hf hl hr hw hL hst hls hS (fun o m' c' n' pc' L' st' H' locs' hQ => hk o m' c' n' pc' L' st' H' locs' (h _ _ _ _ hQ))
end
section
theorem one_cat {g : GG} {v : PV} (h : two (some v) = false) : (pv g v).category = 1 := by
  rcases v with x | x | x | x
  · rfl
  · simp [two] at h
  · simp [two] at h
  · rfl
/-! THE RULES: an instruction, a rule -/
section RL
variable {g : GG} {d : Nat} {M : MD} {c n pc : Nat} {ls : List (Option PV)} {st : List PV} {m : PM} {Q : Ou → PM → Nat → Nat → Prop}
theorem Wq.iadd {x y : Int32} (hd : decode M.2.1 pc = .ok (.iadd, 1))  (q : Wq g d M c n (pc + 1) ls (pI (x + y) :: st) m Q) : Wq g d M c n pc ls (pI y :: pI x :: st) m Q := by
  intro p e R s mm args below meth cd H locs L QQ F hf hl hr hw hL hst hls hS hk
  refine lv_iadd F.1 F.2.1 hd ?_
  exact q p e R s mm args below meth cd H locs L QQ F hf hl hr hw hL ⟨trivial, hst.2.2⟩ hls hS hk
theorem Wq.isub {x y : Int32} (hd : decode M.2.1 pc = .ok (.isub, 1))  (q : Wq g d M c n (pc + 1) ls (pI (x - y) :: st) m Q) : Wq g d M c n pc ls (pI y :: pI x :: st) m Q := by
  intro p e R s mm args below meth cd H locs L QQ F hf hl hr hw hL hst hls hS hk
  refine lv_isub F.1 F.2.1 hd ?_
  exact q p e R s mm args below meth cd H locs L QQ F hf hl hr hw hL ⟨trivial, hst.2.2⟩ hls hS hk
theorem Wq.imul {x y : Int32} (hd : decode M.2.1 pc = .ok (.imul, 1))  (q : Wq g d M c n (pc + 1) ls (pI (x * y) :: st) m Q) : Wq g d M c n pc ls (pI y :: pI x :: st) m Q := by
  intro p e R s mm args below meth cd H locs L QQ F hf hl hr hw hL hst hls hS hk
  refine lv_imul F.1 F.2.1 hd ?_
  exact q p e R s mm args below meth cd H locs L QQ F hf hl hr hw hL ⟨trivial, hst.2.2⟩ hls hS hk
theorem Wq.iand {x y : Int32} (hd : decode M.2.1 pc = .ok (.iand, 1))  (q : Wq g d M c n (pc + 1) ls (pI (x &&& y) :: st) m Q) : Wq g d M c n pc ls (pI y :: pI x :: st) m Q := by
  intro p e R s mm args below meth cd H locs L QQ F hf hl hr hw hL hst hls hS hk
  refine lv_iand F.1 F.2.1 hd ?_
  exact q p e R s mm args below meth cd H locs L QQ F hf hl hr hw hL ⟨trivial, hst.2.2⟩ hls hS hk
theorem Wq.ishr {x y : Int32} (hd : decode M.2.1 pc = .ok (.ishr, 1))  (q : Wq g d M c n (pc + 1) ls (pI (x >>> (y &&& 31)) :: st) m Q) : Wq g d M c n pc ls (pI y :: pI x :: st) m Q := by
  intro p e R s mm args below meth cd H locs L QQ F hf hl hr hw hL hst hls hS hk
  refine lv_ishr F.1 F.2.1 hd ?_
  exact q p e R s mm args below meth cd H locs L QQ F hf hl hr hw hL ⟨trivial, hst.2.2⟩ hls hS hk
theorem Wq.idiv {x y : Int32} (hd : decode M.2.1 pc = .ok (.idiv, 1)) (hy : ¬ y = 0) (q : Wq g d M c n (pc + 1) ls (pI (x / y) :: st) m Q) : Wq g d M c n pc ls (pI y :: pI x :: st) m Q := by
  intro p e R s mm args below meth cd H locs L QQ F hf hl hr hw hL hst hls hS hk
  refine lv_idiv F.1 F.2.1 hd hy ?_
  exact q p e R s mm args below meth cd H locs L QQ F hf hl hr hw hL ⟨trivial, hst.2.2⟩ hls hS hk
theorem Wq.irem {x y : Int32} (hd : decode M.2.1 pc = .ok (.irem, 1)) (hy : ¬ y = 0) (q : Wq g d M c n (pc + 1) ls (pI (x - x / y * y) :: st) m Q) : Wq g d M c n pc ls (pI y :: pI x :: st) m Q := by
  intro p e R s mm args below meth cd H locs L QQ F hf hl hr hw hL hst hls hS hk
  refine lv_irem F.1 F.2.1 hd hy ?_
  exact q p e R s mm args below meth cd H locs L QQ F hf hl hr hw hL ⟨trivial, hst.2.2⟩ hls hS hk
theorem Wq.ladd {x y : Int64} (hd : decode M.2.1 pc = .ok (.ladd, 1))  (q : Wq g d M c n (pc + 1) ls (pL (x + y) :: st) m Q) : Wq g d M c n pc ls (pL y :: pL x :: st) m Q := by
  intro p e R s mm args below meth cd H locs L QQ F hf hl hr hw hL hst hls hS hk
  refine lv_ladd F.1 F.2.1 hd ?_
  exact q p e R s mm args below meth cd H locs L QQ F hf hl hr hw hL ⟨trivial, hst.2.2⟩ hls hS hk
theorem Wq.lsub {x y : Int64} (hd : decode M.2.1 pc = .ok (.lsub, 1))  (q : Wq g d M c n (pc + 1) ls (pL (x - y) :: st) m Q) : Wq g d M c n pc ls (pL y :: pL x :: st) m Q := by
  intro p e R s mm args below meth cd H locs L QQ F hf hl hr hw hL hst hls hS hk
  refine lv_lsub F.1 F.2.1 hd ?_
  exact q p e R s mm args below meth cd H locs L QQ F hf hl hr hw hL ⟨trivial, hst.2.2⟩ hls hS hk
theorem Wq.lmul {x y : Int64} (hd : decode M.2.1 pc = .ok (.lmul, 1))  (q : Wq g d M c n (pc + 1) ls (pL (x * y) :: st) m Q) : Wq g d M c n pc ls (pL y :: pL x :: st) m Q := by
  intro p e R s mm args below meth cd H locs L QQ F hf hl hr hw hL hst hls hS hk
  refine lv_lmul F.1 F.2.1 hd ?_
  exact q p e R s mm args below meth cd H locs L QQ F hf hl hr hw hL ⟨trivial, hst.2.2⟩ hls hS hk
theorem Wq.dsub {x y : UInt64} (hd : decode M.2.1 pc = .ok (.dsub, 1)) (hn : vf_n64 (FP.dsub x y)) (q : Wq g d M c n (pc + 1) ls (pD (FP.dsub x y) :: st) m Q) : Wq g d M c n pc ls (pD y :: pD x :: st) m Q := by
  intro p e R s mm args below meth cd H locs L QQ F hf hl hr hw hL hst hls hS hk
  refine lv_dsub F.1 F.2.1 hd hn ?_
  exact q p e R s mm args below meth cd H locs L QQ F hf hl hr hw hL ⟨trivial, hst.2.2⟩ hls hS hk
theorem Wq.dmul {x y : UInt64} (hd : decode M.2.1 pc = .ok (.dmul, 1)) (hn : vf_n64 (FP.dmul x y)) (q : Wq g d M c n (pc + 1) ls (pD (FP.dmul x y) :: st) m Q) : Wq g d M c n pc ls (pD y :: pD x :: st) m Q := by
  intro p e R s mm args below meth cd H locs L QQ F hf hl hr hw hL hst hls hS hk
  refine lv_dmul F.1 F.2.1 hd hn ?_
  exact q p e R s mm args below meth cd H locs L QQ F hf hl hr hw hL ⟨trivial, hst.2.2⟩ hls hS hk
theorem Wq.ddiv {x y : UInt64} (hd : decode M.2.1 pc = .ok (.ddiv, 1)) (hn : vf_n64 (FP.ddiv x y)) (q : Wq g d M c n (pc + 1) ls (pD (FP.ddiv x y) :: st) m Q) : Wq g d M c n pc ls (pD y :: pD x :: st) m Q := by
  intro p e R s mm args below meth cd H locs L QQ F hf hl hr hw hL hst hls hS hk
  refine lv_ddiv F.1 F.2.1 hd hn ?_
  exact q p e R s mm args below meth cd H locs L QQ F hf hl hr hw hL ⟨trivial, hst.2.2⟩ hls hS hk
theorem Wq.dcmp {x y : UInt64} {op : CmpOp} (hd : decode M.2.1 pc = .ok (.dcmp op, 1))  (q : Wq g d M c n (pc + 1) ls (pI (Op.cmpValue (FP.dcmp x y) op) :: st) m Q) : Wq g d M c n pc ls (pD y :: pD x :: st) m Q := by
  intro p e R s mm args below meth cd H locs L QQ F hf hl hr hw hL hst hls hS hk
  refine lv_dcmp F.1 F.2.1 hd ?_
  exact q p e R s mm args below meth cd H locs L QQ F hf hl hr hw hL ⟨trivial, hst.2.2⟩ hls hS hk
theorem Wq.lcmp {x y : Int64} (hd : decode M.2.1 pc = .ok (.lcmp, 1))  (q : Wq g d M c n (pc + 1) ls (pI (lg_cmp x y) :: st) m Q) : Wq g d M c n pc ls (pL y :: pL x :: st) m Q := by
  intro p e R s mm args below meth cd H locs L QQ F hf hl hr hw hL hst hls hS hk
  refine W.lcmp F.1 F.2.1 hd ?_
  exact q p e R s mm args below meth cd H locs L QQ F hf hl hr hw hL ⟨trivial, hst.2.2⟩ hls hS hk
theorem Wq.lshl {x : Int64} {y : Int32} (hd : decode M.2.1 pc = .ok (.lshl, 1))  (q : Wq g d M c n (pc + 1) ls (pL (x <<< (y.toInt64 &&& 63)) :: st) m Q) : Wq g d M c n pc ls (pI y :: pL x :: st) m Q := by
  intro p e R s mm args below meth cd H locs L QQ F hf hl hr hw hL hst hls hS hk
  refine lv_lshl F.1 F.2.1 hd rfl ?_
  exact q p e R s mm args below meth cd H locs L QQ F hf hl hr hw hL ⟨trivial, hst.2.2⟩ hls hS hk
theorem Wq.i2l {x : Int32} (hd : decode M.2.1 pc = .ok (.i2l, 1))  (q : Wq g d M c n (pc + 1) ls (pL x.toInt64 :: st) m Q) : Wq g d M c n pc ls (pI x :: st) m Q := by
  intro p e R s mm args below meth cd H locs L QQ F hf hl hr hw hL hst hls hS hk
  refine lv_i2l F.1 F.2.1 hd rfl ?_
  exact q p e R s mm args below meth cd H locs L QQ F hf hl hr hw hL ⟨trivial, hst.2⟩ hls hS hk
theorem Wq.i2d {x : Int32} (hd : decode M.2.1 pc = .ok (.i2d, 1))  (q : Wq g d M c n (pc + 1) ls (pD (FP.i2d x) :: st) m Q) : Wq g d M c n pc ls (pI x :: st) m Q := by
  intro p e R s mm args below meth cd H locs L QQ F hf hl hr hw hL hst hls hS hk
  refine lv_i2d F.1 F.2.1 hd ?_
  exact q p e R s mm args below meth cd H locs L QQ F hf hl hr hw hL ⟨trivial, hst.2⟩ hls hS hk
theorem Wq.d2l {x : UInt64} (hd : decode M.2.1 pc = .ok (.d2l, 1))  (q : Wq g d M c n (pc + 1) ls (pL (FP.d2l x) :: st) m Q) : Wq g d M c n pc ls (pD x :: st) m Q := by
  intro p e R s mm args below meth cd H locs L QQ F hf hl hr hw hL hst hls hS hk
  refine lv_d2l F.1 F.2.1 hd ?_
  exact q p e R s mm args below meth cd H locs L QQ F hf hl hr hw hL ⟨trivial, hst.2⟩ hls hS hk
theorem Wq.i2c {x : Int32} (hd : decode M.2.1 pc = .ok (.i2c, 1))  (q : Wq g d M c n (pc + 1) ls (pI (x.toUInt32 % 65536).toInt32 :: st) m Q) : Wq g d M c n pc ls (pI x :: st) m Q := by
  intro p e R s mm args below meth cd H locs L QQ F hf hl hr hw hL hst hls hS hk
  refine lv_i2c F.1 F.2.1 hd rfl ?_
  exact q p e R s mm args below meth cd H locs L QQ F hf hl hr hw hL ⟨trivial, hst.2⟩ hls hS hk
theorem Wq.lconst {k : Fin 2} {v : Int64} (hd : decode M.2.1 pc = .ok (.lconst k, 1)) (hv : Int64.ofNat (k : Nat) = v) (q : Wq g d M c n (pc + 1) ls (pL v :: st) m Q) : Wq g d M c n pc ls st m Q := by
  intro p e R s mm args below meth cd H locs L QQ F hf hl hr hw hL hst hls hS hk
  refine lv_lconst F.1 F.2.1 hd hv ?_
  exact q p e R s mm args below meth cd H locs L QQ F hf hl hr hw hL ⟨trivial, hst⟩ hls hS hk
theorem Wq.iconst {k : Int} {v : Int32} (hd : decode M.2.1 pc = .ok (.iconst k, 1)) (hv : Int32.ofInt k = v) (q : Wq g d M c n (pc + 1) ls (pI v :: st) m Q) : Wq g d M c n pc ls st m Q := by
  intro p e R s mm args below meth cd H locs L QQ F hf hl hr hw hL hst hls hS hk
  refine lv_iconst F.1 F.2.1 hd hv ?_
  exact q p e R s mm args below meth cd H locs L QQ F hf hl hr hw hL ⟨trivial, hst⟩ hls hS hk
theorem Wq.bipush {k : Int} {v : Int32} (hd : decode M.2.1 pc = .ok (.bipush k, 2)) (hv : (Int8.ofInt k).toInt32 = v) (q : Wq g d M c n (pc + 2) ls (pI v :: st) m Q) : Wq g d M c n pc ls st m Q := by
  intro p e R s mm args below meth cd H locs L QQ F hf hl hr hw hL hst hls hS hk
  refine lv_bipush F.1 F.2.1 hd hv ?_
  exact q p e R s mm args below meth cd H locs L QQ F hf hl hr hw hL ⟨trivial, hst⟩ hls hS hk
theorem Wq.sipush {k : Int} {v : Int32} (hd : decode M.2.1 pc = .ok (.sipush k, 3)) (hv : (Int16.ofInt k).toInt32 = v) (q : Wq g d M c n (pc + 3) ls (pI v :: st) m Q) : Wq g d M c n pc ls st m Q := by
  intro p e R s mm args below meth cd H locs L QQ F hf hl hr hw hL hst hls hS hk
  refine lv_sipush F.1 F.2.1 hd hv ?_
  exact q p e R s mm args below meth cd H locs L QQ F hf hl hr hw hL ⟨trivial, hst⟩ hls hS hk
theorem Wq.ldc {k : Nat} {v : Int32} (hd : decode M.2.1 pc = .ok (.ldc k, 2)) (hw0 : Cond.constant M.1 k v ∈ gTbl) (q : Wq g d M c n (pc + 2) ls (pI v :: st) m Q) : Wq g d M c n pc ls st m Q := by
  intro p e R s mm args below meth cd H locs L QQ F hf hl hr hw hL hst hls hS hk
  refine lv_ldc F.1 F.2.1 F.2.2.2.1 (F.2.2.2.2.1 _ hw0) hd ?_
  exact q p e R s mm args below meth cd H locs L QQ F hf hl hr hw hL ⟨trivial, hst⟩ hls hS hk
theorem Wq.ldc2 {k : Nat} {v : Int64} (hd : decode M.2.1 pc = .ok (.ldc2_w k, 3)) (hw0 : Cond.constantLong M.1 k v ∈ gTbl) (q : Wq g d M c n (pc + 3) ls (pL v :: st) m Q) : Wq g d M c n pc ls st m Q := by
  intro p e R s mm args below meth cd H locs L QQ F hf hl hr hw hL hst hls hS hk
  refine lv_ldc2 F.1 F.2.1 F.2.2.2.1 (F.2.2.2.2.1 _ hw0) hd ?_
  exact q p e R s mm args below meth cd H locs L QQ F hf hl hr hw hL ⟨trivial, hst⟩ hls hS hk
theorem Wq.ldc2d {k : Nat} {v : UInt64} (hd : decode M.2.1 pc = .ok (.ldc2_w k, 3)) (hw0 : Cond.constantDouble M.1 k v ∈ gTbl) (q : Wq g d M c n (pc + 3) ls (pD v :: st) m Q) : Wq g d M c n pc ls st m Q := by
  intro p e R s mm args below meth cd H locs L QQ F hf hl hr hw hL hst hls hS hk
  refine lv_ldc2d F.1 F.2.1 F.2.2.2.1 (F.2.2.2.2.1 _ hw0) hd ?_
  exact q p e R s mm args below meth cd H locs L QQ F hf hl hr hw hL ⟨trivial, hst⟩ hls hS hk
theorem Wq.dup {v : PV} (hd : decode M.2.1 pc = .ok (.dup, 1)) (hv : two (some v) = false) (q : Wq g d M c n (pc + 1) ls (v :: v :: st) m Q) : Wq g d M c n pc ls (v :: st) m Q := by
  intro p e R s mm args below meth cd H locs L QQ F hf hl hr hw hL hst hls hS hk
  refine lv_dup F.1 F.2.1 hd (one_cat hv) ?_
  exact q p e R s mm args below meth cd H locs L QQ F hf hl hr hw hL ⟨hst.1, hst⟩ hls hS hk
theorem Wq.pop {v : PV} (hd : decode M.2.1 pc = .ok (.pop, 1)) (hv : two (some v) = false) (q : Wq g d M c n (pc + 1) ls st m Q) : Wq g d M c n pc ls (v :: st) m Q := by
  intro p e R s mm args below meth cd H locs L QQ F hf hl hr hw hL hst hls hS hk
  refine lv_pop F.1 F.2.1 hd (one_cat hv) ?_
  exact q p e R s mm args below meth cd H locs L QQ F hf hl hr hw hL hst.2 hls hS hk
theorem Wq.dup2 {v w : PV} (hd : decode M.2.1 pc = .ok (.dup2, 1)) (hv : two (some v) = false) (hv2 : two (some w) = false) (q : Wq g d M c n (pc + 1) ls (v :: w :: v :: w :: st) m Q) : Wq g d M c n pc ls (v :: w :: st) m Q := by
  intro p e R s mm args below meth cd H locs L QQ F hf hl hr hw hL hst hls hS hk
  refine lv_dup2_11 F.1 F.2.1 hd (one_cat hv) (one_cat hv2) ?_
  exact q p e R s mm args below meth cd H locs L QQ F hf hl hr hw hL ⟨hst.1, hst.2.1, hst⟩ hls hS hk
theorem Wq.goto {off : Int} {tgt : Nat} (hd : decode M.2.1 pc = .ok (.goto off, 3)) (ht : (pc : Int) + off = (tgt : Int)) (q : Wq g d M c n tgt ls st m Q) : Wq g d M c n pc ls st m Q := by
  intro p e R s mm args below meth cd H locs L QQ F hf hl hr hw hL hst hls hS hk
  refine lv_goto F.1 F.2.1 hd ht ?_
  exact q p e R s mm args below meth cd H locs L QQ F hf hl hr hw hL hst hls hS hk
theorem Wq.dconst0  (hd : decode M.2.1 pc = .ok (.dconst 0, 1))  (q : Wq g d M c n (pc + 1) ls (pD FP.dconst0 :: st) m Q) : Wq g d M c n pc ls st m Q := by
  intro p e R s mm args below meth cd H locs L QQ F hf hl hr hw hL hst hls hS hk
  refine lv_dconst0 F.1 F.2.1 hd ?_
  exact q p e R s mm args below meth cd H locs L QQ F hf hl hr hw hL ⟨trivial, hst⟩ hls hS hk
theorem Wq.dconst1  (hd : decode M.2.1 pc = .ok (.dconst 1, 1))  (q : Wq g d M c n (pc + 1) ls (pD FP.dconst1 :: st) m Q) : Wq g d M c n pc ls st m Q := by
  intro p e R s mm args below meth cd H locs L QQ F hf hl hr hw hL hst hls hS hk
  refine lv_dconst1 F.1 F.2.1 hd ?_
  exact q p e R s mm args below meth cd H locs L QQ F hf hl hr hw hL ⟨trivial, hst⟩ hls hS hk
theorem Wq.iload_n {k : Fin 4} {x : Int32} (hd : decode M.2.1 pc = .ok (.iload_n k, 1)) (hx : ls[(k : Nat)]? = some (some (pI x))) (q : Wq g d M c n (pc + 1) ls (pI x :: st) m Q) : Wq g d M c n pc ls st m Q := by
  intro p e R s mm args below meth cd H locs L QQ F hf hl hr hw hL hst hls hS hk
  refine lv_iload_n F.1 F.2.1 hd rfl (lp_at hL hx) ?_
  exact q p e R s mm args below meth cd H locs L QQ F hf hl hr hw hL ⟨trivial, hst⟩ hls hS hk
theorem Wq.iload {k : Nat} {x : Int32} (hd : decode M.2.1 pc = .ok (.iload k, 2)) (hx : ls[k]? = some (some (pI x))) (q : Wq g d M c n (pc + 2) ls (pI x :: st) m Q) : Wq g d M c n pc ls st m Q := by
  intro p e R s mm args below meth cd H locs L QQ F hf hl hr hw hL hst hls hS hk
  refine lv_iload F.1 F.2.1 hd (lp_at hL hx) ?_
  exact q p e R s mm args below meth cd H locs L QQ F hf hl hr hw hL ⟨trivial, hst⟩ hls hS hk
theorem Wq.lload_n {k : Fin 4} {x : Int64} (hd : decode M.2.1 pc = .ok (.lload_n k, 1)) (hx : ls[(k : Nat)]? = some (some (pL x))) (q : Wq g d M c n (pc + 1) ls (pL x :: st) m Q) : Wq g d M c n pc ls st m Q := by
  intro p e R s mm args below meth cd H locs L QQ F hf hl hr hw hL hst hls hS hk
  refine lv_lload_n F.1 F.2.1 hd rfl (lp_at hL hx) ?_
  exact q p e R s mm args below meth cd H locs L QQ F hf hl hr hw hL ⟨trivial, hst⟩ hls hS hk
theorem Wq.lload {k : Nat} {x : Int64} (hd : decode M.2.1 pc = .ok (.lload k, 2)) (hx : ls[k]? = some (some (pL x))) (q : Wq g d M c n (pc + 2) ls (pL x :: st) m Q) : Wq g d M c n pc ls st m Q := by
  intro p e R s mm args below meth cd H locs L QQ F hf hl hr hw hL hst hls hS hk
  refine lv_lload F.1 F.2.1 hd (lp_at hL hx) ?_
  exact q p e R s mm args below meth cd H locs L QQ F hf hl hr hw hL ⟨trivial, hst⟩ hls hS hk
theorem Wq.dload_n {k : Fin 4} {x : UInt64} (hd : decode M.2.1 pc = .ok (.dload_n k, 1)) (hx : ls[(k : Nat)]? = some (some (pD x))) (q : Wq g d M c n (pc + 1) ls (pD x :: st) m Q) : Wq g d M c n pc ls st m Q := by
  intro p e R s mm args below meth cd H locs L QQ F hf hl hr hw hL hst hls hS hk
  refine lv_dload_n F.1 F.2.1 hd rfl (lp_at hL hx) ?_
  exact q p e R s mm args below meth cd H locs L QQ F hf hl hr hw hL ⟨trivial, hst⟩ hls hS hk
theorem Wq.dload {k : Nat} {x : UInt64} (hd : decode M.2.1 pc = .ok (.dload k, 2)) (hx : ls[k]? = some (some (pD x))) (q : Wq g d M c n (pc + 2) ls (pD x :: st) m Q) : Wq g d M c n pc ls st m Q := by
  intro p e R s mm args below meth cd H locs L QQ F hf hl hr hw hL hst hls hS hk
  refine lv_dload F.1 F.2.1 hd (lp_at hL hx) ?_
  exact q p e R s mm args below meth cd H locs L QQ F hf hl hr hw hL ⟨trivial, hst⟩ hls hS hk
theorem Wq.aload_n {k : Fin 4} {t r j : Nat} (hd : decode M.2.1 pc = .ok (.aload_n k, 1)) (hx : ls[(k : Nat)]? = some (some (pO t r j))) (q : Wq g d M c n (pc + 1) ls (pO t r j :: st) m Q) : Wq g d M c n pc ls st m Q := by
  intro p e R s mm args below meth cd H locs L QQ F hf hl hr hw hL hst hls hS hk
  refine lv_aload_n F.1 F.2.1 hd rfl (lp_at hL hx) ?_
  exact q p e R s mm args below meth cd H locs L QQ F hf hl hr hw hL ⟨oAll_at hls hx, hst⟩ hls hS hk
theorem Wq.aload {k : Nat} {t r j : Nat} (hd : decode M.2.1 pc = .ok (.aload k, 2)) (hx : ls[k]? = some (some (pO t r j))) (q : Wq g d M c n (pc + 2) ls (pO t r j :: st) m Q) : Wq g d M c n pc ls st m Q := by
  intro p e R s mm args below meth cd H locs L QQ F hf hl hr hw hL hst hls hS hk
  refine lv_aload F.1 F.2.1 hd (lp_at hL hx) ?_
  exact q p e R s mm args below meth cd H locs L QQ F hf hl hr hw hL ⟨oAll_at hls hx, hst⟩ hls hS hk
theorem Wq.istore_n {k : Fin 4} {x : Int32} {ls2 : List (Option PV)} (hd : decode M.2.1 pc = .ok (.istore_n k, 1)) (hn : (k : Nat) < M.2.2.1) (hs : psto1 ls k (pI x) = ls2) (q : Wq g d M c n (pc + 1) ls2 st m Q) : Wq g d M c n pc ls (pI x :: st) m Q := by
  subst hs
  intro p e R s mm args below meth cd H locs L QQ F hf hl hr hw hL hst hls hS hk
  refine lv_istore_n F.1 F.2.1 hd rfl hL hn rfl (fun L2 hL2 => ?_)
  exact q p e R s mm args below meth cd H locs L2 QQ F hf hl hr hw (lp_sto1 hL2) hst.2 (oAll_sto1 hls trivial) hS hk
theorem Wq.istore {k : Nat} {x : Int32} {ls2 : List (Option PV)} (hd : decode M.2.1 pc = .ok (.istore k, 2)) (hn : (k : Nat) < M.2.2.1) (hs : psto1 ls k (pI x) = ls2) (q : Wq g d M c n (pc + 2) ls2 st m Q) : Wq g d M c n pc ls (pI x :: st) m Q := by
  subst hs
  intro p e R s mm args below meth cd H locs L QQ F hf hl hr hw hL hst hls hS hk
  refine lv_istore F.1 F.2.1 hd hL hn rfl (fun L2 hL2 => ?_)
  exact q p e R s mm args below meth cd H locs L2 QQ F hf hl hr hw (lp_sto1 hL2) hst.2 (oAll_sto1 hls trivial) hS hk
theorem Wq.lstore_n {k : Fin 4} {x : Int64} {ls2 : List (Option PV)} (hd : decode M.2.1 pc = .ok (.lstore_n k, 1)) (hn : (k : Nat) + 1 < M.2.2.1) (hs : psto2 ls k (pL x) = ls2) (q : Wq g d M c n (pc + 1) ls2 st m Q) : Wq g d M c n pc ls (pL x :: st) m Q := by
  subst hs
  intro p e R s mm args below meth cd H locs L QQ F hf hl hr hw hL hst hls hS hk
  refine lv_lstore_n F.1 F.2.1 hd rfl hL hn rfl (fun L2 hL2 => ?_)
  exact q p e R s mm args below meth cd H locs L2 QQ F hf hl hr hw (lp_sto2 hL2) hst.2 (oAll_sto2 hls trivial) hS hk
theorem Wq.lstore {k : Nat} {x : Int64} {ls2 : List (Option PV)} (hd : decode M.2.1 pc = .ok (.lstore k, 2)) (hn : k + 1 < M.2.2.1) (hs : psto2 ls k (pL x) = ls2) (q : Wq g d M c n (pc + 2) ls2 st m Q) : Wq g d M c n pc ls (pL x :: st) m Q := by
  subst hs
  intro p e R s mm args below meth cd H locs L QQ F hf hl hr hw hL hst hls hS hk
  refine lv_lstore F.1 F.2.1 hd hL hn rfl (fun L2 hL2 => ?_)
  exact q p e R s mm args below meth cd H locs L2 QQ F hf hl hr hw (lp_sto2 hL2) hst.2 (oAll_sto2 hls trivial) hS hk
theorem Wq.dstore_n {k : Fin 4} {x : UInt64} {ls2 : List (Option PV)} (hd : decode M.2.1 pc = .ok (.dstore_n k, 1)) (hn : (k : Nat) + 1 < M.2.2.1) (hs : psto2 ls k (pD x) = ls2) (q : Wq g d M c n (pc + 1) ls2 st m Q) : Wq g d M c n pc ls (pD x :: st) m Q := by
  subst hs
  intro p e R s mm args below meth cd H locs L QQ F hf hl hr hw hL hst hls hS hk
  refine lv_dstore_n F.1 F.2.1 hd rfl hL hn rfl (fun L2 hL2 => ?_)
  exact q p e R s mm args below meth cd H locs L2 QQ F hf hl hr hw (lp_sto2 hL2) hst.2 (oAll_sto2 hls trivial) hS hk
theorem Wq.dstore {k : Nat} {x : UInt64} {ls2 : List (Option PV)} (hd : decode M.2.1 pc = .ok (.dstore k, 2)) (hn : k + 1 < M.2.2.1) (hs : psto2 ls k (pD x) = ls2) (q : Wq g d M c n (pc + 2) ls2 st m Q) : Wq g d M c n pc ls (pD x :: st) m Q := by
  subst hs
  intro p e R s mm args below meth cd H locs L QQ F hf hl hr hw hL hst hls hS hk
  refine lv_dstore F.1 F.2.1 hd hL hn rfl (fun L2 hL2 => ?_)
  exact q p e R s mm args below meth cd H locs L2 QQ F hf hl hr hw (lp_sto2 hL2) hst.2 (oAll_sto2 hls trivial) hS hk
theorem Wq.astore_n {k : Fin 4} {t r j : Nat} {ls2 : List (Option PV)} (hd : decode M.2.1 pc = .ok (.astore_n k, 1)) (hn : (k : Nat) < M.2.2.1) (hs : psto1 ls k (pO t r j) = ls2) (q : Wq g d M c n (pc + 1) ls2 st m Q) : Wq g d M c n pc ls (pO t r j :: st) m Q := by
  subst hs
  intro p e R s mm args below meth cd H locs L QQ F hf hl hr hw hL hst hls hS hk
  refine lv_astore_n F.1 F.2.1 hd rfl hL hn rfl (fun L2 hL2 => ?_)
  exact q p e R s mm args below meth cd H locs L2 QQ F hf hl hr hw (lp_sto1 hL2) hst.2 (oAll_sto1 hls hst.1) hS hk
theorem Wq.astore {k : Nat} {t r j : Nat} {ls2 : List (Option PV)} (hd : decode M.2.1 pc = .ok (.astore k, 2)) (hn : (k : Nat) < M.2.2.1) (hs : psto1 ls k (pO t r j) = ls2) (q : Wq g d M c n (pc + 2) ls2 st m Q) : Wq g d M c n pc ls (pO t r j :: st) m Q := by
  subst hs
  intro p e R s mm args below meth cd H locs L QQ F hf hl hr hw hL hst hls hS hk
  refine lv_astore F.1 F.2.1 hd hL hn rfl (fun L2 hL2 => ?_)
  exact q p e R s mm args below meth cd H locs L2 QQ F hf hl hr hw (lp_sto1 hL2) hst.2 (oAll_sto1 hls hst.1) hS hk
theorem lp_find {g : GG} {ls : List (Option PV)} {k : Nat} {v : PV} (h : ls[k]? = some (some v)) : ∃ j : Nat, (lp g 0 ls)[j]? = some (k, pv g v) := by
  have := lp_in (g := g) ls 0 k v h
  rw [Nat.zero_add] at this
  exact List.getElem?_of_mem this
theorem Wq.iinc {k : Nat} {a : Int} {x : Int32} {ls2 : List (Option PV)} (hd : decode M.2.1 pc = .ok (.iinc k a, 3)) (hx : ls[k]? = some (some (pI x))) (hn : k < M.2.2.1) (hs : psto1 ls k (pI (x + Int32.ofInt a)) = ls2) (q : Wq g d M c n (pc + 3) ls2 st m Q) : Wq g d M c n pc ls st m Q := by
  subst hs
  intro p e R s mm args below meth cd H locs L QQ F hf hl hr hw hL hst hls hS hk
  obtain ⟨j, hj⟩ := lp_find (g := g) hx
  refine lv_iinc F.1 F.2.1 hd hL hj rfl hn rfl (fun L2 hL2 => ?_)
  exact q p e R s mm args below meth cd H locs L2 QQ F hf hl hr hw (lp_sto1 hL2) hst (oAll_sto1 hls trivial) hS hk
theorem Wq.ifeq {x : Int32} {off : Int} {tgt : Nat} (hd : decode M.2.1 pc = .ok (.ifCond .eq off, 3)) (ht : (pc : Int) + off = (tgt : Int)) (q1 : x = 0 → Wq g d M c n tgt ls st m Q) (q2 : ¬ x = 0 → Wq g d M c n (pc + 3) ls st m Q) : Wq g d M c n pc ls (pI x :: st) m Q := by
  intro p e R s mm args below meth cd H locs L QQ F hf hl hr hw hL hst hls hS hk
  refine lv_if_eq F.1 F.2.1 hd ht (fun h => ?_) (fun h => ?_)
  · exact q1 h p e R s mm args below meth cd H locs L QQ F hf hl hr hw hL hst.2 hls hS hk
  · exact q2 h p e R s mm args below meth cd H locs L QQ F hf hl hr hw hL hst.2 hls hS hk
theorem Wq.ifne {x : Int32} {off : Int} {tgt : Nat} (hd : decode M.2.1 pc = .ok (.ifCond .ne off, 3)) (ht : (pc : Int) + off = (tgt : Int)) (q1 : ¬ x = 0 → Wq g d M c n tgt ls st m Q) (q2 : x = 0 → Wq g d M c n (pc + 3) ls st m Q) : Wq g d M c n pc ls (pI x :: st) m Q := by
  intro p e R s mm args below meth cd H locs L QQ F hf hl hr hw hL hst hls hS hk
  refine lv_if_ne F.1 F.2.1 hd ht (fun h => ?_) (fun h => ?_)
  · exact q1 h p e R s mm args below meth cd H locs L QQ F hf hl hr hw hL hst.2 hls hS hk
  · exact q2 h p e R s mm args below meth cd H locs L QQ F hf hl hr hw hL hst.2 hls hS hk
theorem Wq.iflt {x : Int32} {off : Int} {tgt : Nat} (hd : decode M.2.1 pc = .ok (.ifCond .lt off, 3)) (ht : (pc : Int) + off = (tgt : Int)) (q1 : x < 0 → Wq g d M c n tgt ls st m Q) (q2 : ¬ x < 0 → Wq g d M c n (pc + 3) ls st m Q) : Wq g d M c n pc ls (pI x :: st) m Q := by
  intro p e R s mm args below meth cd H locs L QQ F hf hl hr hw hL hst hls hS hk
  refine lv_if_lt F.1 F.2.1 hd ht (fun h => ?_) (fun h => ?_)
  · exact q1 h p e R s mm args below meth cd H locs L QQ F hf hl hr hw hL hst.2 hls hS hk
  · exact q2 h p e R s mm args below meth cd H locs L QQ F hf hl hr hw hL hst.2 hls hS hk
theorem Wq.ifge {x : Int32} {off : Int} {tgt : Nat} (hd : decode M.2.1 pc = .ok (.ifCond .ge off, 3)) (ht : (pc : Int) + off = (tgt : Int)) (q1 : 0 ≤ x → Wq g d M c n tgt ls st m Q) (q2 : ¬ 0 ≤ x → Wq g d M c n (pc + 3) ls st m Q) : Wq g d M c n pc ls (pI x :: st) m Q := by
  intro p e R s mm args below meth cd H locs L QQ F hf hl hr hw hL hst hls hS hk
  refine lv_if_ge F.1 F.2.1 hd ht (fun h => ?_) (fun h => ?_)
  · exact q1 h p e R s mm args below meth cd H locs L QQ F hf hl hr hw hL hst.2 hls hS hk
  · exact q2 h p e R s mm args below meth cd H locs L QQ F hf hl hr hw hL hst.2 hls hS hk
theorem Wq.ifgt {x : Int32} {off : Int} {tgt : Nat} (hd : decode M.2.1 pc = .ok (.ifCond .gt off, 3)) (ht : (pc : Int) + off = (tgt : Int)) (q1 : 0 < x → Wq g d M c n tgt ls st m Q) (q2 : ¬ 0 < x → Wq g d M c n (pc + 3) ls st m Q) : Wq g d M c n pc ls (pI x :: st) m Q := by
  intro p e R s mm args below meth cd H locs L QQ F hf hl hr hw hL hst hls hS hk
  refine lv_if_gt F.1 F.2.1 hd ht (fun h => ?_) (fun h => ?_)
  · exact q1 h p e R s mm args below meth cd H locs L QQ F hf hl hr hw hL hst.2 hls hS hk
  · exact q2 h p e R s mm args below meth cd H locs L QQ F hf hl hr hw hL hst.2 hls hS hk
theorem Wq.ifle {x : Int32} {off : Int} {tgt : Nat} (hd : decode M.2.1 pc = .ok (.ifCond .le off, 3)) (ht : (pc : Int) + off = (tgt : Int)) (q1 : x ≤ 0 → Wq g d M c n tgt ls st m Q) (q2 : ¬ x ≤ 0 → Wq g d M c n (pc + 3) ls st m Q) : Wq g d M c n pc ls (pI x :: st) m Q := by
  intro p e R s mm args below meth cd H locs L QQ F hf hl hr hw hL hst hls hS hk
  refine lv_if_le F.1 F.2.1 hd ht (fun h => ?_) (fun h => ?_)
  · exact q1 h p e R s mm args below meth cd H locs L QQ F hf hl hr hw hL hst.2 hls hS hk
  · exact q2 h p e R s mm args below meth cd H locs L QQ F hf hl hr hw hL hst.2 hls hS hk
theorem Wq.icmpeq {x y : Int32} {off : Int} {tgt : Nat} (hd : decode M.2.1 pc = .ok (.if_icmp .eq off, 3)) (ht : (pc : Int) + off = (tgt : Int)) (q1 : x = y → Wq g d M c n tgt ls st m Q) (q2 : ¬ x = y → Wq g d M c n (pc + 3) ls st m Q) : Wq g d M c n pc ls (pI y :: pI x :: st) m Q := by
  intro p e R s mm args below meth cd H locs L QQ F hf hl hr hw hL hst hls hS hk
  refine lv_icmp_eq F.1 F.2.1 hd ht (fun h => ?_) (fun h => ?_)
  · exact q1 h p e R s mm args below meth cd H locs L QQ F hf hl hr hw hL hst.2.2 hls hS hk
  · exact q2 h p e R s mm args below meth cd H locs L QQ F hf hl hr hw hL hst.2.2 hls hS hk
theorem Wq.icmpne {x y : Int32} {off : Int} {tgt : Nat} (hd : decode M.2.1 pc = .ok (.if_icmp .ne off, 3)) (ht : (pc : Int) + off = (tgt : Int)) (q1 : ¬ x = y → Wq g d M c n tgt ls st m Q) (q2 : x = y → Wq g d M c n (pc + 3) ls st m Q) : Wq g d M c n pc ls (pI y :: pI x :: st) m Q := by
  intro p e R s mm args below meth cd H locs L QQ F hf hl hr hw hL hst hls hS hk
  refine lv_icmp_ne F.1 F.2.1 hd ht (fun h => ?_) (fun h => ?_)
  · exact q1 h p e R s mm args below meth cd H locs L QQ F hf hl hr hw hL hst.2.2 hls hS hk
  · exact q2 h p e R s mm args below meth cd H locs L QQ F hf hl hr hw hL hst.2.2 hls hS hk
theorem Wq.icmplt {x y : Int32} {off : Int} {tgt : Nat} (hd : decode M.2.1 pc = .ok (.if_icmp .lt off, 3)) (ht : (pc : Int) + off = (tgt : Int)) (q1 : x < y → Wq g d M c n tgt ls st m Q) (q2 : ¬ x < y → Wq g d M c n (pc + 3) ls st m Q) : Wq g d M c n pc ls (pI y :: pI x :: st) m Q := by
  intro p e R s mm args below meth cd H locs L QQ F hf hl hr hw hL hst hls hS hk
  refine lv_icmp_lt F.1 F.2.1 hd ht (fun h => ?_) (fun h => ?_)
  · exact q1 h p e R s mm args below meth cd H locs L QQ F hf hl hr hw hL hst.2.2 hls hS hk
  · exact q2 h p e R s mm args below meth cd H locs L QQ F hf hl hr hw hL hst.2.2 hls hS hk
theorem Wq.icmpge {x y : Int32} {off : Int} {tgt : Nat} (hd : decode M.2.1 pc = .ok (.if_icmp .ge off, 3)) (ht : (pc : Int) + off = (tgt : Int)) (q1 : y ≤ x → Wq g d M c n tgt ls st m Q) (q2 : ¬ y ≤ x → Wq g d M c n (pc + 3) ls st m Q) : Wq g d M c n pc ls (pI y :: pI x :: st) m Q := by
  intro p e R s mm args below meth cd H locs L QQ F hf hl hr hw hL hst hls hS hk
  refine lv_icmp_ge F.1 F.2.1 hd ht (fun h => ?_) (fun h => ?_)
  · exact q1 h p e R s mm args below meth cd H locs L QQ F hf hl hr hw hL hst.2.2 hls hS hk
  · exact q2 h p e R s mm args below meth cd H locs L QQ F hf hl hr hw hL hst.2.2 hls hS hk
theorem Wq.icmpgt {x y : Int32} {off : Int} {tgt : Nat} (hd : decode M.2.1 pc = .ok (.if_icmp .gt off, 3)) (ht : (pc : Int) + off = (tgt : Int)) (q1 : y < x → Wq g d M c n tgt ls st m Q) (q2 : ¬ y < x → Wq g d M c n (pc + 3) ls st m Q) : Wq g d M c n pc ls (pI y :: pI x :: st) m Q := by
  intro p e R s mm args below meth cd H locs L QQ F hf hl hr hw hL hst hls hS hk
  refine lv_icmp_gt F.1 F.2.1 hd ht (fun h => ?_) (fun h => ?_)
  · exact q1 h p e R s mm args below meth cd H locs L QQ F hf hl hr hw hL hst.2.2 hls hS hk
  · exact q2 h p e R s mm args below meth cd H locs L QQ F hf hl hr hw hL hst.2.2 hls hS hk
theorem Wq.icmple {x y : Int32} {off : Int} {tgt : Nat} (hd : decode M.2.1 pc = .ok (.if_icmp .le off, 3)) (ht : (pc : Int) + off = (tgt : Int)) (q1 : x ≤ y → Wq g d M c n tgt ls st m Q) (q2 : ¬ x ≤ y → Wq g d M c n (pc + 3) ls st m Q) : Wq g d M c n pc ls (pI y :: pI x :: st) m Q := by
  intro p e R s mm args below meth cd H locs L QQ F hf hl hr hw hL hst hls hS hk
  refine lv_icmp_le F.1 F.2.1 hd ht (fun h => ?_) (fun h => ?_)
  · exact q1 h p e R s mm args below meth cd H locs L QQ F hf hl hr hw hL hst.2.2 hls hS hk
  · exact q2 h p e R s mm args below meth cd H locs L QQ F hf hl hr hw hL hst.2.2 hls hS hk
theorem Wq.tableIn {dflt lo hi : Int} {offs : Array Int} {len : Nat} {x : Int32} {off : Int} {tgt : Nat} (hd : decode M.2.1 pc = .ok (.tableswitch dflt lo hi offs, len)) (h1 : ¬ x.toInt < lo) (h2 : ¬ hi < x.toInt) (ho : offs[(x.toInt - lo).toNat]? = some off) (ht : (pc : Int) + off = (tgt : Int)) (q : Wq g d M c n tgt ls st m Q) : Wq g d M c n pc ls (pI x :: st) m Q := by
  intro p e R s mm args below meth cd H locs L QQ F hf hl hr hw hL hst hls hS hk
  refine lv_tableIn F.1 F.2.1 hd h1 h2 ho ht ?_
  exact q p e R s mm args below meth cd H locs L QQ F hf hl hr hw hL hst.2 hls hS hk
theorem Wq.tableOut {dflt lo hi : Int} {offs : Array Int} {len : Nat} {x : Int32} {tgt : Nat} (hd : decode M.2.1 pc = .ok (.tableswitch dflt lo hi offs, len)) (h : x.toInt < lo ∨ hi < x.toInt) (ht : (pc : Int) + dflt = (tgt : Int)) (q : Wq g d M c n tgt ls st m Q) : Wq g d M c n pc ls (pI x :: st) m Q := by
  intro p e R s mm args below meth cd H locs L QQ F hf hl hr hw hL hst hls hS hk
  refine lv_tableOut F.1 F.2.1 hd h ht ?_
  exact q p e R s mm args below meth cd H locs L QQ F hf hl hr hw hL hst.2 hls hS hk
theorem Wq.lookup {dflt : Int} {ps : Array (Int × Int)} {len : Nat} {x : Int32} {off : Int} {tgt : Nat} (hd : decode M.2.1 pc = .ok (.lookupswitch dflt ps, len)) (hp : (ps.toList.zip (ps.toList.drop 1)).all (fun (a, next) => a.1 < next.1) = true) (ho : Op.lookupswitch.offset ps.toList dflt x.toInt = off) (ht : (pc : Int) + off = (tgt : Int)) (q : Wq g d M c n tgt ls st m Q) : Wq g d M c n pc ls (pI x :: st) m Q := by
  intro p e R s mm args below meth cd H locs L QQ F hf hl hr hw hL hst hls hS hk
  refine lv_lookup F.1 F.2.1 hd hp ho ht ?_
  exact q p e R s mm args below meth cd H locs L QQ F hf hl hr hw hL hst.2 hls hS hk
end RL
end
section
/-! MEMORY: fields, rows, statics -/
theorem trip_of {z : Nat × Nat × Nat} (h : z ∈ trip ++ rtrip) (h1 : z.1 < 41) : z ∈ trip := by
  rcases List.mem_append.mp h with h | h
  · exact h
  · exact absurd (rtrip_big z h) (by omega)
theorem trip_ix {z : Nat × Nat × Nat} (h : z ∈ trip) : ∃ q0 : Nat, trip[q0]? = some z := List.getElem?_of_mem h
theorem lay_ok : ∀ z ∈ trip, (fds z.1).all (fun e => e.1 != 3 || decide ((e.2.1, (if e.2.2 = 0 then z.2.1 else e.2.2 - 1), z.2.2) ∈ trip)) = true := by decide +kernel
theorem fget_ok {z : Nat × Nat × Nat} {m : PM} {k : Nat} {v : PV} (h : z ∈ trip) (hv : fget z m k = some v) : vOK v := by
  unfold fget at hv
  cases hd : (fds z.1)[k]? with
  | none => rw [hd] at hv; cases hv
  | some e =>
    rw [hd] at hv
    have hv : fvl z m k e = v := Option.some.inj hv
    have ha := List.all_eq_true.mp (lay_ok z h) e (List.mem_of_getElem? hd)
    subst hv
    unfold fvl
    by_cases e3 : e.1 = 3
    · rw [if_pos e3]
      rw [e3] at ha
      simp at ha
      by_cases e0 : e.2.2 = 0
      · rw [if_pos e0]
        rw [if_pos e0] at ha
        exact List.mem_append_left _ ha
      · rw [if_neg e0]
        rw [if_neg e0] at ha
        exact List.mem_append_left _ ha
    · rw [if_neg e3]
      by_cases e2 : e.1 = 2
      · rw [if_pos e2]; trivial
      · rw [if_neg e2]; trivial
theorem obv_at {g : GG} {m : PM} {z : Nat × Nat × Nat} {k : Nat} {v : PV} (hv : fget z m k = some v) : (obv g m z)[k]? = some (pv g v) := by
  have hk : k < (fds z.1).length := by
    unfold fget at hv
    cases hd : (fds z.1)[k]? with
    | none => rw [hd] at hv; cases hv
    | some e => exact (List.getElem?_eq_some_iff.mp hd).1
  unfold obv
  rw [List.getElem?_map, List.getElem?_range hk]
  show some (match fget z m k with | some v => pv g v | none => Value.null) = _
  rw [hv]
theorem setI_at (m : PM) (t r j k : Nat) (x : Int32) : (setI m t r j k x).1 r t j = upd (m.1 r t j) k x := setR_s m t r j _
theorem obv_len (g : GG) (m : PM) (z : Nat × Nat × Nat) : (obv g m z).length = (fds z.1).length := by simp [obv]
theorem obv_set {g : GG} {m : PM} {t r j k : Nat} {x : Int32} {e : Nat × Nat × Nat} (he : (fds t)[k]? = some e) (h3 : e.1 ≠ 3) (h2 : e.1 ≠ 2) : obv g (setI m t r j k x) (t, r, j) = (obv g m (t, r, j)).set k (.int x) := by
  have hk : k < (fds t).length := (List.getElem?_eq_some_iff.mp he).1
  apply List.ext_getElem?
  intro i
  rw [List.getElem?_set]
  by_cases hi : k = i
  · subst hi
    have : fget (t, r, j) (setI m t r j k x) k = some (pI x) := by
      unfold fget
      show ((fds t)[k]?).map _ = _
      rw [he]
      show some (fvl _ _ _ _) = _
      unfold fvl
      rw [if_neg h3, if_neg h2]
      show some (pI ((setI m t r j k x).1 r t j k)) = _
      rw [setI_at]
      simp [upd]
    rw [obv_at this, obv_len]
    simp [hk, pv]
  · rw [if_neg hi]
    by_cases hl : i < (fds t).length
    · unfold obv
      rw [List.getElem?_map, List.getElem?_map, List.getElem?_range hl]
      have : fget (t, r, j) (setI m t r j k x) i = fget (t, r, j) m i := by
        unfold fget
        cases hd : (fds t)[i]? with
        | none => rfl
        | some d =>
          show some (fvl _ _ _ _) = some (fvl _ _ _ _)
          unfold fvl
          by_cases e3 : d.1 = 3
          · rw [if_pos e3, if_pos e3]
          · rw [if_neg e3, if_neg e3]
            by_cases e2 : d.1 = 2
            · rw [if_pos e2, if_pos e2]; rfl
            · rw [if_neg e2, if_neg e2]
              show some (pI ((setI m t r j k x).1 r t j i)) = some (pI (m.1 r t j i))
              rw [setI_at]
              show some (pI (if i = k then x else m.1 r t j i)) = _
              rw [if_neg (fun q => hi q.symm)]
      show some (match fget (t, r, j) (setI m t r j k x) i with | some v => pv g v | none => Value.null) = some (match fget (t, r, j) m i with | some v => pv g v | none => Value.null)
      rw [this]
    · rw [List.getElem?_eq_none (by rw [obv_len]; exact Nat.le_of_not_lt hl), List.getElem?_eq_none (by rw [obv_len]; exact Nat.le_of_not_lt hl)]
theorem World_set {g : GG} {m m' : PM} {z : Nat × Nat × Nat} {q0 : Nat} {e : va_E} {H1 : Heap} (h : trip[q0]? = some z) (hP : va_P (gD g) vwCl ((cells g m).set q0 (ga g z.1 z.2.1 z.2.2, e)) H1) (he : cellE g m' z = e) (ho : ∀ z' ∈ trip, z' ≠ z → cellE g m' z' = cellE g m z') : World g m' H1 := by
  have := cells_set h he ho
  rw [this] at hP
  exact hP
theorem vp_dec {x : Int32} {k : Nat} (h : decide (¬ (x < 0 ∨ k ≤ x.toNatClampNeg)) = true) : vp_in x k := by
  have h1 := of_decide_eq_true h
  exact h1
/-- a field of a class, as a class names it -/
def FL (own : String) (idx ci k : Nat) : Prop := ∃ (C : String) (T : u_T) (N : Nat) (ty : Nat → FieldType), vwCl[ci]? = some (C, T, N) ∧ k < N ∧ (∀ w ∈ u_ws C T N, w ∈ gTbl) ∧ Cond.fieldLink own idx (T k).1 (T k).2.1 (T k).2.2.1 ∈ gTbl ∧ (∀ k, k < N → parseFieldDescriptor (T k).2.2.1 = some (ty k)) ∧ (∀ a, a < N → ∀ b, b < N → a ≠ b → (T a).2.1 ≠ (T b).2.1)
def FLw (own : String) (idx ci k : Nat) (tc : FieldType) : Prop := ∃ (C : String) (T : u_T) (N : Nat) (ty : Nat → FieldType), vwCl[ci]? = some (C, T, N) ∧ k < N ∧ (∀ w ∈ u_ws C T N, w ∈ gTbl) ∧ Cond.fieldLink own idx (T k).1 (T k).2.1 (T k).2.2.1 ∈ gTbl ∧ (∀ k, k < N → parseFieldDescriptor (T k).2.2.1 = some (ty k)) ∧ (∀ a, a < N → ∀ b, b < N → a ≠ b → (T a).2.1 ≠ (T b).2.1) ∧ (T k).2.2.2 = false ∧ parseFieldDescriptor (T k).2.2.1 = some tc
section RM
variable {g : GG} {d : Nat} {M : MD} {c n pc : Nat} {ls : List (Option PV)} {st : List PV} {m : PM} {Q : Ou → PM → Nat → Nat → Prop}
theorem Wq.getf {idx ci k t r j : Nat} {v : PV} (hd : decode M.2.1 pc = .ok (.getfield idx, 3)) (h : FL M.1 idx ci k) (ht : cix t = ci ∧ ark t = none ∧ t < 41) (hv : fget (t, r, j) m k = some v) (q : Wq g d M c n (pc + 3) ls (v :: st) m Q) : Wq g d M c n pc ls (pO t r j :: st) m Q := by
  intro p e R s mm args below meth cd H locs L QQ F hf hl hr hw hL hst hls hS hk
  obtain ⟨C, T, N, ty, h1, h2, h3, h4, h5, h6⟩ := h
  have hz := trip_of hst.1 ht.2.2
  obtain ⟨q0, hq⟩ := trip_ix hz
  have he : (cells g m)[q0]? = some (ga g t r j, .inr (ci, obv g m (t, r, j))) := by
    rw [cells_at hq]
    show some (_, cellE g m (t, r, j)) = _
    unfold cellE
    rw [show ark (t, r, j).1 = none from ht.2.1]
    show some (_, Sum.inr (cix t, _)) = _
    rw [ht.1]
  refine va_get F.1 F.2.1 F.2.2.2.2.1 h3 F.2.2.2.1 F.2.2.2.2.2.1.2.1 hw q0 he h1 k h2 (F.2.2.2.2.1 _ h4) (fun _ h => h) (obv_at hv) hd ?_
  exact q p e R s mm args below meth cd H locs L QQ F hf hl hr hw hL ⟨fget_ok hz hv, hst.2⟩ hls hS hk
theorem arks {t : Nat} : (ark t = none → t ≠ 11) := fun h e => by subst e; exact absurd h (by decide)
theorem kept_setR {m : PM} {t r j : Nat} {f : Nat → Int32} (h11 : t ≠ 11 ∨ (r = 8 ∧ j = 0)) {z' : Nat × Nat × Nat} (hz : z' ∈ trip) (hne : z' ≠ (t, r, j)) : cellE g (setR m t r j f) z' = cellE g m z' := by
  obtain ⟨t', r', j'⟩ := z'
  refine cellE_kept (setR_n m f hne) (fun _ => rfl) (fun _ => rfl) (fun e => ?_)
  have e : t' = 11 := e
  subst e
  refine setR_n m f fun q => ?_
  rcases h11 with h | h
  · exact h (congrArg Prod.fst q).symm
  · have hz2 : (11, r', j') = (11, 8, 0) := by
      have : ∀ z ∈ trip, z.1 = 11 → z = (11, 8, 0) := by decide +kernel
      exact this _ hz rfl
    exact hne (hz2.trans q)
theorem Wq.putI {idx ci k t r j : Nat} {x : Int32} {tc : FieldType} {e0 : Nat × Nat × Nat} (hd : decode M.2.1 pc = .ok (.putfield idx, 3)) (h : FLw M.1 idx ci k tc) (ht : cix t = ci ∧ ark t = none ∧ t < 41) (hk0 : (fds t)[k]? = some e0 ∧ e0.1 ≠ 3 ∧ e0.1 ≠ 2) (hx : narrow tc (.int x) = .int x ∧ fits tc (.int x) = true) (q : Wq g d M c n (pc + 3) ls st (setI m t r j k x) Q) : Wq g d M c n pc ls (pI x :: pO t r j :: st) m Q := by
  intro p e R s mm args below meth cd H locs L QQ F hf hl hr hw hL hst hls hS hk
  obtain ⟨C, T, N, ty, h1, h2, h3, h4, h5, h6, h7, h8⟩ := h
  have hz := trip_of hst.2.1 ht.2.2
  obtain ⟨q0, hq⟩ := trip_ix hz
  have hce : ∀ m' : PM, cellE g m' (t, r, j) = .inr (ci, obv g m' (t, r, j)) := fun m' => by
    unfold cellE
    rw [show ark (t, r, j).1 = none from ht.2.1]
    show Sum.inr (cix t, _) = _
    rw [ht.1]
  have he : (cells g m)[q0]? = some (ga g t r j, .inr (ci, obv g m (t, r, j))) := by
    rw [cells_at hq, hce]
  refine va_put F.1 F.2.1 F.2.2.2.2.1 h3 ty h5 h6 F.2.2.2.1 F.2.2.2.2.2.1.2.1 hw (F.2.2.2.2.2.1.2.2.2.1 m) hS q0 he h1 k h2 (F.2.2.2.2.1 _ h4) (fun _ h => h) h7 h8 hx.1 hx.2 (by rw [obv_len]; exact (List.getElem?_eq_some_iff.mp hk0.1).1) hd (fun H1 locs1 hP1 _ hS1 => ?_)
  have hw1 := World_set (g := g) (m := m) (m' := setI m t r j k x) (e := .inr (ci, (obv g m (t, r, j)).set k (.int x))) hq hP1 (by rw [hce, obv_set hk0.1 hk0.2.1 hk0.2.2]) (fun z' hz' hne => kept_setR (Or.inl (arks ht.2.1)) hz' hne)
  exact q p e R s mm args below meth cd H1 locs1 L QQ F hf hl hr hw1 hL hst.2.2 hls hS1 hk
/-- the model's long -/
theorem Wq.putDig {idx : Nat} {x : Int64} (hd : decode M.2.1 pc = .ok (.putfield idx, 3)) (h : FLw M.1 idx 5 15 .long) (q : Wq g d M c n (pc + 3) ls st (setL m 1 x) Q) : Wq g d M c n pc ls (pL x :: pO 20 9 0 :: st) m Q := by
  intro p e R s mm args below meth cd H locs L QQ F hf hl hr hw hL hst hls hS hk
  obtain ⟨C, T, N, ty, h1, h2, h3, h4, h5, h6, h7, h8⟩ := h
  have hz := trip_of hst.2.1 (Nat.le_of_ble_eq_true rfl)
  obtain ⟨q0, hq⟩ := trip_ix hz
  have hce : ∀ m' : PM, cellE g m' (20, 9, 0) = .inr (5, obv g m' (20, 9, 0)) := fun m' => rfl
  have he : (cells g m)[q0]? = some (ga g 20 9 0, .inr (5, obv g m (20, 9, 0))) := by
    rw [cells_at hq, hce]
  refine va_put (v := .long x) F.1 F.2.1 F.2.2.2.2.1 h3 ty h5 h6 F.2.2.2.1 F.2.2.2.2.2.1.2.1 hw (F.2.2.2.2.2.1.2.2.2.1 m) hS q0 he h1 15 h2 (F.2.2.2.2.1 _ h4) (fun _ h => h) h7 h8 rfl rfl (by rw [obv_len]; exact Nat.lt_of_sub_pos (by decide)) hd (fun H1 locs1 hP1 _ hS1 => ?_)
  have hw1 := World_set (g := g) (m := m) (m' := setL m 1 x) (e := .inr (5, (obv g m (20, 9, 0)).set 15 (.long x))) hq hP1 (by rw [hce]; rfl) (fun z' hz' hne => by
    refine cellE_kept rfl (fun e => absurd ?_ hne) (fun _ => rfl) (fun _ => rfl)
    have : ∀ z ∈ trip, z.1 = 20 → z = (20, 9, 0) := by decide +kernel
    exact this _ hz' e)
  exact q p e R s mm args below meth cd H1 locs1 L QQ F hf hl hr hw1 hL hst.2.2 hls hS1 hk
/-- the place of a row in the world -/
theorem row_at {t r j k n0 : Nat} (ha : ark t = some (k, n0)) (hz : (t, r, j) ∈ trip) : ∃ q0 : Nat, trip[q0]? = some (t, r, j) ∧ (cells g m)[q0]? = some (ga g t r j, .inl (gc g k, n0, arc g m (t, r, j) k)) := by
  obtain ⟨q0, hq⟩ := trip_ix hz
  refine ⟨q0, hq, ?_⟩
  rw [cells_at hq]
  unfold cellE
  rw [show ark (t, r, j).1 = some (k, n0) from ha]
theorem cellE_row {m' : PM} {t r j k n0 : Nat} (ha : ark t = some (k, n0)) : cellE g m' (t, r, j) = .inl (gc g k, n0, arc g m' (t, r, j) k) := by
  unfold cellE
  rw [show ark (t, r, j).1 = some (k, n0) from ha]
theorem ark_lt {t : Nat} {v : Nat × Nat} (h : ark t = some v) : t < 41 := by
  rcases Nat.lt_or_ge t 41 with q | q
  · exact q
  · rw [ark_none q] at h; cases h
theorem Wq.iald {t r j n0 : Nat} {i : Int32} (hd : decode M.2.1 pc = .ok (.iaload, 1)) (ha : ark t = some (0, n0)) (hi : vp_in i n0) (q : Wq g d M c n (pc + 1) ls (pI (m.1 r t j (ix i)) :: st) m Q) : Wq g d M c n pc ls (pI i :: pO t r j :: st) m Q := by
  intro p e R s mm args below meth cd H locs L QQ F hf hl hr hw hL hst hls hS hk
  obtain ⟨q0, -, hq⟩ := row_at (g := g) (m := m) ha (trip_of hst.2.1 (ark_lt ha))
  refine va_iald F.1 F.2.1 F.2.2.2.2.2.1.2.1 hw q0 0 (f := m.1 r t j) hq rfl hi hd ?_
  exact q p e R s mm args below meth cd H locs L QQ F hf hl hr hw hL ⟨trivial, hst.2.2⟩ hls hS hk
theorem Wq.zald {t r j n0 : Nat} {i : Int32} (hd : decode M.2.1 pc = .ok (.baload, 1)) (ha : ark t = some (1, n0)) (hi : vp_in i n0) (q : Wq g d M c n (pc + 1) ls (pI (m.1 r t j (ix i)) :: st) m Q) : Wq g d M c n pc ls (pI i :: pO t r j :: st) m Q := by
  intro p e R s mm args below meth cd H locs L QQ F hf hl hr hw hL hst hls hS hk
  obtain ⟨q0, -, hq⟩ := row_at (g := g) (m := m) ha (trip_of hst.2.1 (ark_lt ha))
  refine va_zald F.1 F.2.1 F.2.2.2.2.2.1.2.1 hw q0 1 (f := m.1 r t j) hq rfl hi hd ?_
  exact q p e R s mm args below meth cd H locs L QQ F hf hl hr hw hL ⟨trivial, hst.2.2⟩ hls hS hk
theorem Wq.lald {r j : Nat} (hd : decode M.2.1 pc = .ok (.laload, 1)) (q : Wq g d M c n (pc + 1) ls (pL (m.2 0) :: st) m Q) : Wq g d M c n pc ls (pI 0 :: pO 40 r j :: st) m Q := by
  intro p e R s mm args below meth cd H locs L QQ F hf hl hr hw hL hst hls hS hk
  obtain ⟨q0, -, hq⟩ := row_at (g := g) (m := m) (t := 40) (k := 2) (n0 := 1) rfl (trip_of hst.2.1 (show (40 : Nat) < 41 by decide))
  refine va_lald F.1 F.2.1 F.2.2.2.2.2.1.2.1 hw q0 2 (f := fun i => if i = 0 then m.2 0 else 0) (i := 0) hq rfl (vp_dec rfl) hd ?_
  exact q p e R s mm args below meth cd H locs L QQ F hf hl hr hw hL ⟨trivial, hst.2.2⟩ hls hS hk
theorem pup_ok : ∀ z ∈ trip, z.1 = 7 → ∀ j, j < 12 → (4, z.2.1, j) ∈ trip := by decide +kernel
theorem exa_ok : ∀ z ∈ trip, z.1 = 8 → ∀ j, j < 4 → (5, z.2.1, j) ∈ trip := by decide +kernel
theorem off_ok : ∀ j, j < 8 → (0, j, 0) ∈ trip := by decide +kernel
theorem vp_lt {i : Int32} {k : Nat} (h : vp_in i k) : ix i < k := by
  rcases Nat.lt_or_ge (ix i) k with q | q
  · exact q
  · exact absurd (Or.inr q) h
theorem Wq.aaldP {r j : Nat} {i : Int32} (hd : decode M.2.1 pc = .ok (.aaload, 1)) (hi : vp_in i 12) (q : Wq g d M c n (pc + 1) ls (pO 4 r (ix i) :: st) m Q) : Wq g d M c n pc ls (pI i :: pO 7 r j :: st) m Q := by
  intro p e R s mm args below meth cd H locs L QQ F hf hl hr hw hL hst hls hS hk
  have hz := trip_of hst.2.1 (show 7 < 41 by decide)
  obtain ⟨q0, -, hq⟩ := row_at (g := g) (m := m) (t := 7) (k := 3) (n0 := 12) rfl hz
  refine va_aldq F.1 F.2.1 F.2.2.2.2.2.1.2.1 hw q0 3 (f := fun i => some (ga g 4 r i)) hq rfl hi hd ?_
  exact q p e R s mm args below meth cd H locs L QQ F hf hl hr hw hL ⟨List.mem_append_left _ (pup_ok _ hz rfl _ (vp_lt hi)), hst.2.2⟩ hls hS hk
theorem Wq.aaldE {r j : Nat} {i : Int32} (hd : decode M.2.1 pc = .ok (.aaload, 1)) (hi : vp_in i 4) (q : Wq g d M c n (pc + 1) ls (pO 5 r (ix i) :: st) m Q) : Wq g d M c n pc ls (pI i :: pO 8 r j :: st) m Q := by
  intro p e R s mm args below meth cd H locs L QQ F hf hl hr hw hL hst hls hS hk
  have hz := trip_of hst.2.1 (show 8 < 41 by decide)
  obtain ⟨q0, -, hq⟩ := row_at (g := g) (m := m) (t := 8) (k := 4) (n0 := 4) rfl hz
  refine va_aldq F.1 F.2.1 F.2.2.2.2.2.1.2.1 hw q0 4 (f := fun i => some (ga g 5 r i)) hq rfl hi hd ?_
  exact q p e R s mm args below meth cd H locs L QQ F hf hl hr hw hL ⟨List.mem_append_left _ (exa_ok _ hz rfl _ (vp_lt hi)), hst.2.2⟩ hls hS hk
theorem Wq.aaldS {r j : Nat} {i : Int32} (hd : decode M.2.1 pc = .ok (.aaload, 1)) (hi : vp_in i 6) (ho : ix (m.1 8 11 0 (ix i)) < 8) (q : Wq g d M c n (pc + 1) ls (pO 0 (ix (m.1 8 11 0 (ix i))) 0 :: st) m Q) : Wq g d M c n pc ls (pI i :: pO 11 r j :: st) m Q := by
  intro p e R s mm args below meth cd H locs L QQ F hf hl hr hw hL hst hls hS hk
  have hz := trip_of hst.2.1 (show 11 < 41 by decide)
  obtain ⟨q0, -, hq⟩ := row_at (g := g) (m := m) (t := 11) (k := 5) (n0 := 6) rfl hz
  refine va_aldq F.1 F.2.1 F.2.2.2.2.2.1.2.1 hw q0 5 (f := fun i => some (ga g 0 (ix (m.1 8 11 0 i)) 0)) hq rfl hi hd ?_
  exact q p e R s mm args below meth cd H locs L QQ F hf hl hr hw hL ⟨List.mem_append_left _ (off_ok _ ho), hst.2.2⟩ hls hS hk
theorem Wq.alen {t r j k n0 : Nat} {v : Int32} (hd : decode M.2.1 pc = .ok (.arraylength, 1)) (ha : ark t = some (k, n0)) (hk0 : k < 6) (hv : Int32.ofNat n0 = v) (q : Wq g d M c n (pc + 1) ls (pI v :: st) m Q) : Wq g d M c n pc ls (pO t r j :: st) m Q := by
  intro p e R s mm args below meth cd H locs L QQ F hf hl hr hw hL hst hls hS hk
  obtain ⟨q0, -, hq⟩ := row_at (g := g) (m := m) ha (trip_of hst.1 (ark_lt ha))
  have ht : ∃ ty, (tysG g)[k]? = some (gc g k, ty) := by
    match k, hk0 with
    | 0, _ => exact ⟨_, rfl⟩
    | 1, _ => exact ⟨_, rfl⟩
    | 2, _ => exact ⟨_, rfl⟩
    | 3, _ => exact ⟨_, rfl⟩
    | 4, _ => exact ⟨_, rfl⟩
    | 5, _ => exact ⟨_, rfl⟩
  obtain ⟨ty, ht⟩ := ht
  refine va_alen F.1 F.2.1 F.2.2.2.2.2.1.2.1 hw q0 k hq ht hv hd ?_
  exact q p e R s mm args below meth cd H locs L QQ F hf hl hr hw hL ⟨trivial, hst.2⟩ hls hS hk
theorem Wq.iast {t r j n0 : Nat} {i x : Int32} (hd : decode M.2.1 pc = .ok (.iastore, 1)) (ha : ark t = some (0, n0)) (hi : vp_in i n0) (q : Wq g d M c n (pc + 1) ls st (setI m t r j (ix i) x) Q) : Wq g d M c n pc ls (pI x :: pI i :: pO t r j :: st) m Q := by
  intro p e R s mm args below meth cd H locs L QQ F hf hl hr hw hL hst hls hS hk
  obtain ⟨q0, hq0, hq⟩ := row_at (g := g) (m := m) ha (trip_of hst.2.2.1 (ark_lt ha))
  refine va_iast F.1 F.2.1 F.2.2.2.2.2.1.2.1 hw (F.2.2.2.2.2.1.2.2.2.1 m) hS q0 0 (f := m.1 r t j) hq rfl hi hd (fun H1 locs1 hP1 _ hS1 => ?_)
  have h11 : t ≠ 11 := fun e => by subst e; exact absurd ha (by simp [ark])
  have hw1 := World_set (g := g) (m := m) (m' := setI m t r j (ix i) x) (e := .inl (gc g 0, n0, .inl (upd (m.1 r t j) (ix i) x))) hq0 hP1 (by rw [cellE_row ha]; show Sum.inl (_, _, Sum.inl ((setI m t r j (ix i) x).1 r t j)) = _; rw [setI_at]) (fun z' hz' hne => kept_setR (Or.inl h11) hz' hne)
  exact q p e R s mm args below meth cd H1 locs1 L QQ F hf hl hr hw1 hL hst.2.2.2 hls hS1 hk
theorem Wq.zast {t r j n0 : Nat} {i x : Int32} (hd : decode M.2.1 pc = .ok (.bastore, 1)) (ha : ark t = some (1, n0)) (hi : vp_in i n0) (hx : x = 0 ∨ x = 1) (q : Wq g d M c n (pc + 1) ls st (setI m t r j (ix i) x) Q) : Wq g d M c n pc ls (pI x :: pI i :: pO t r j :: st) m Q := by
  intro p e R s mm args below meth cd H locs L QQ F hf hl hr hw hL hst hls hS hk
  obtain ⟨q0, hq0, hq⟩ := row_at (g := g) (m := m) ha (trip_of hst.2.2.1 (ark_lt ha))
  have hnx : vp_nar .boolean x = x := by rcases hx with e | e <;> subst e <;> decide
  refine va_zast F.1 F.2.1 F.2.2.2.2.2.1.2.1 hw (F.2.2.2.2.2.1.2.2.2.1 m) hS q0 1 (f := m.1 r t j) hq rfl hi hd (fun H1 locs1 hP1 _ hS1 => ?_)
  have h11 : t ≠ 11 := fun e => by subst e; exact absurd ha (by simp [ark])
  rw [hnx] at hP1
  have hw1 := World_set (g := g) (m := m) (m' := setI m t r j (ix i) x) (e := .inl (gc g 1, n0, .inl (upd (m.1 r t j) (ix i) x))) hq0 hP1 (by rw [cellE_row ha]; show Sum.inl (_, _, Sum.inl ((setI m t r j (ix i) x).1 r t j)) = _; rw [setI_at]) (fun z' hz' hne => kept_setR (Or.inl h11) hz' hne)
  exact q p e R s mm args below meth cd H1 locs1 L QQ F hf hl hr hw1 hL hst.2.2.2 hls hS1 hk
theorem Wq.last {x : Int64} (hd : decode M.2.1 pc = .ok (.lastore, 1)) (q : Wq g d M c n (pc + 1) ls st (setL m 0 x) Q) : Wq g d M c n pc ls (pL x :: pI 0 :: pO 40 10 0 :: st) m Q := by
  intro p e R s mm args below meth cd H locs L QQ F hf hl hr hw hL hst hls hS hk
  obtain ⟨q0, hq0, hq⟩ := row_at (g := g) (m := m) (t := 40) (k := 2) (n0 := 1) rfl (trip_of hst.2.2.1 (Nat.le_of_ble_eq_true rfl))
  refine va_last F.1 F.2.1 F.2.2.2.2.2.1.2.1 hw (F.2.2.2.2.2.1.2.2.2.1 m) hS q0 2 (f := fun i => if i = 0 then m.2 0 else 0) (i := 0) hq rfl (vp_dec rfl) hd (fun H1 locs1 hP1 _ hS1 => ?_)
  have hw1 := World_set (g := g) (m := m) (m' := setL m 0 x) (e := .inl (gc g 2, 1, .inr (.inl (vp_updL (fun i => if i = 0 then m.2 0 else 0) (0 : Int32).toNatClampNeg x)))) hq0 hP1 (by
    rw [cellE_row (k := 2) (n0 := 1) rfl]
    show Sum.inl (_, _, Sum.inr (Sum.inl (fun i => if i = 0 then (setL m 0 x).2 0 else 0))) = _
    have e : (fun i : Nat => if i = 0 then (setL m 0 x).2 0 else (0 : Int64)) = vp_updL (fun i => if i = 0 then m.2 0 else 0) (0 : Int32).toNatClampNeg x := by
      funext i
      show (if i = 0 then vp_updL m.2 0 x 0 else 0) = if i = 0 then x else (if i = 0 then m.2 0 else 0)
      by_cases h : i = 0 <;> simp [h, vp_updL]
    rw [e]) (fun z' hz' hne => by
    refine cellE_kept rfl (fun _ => rfl) (fun e => absurd ?_ hne) (fun _ => rfl)
    have : ∀ z ∈ trip, z.1 = 40 → z = (40, 10, 0) := by decide +kernel
    exact this _ hz' e)
  exact q p e R s mm args below meth cd H1 locs1 L QQ F hf hl hr hw1 hL hst.2.2.2 hls hS1 hk
theorem Wq.aast {r0 : Nat} {i : Int32} (hd : decode M.2.1 pc = .ok (.aastore, 1)) (hi : vp_in i 6) (q : Wq g d M c n (pc + 1) ls st (setI m 11 8 0 (ix i) (nI r0)) Q) : Wq g d M c n pc ls (pO 0 r0 0 :: pI i :: pO 11 8 0 :: st) m Q := by
  intro p e R s mm args below meth cd H locs L QQ F hf hl hr hw hL hst hls hS hk
  obtain ⟨q0, hq0, hq⟩ := row_at (g := g) (m := m) (t := 11) (k := 5) (n0 := 6) rfl (trip_of hst.2.2.1 (Nat.le_of_ble_eq_true rfl))
  have hzv := trip_of hst.1 (show 0 < 41 by decide)
  have hr8 : r0 < 8 := by
    have : ∀ z ∈ trip, z.1 = 0 → z.2.1 < 8 := by decide +kernel
    exact this _ hzv rfl
  obtain ⟨qk, hqk⟩ := trip_ix hzv
  have hcv : (cells g m)[qk]? = some (ga g 0 r0 0, .inr (1, obv g m (0, r0, 0))) := by rw [cells_at hqk]; rfl
  refine va_astq F.1 F.2.1 F.2.2.2.2.2.1.2.1 hw (F.2.2.2.2.2.1.2.2.2.1 m) hS q0 5 qk 1 (f := fun i => some (ga g 0 (ix (m.1 8 11 0 i)) 0)) (r := (RX1, TX1, 10)) hq rfl hcv rfl hi hd (fun H1 locs1 hP1 _ hS1 => ?_)
  have hw1 := World_set (g := g) (m := m) (m' := setI m 11 8 0 (ix i) (nI r0)) (z := (11, 8, 0)) (e := .inl (gc g 5, 6, .inr (.inr (.inr (.inr (va_up (fun i => some (ga g 0 (ix (m.1 8 11 0 i)) 0)) (ix i) (some (ga g 0 r0 0)))))))) hq0 hP1 (by
    rw [cellE_row (k := 5) (n0 := 6) rfl]
    have e : (fun k : Nat => some (ga g 0 (ix ((setI m 11 8 0 (ix i) (nI r0)).1 8 11 0 k)) 0)) = va_up (fun i => some (ga g 0 (ix (m.1 8 11 0 i)) 0)) (ix i) (some (ga g 0 r0 0)) := by
      funext k
      rw [setI_at]
      by_cases h : k = ix i
      · simp [upd, va_up, h, nI_clamp (show r0 < 2 ^ 31 by omega)]
      · simp [upd, va_up, h]
    show Sum.inl (_, _, Sum.inr (Sum.inr (Sum.inr (Sum.inr (fun k : Nat => some (ga g 0 (ix ((setI m 11 8 0 (ix i) (nI r0)).1 8 11 0 k)) 0)))))) = _
    rw [e]) (fun z' hz' hne => kept_setR (Or.inr ⟨rfl, rfl⟩) hz' hne)
  exact q p e R s mm args below meth cd H1 locs1 L QQ F hf hl hr hw1 hL hst.2.2.2 hls hS1 hk
end RM
end
section
/-! RETURNS, CALLS -/
section RC
variable {g : GG} {d : Nat} {M : MD} {c n pc : Nat} {ls : List (Option PV)} {st : List PV} {m : PM} {Q : Ou → PM → Nat → Nat → Prop}
theorem Wq.iret {x : Int32} (hd : decode M.2.1 pc = .ok (.ireturn, 1)) (hn : ∃ rt, M.2.2.2.1 = some rt ∧ narrow rt (.int x) = .int x) (hQ : Q (.inl (some (pI x))) m c n) : Wq g d M c n pc ls [pI x] m Q := by
  intro p e R s mm args below meth cd H locs L QQ F hf hl hr hw hL hst hls hS hk
  exact hk (.inl (some (pI x))) m c n pc L [.int x] H locs hQ hw hL.1 hS ⟨hd, rfl, hn⟩
theorem Wq.lret {x : Int64} (hd : decode M.2.1 pc = .ok (.lreturn, 1)) (hn : M.2.2.2.1 = some .long) (hQ : Q (.inl (some (pL x))) m c n) : Wq g d M c n pc ls [pL x] m Q := by
  intro p e R s mm args below meth cd H locs L QQ F hf hl hr hw hL hst hls hS hk
  exact hk (.inl (some (pL x))) m c n pc L [.long x] H locs hQ hw hL.1 hS ⟨hd, rfl, hn⟩
theorem Wq.dret {x : UInt64} (hd : decode M.2.1 pc = .ok (.dreturn, 1)) (hn : M.2.2.2.1 = some .double) (hQ : Q (.inl (some (pD x))) m c n) : Wq g d M c n pc ls [pD x] m Q := by
  intro p e R s mm args below meth cd H locs L QQ F hf hl hr hw hL hst hls hS hk
  exact hk (.inl (some (pD x))) m c n pc L [.double x] H locs hQ hw hL.1 hS ⟨hd, rfl, hn⟩
theorem Wq.aret {t r j : Nat} (hd : decode M.2.1 pc = .ok (.areturn, 1)) (hn : ∃ n, M.2.2.2.1 = some (.object n)) (hQ : Q (.inl (some (pO t r j))) m c n) : Wq g d M c n pc ls [pO t r j] m Q := by
  intro p e R s mm args below meth cd H locs L QQ F hf hl hr hw hL hst hls hS hk
  exact hk (.inl (some (pO t r j))) m c n pc L [.ref (ga g t r j)] H locs hQ hw hL.1 hS ⟨hd, rfl, hn, hst.1⟩
theorem Wq.vret (hd : decode M.2.1 pc = .ok (.return_, 1)) (hn : M.2.2.2.1 = none) (hQ : Q (.inl none) m c n) : Wq g d M c n pc ls [] m Q := by
  intro p e R s mm args below meth cd H locs L QQ F hf hl hr hw hL hst hls hS hk
  exact hk (.inl none) m c n pc L [] H locs hQ hw hL.1 hS ⟨hd, rfl, hn⟩
theorem Wq.throw {E ik is ic : Nat} {tx : String} (hM : M.1 = "TestSlots") (d0 : decode M.2.1 pc = .ok (.new ik, 3)) (d3 : decode M.2.1 (pc + 3) = .ok (.dup, 1)) (d4 : decode M.2.1 (pc + 4) = .ok (.ldc is, 2)) (d6 : decode M.2.1 (pc + 6) = .ok (.invokespecial ic, 3)) (d9 : decode M.2.1 (pc + 9) = .ok (.athrow, 1)) (hs : (is, tx) ∈ exT) (hE : (E, ik, ic) ∈ [(1, 37, 41), (2, 94, 98), (3, 63, 67)]) (hQ : Q (.inr E) m c n) : Wq g d M c n pc ls [] m Q := by
  intro p e R s mm args below meth cd H locs L QQ F hf hl hr hw hL hst hls hS hk
  exact hk (.inr E) m c n pc L [] H locs hQ hw hL.1 hS ⟨ik, is, ic, tx, hM, d0, d3, d4, d6, d9, hs, hE, Nat.zero_le 8⟩
/-- the locals at a method's entry -/
def argL : List PV → List (Option PV)
  | [] => []
  | v :: l => if two (some v) then some v :: none :: argL l else some v :: argL l
theorem two_iff {g : GG} {v : PV} : (pv g v).category = 2 ↔ two (some v) = true := by
  rcases v with x | x | x | x <;> simp [pv, Value.category, two]
theorem argL_in {g : GG} : ∀ (avs : List PV) (i : Nat) (q : Nat × Value), q ∈ lp g i (argL avs) → q ∈ lv_args i (avs.map (pv g))
  | [], _, _, h => by cases h
  | v :: l, i, q, h => by
    unfold argL at h
    show q ∈ (i, pv g v) :: lv_args (if (pv g v).category = 2 then i + 2 else i + 1) (l.map (pv g))
    by_cases ht : two (some v) = true
    · rw [if_pos ht] at h
      rw [if_pos (two_iff.mpr ht)]
      rcases List.mem_cons.mp h with h | h
      · exact List.mem_cons.mpr (Or.inl h)
      · exact List.mem_cons.mpr (Or.inr (argL_in l (i + 2) q h))
    · rw [if_neg ht] at h
      rw [if_neg (fun z => ht (two_iff.mp z))]
      rcases List.mem_cons.mp h with h | h
      · exact List.mem_cons.mpr (Or.inl h)
      · exact List.mem_cons.mpr (Or.inr (argL_in l (i + 1) q h))
theorem argL_len {g : GG} : ∀ (avs : List PV), (lg_sl (avs.map (pv g))).length = (argL avs).length
  | [] => rfl
  | v :: l => by
    have ih := argL_len (g := g) l
    have e : lg_sl ((v :: l).map (pv g)) = (if (pv g v).category = 2 then [Slot.val (pv g v), .second] else [.val (pv g v)]) ++ lg_sl (l.map (pv g)) := by simp [lg_sl]
    have e2 : argL (v :: l) = if two (some v) then some v :: none :: argL l else some v :: argL l := rfl
    rw [e, List.length_append, ih, e2]
    by_cases ht : two (some v) = true
    · rw [if_pos ht, if_pos (two_iff.mpr ht)]
      simp only [List.length_cons, List.length_nil]
      omega
    · rw [if_neg ht, if_neg (fun z => ht (two_iff.mp z))]
      simp only [List.length_cons, List.length_nil]
      omega
theorem argL_all : ∀ {avs : List PV}, vAll avs → oAll (argL avs)
  | [], _ => trivial
  | v :: l, h => by
    unfold argL
    by_cases ht : two (some v) = true
    · rw [if_pos ht]
      exact ⟨h.1, argL_all h.2⟩
    · rw [if_neg ht]
      exact ⟨h.1, argL_all h.2⟩
/-- what a caller needs to know of a method: y by name; static or not -/
def MFs (y : MethodName) (M' : MD) (k : Nat) : Prop := y.cls = M'.1 ∧ (plainName y.cls = true ∧ M'.2.2.2.2 = []) ∧ Cond.code y M'.2.1 M'.2.2.1 M'.2.2.2.1 ∈ gTbl ∧ Cond.initialized y.cls ∈ gTbl ∧ (y.cls ≠ "java/lang/invoke/MethodHandle" ∧ y.cls ≠ "java/lang/invoke/VarHandle" ∧ (parseMethodDescriptor y.desc).map (fun d => d.parameters.length) = some k) ∧ M'.2.2.1 ≤ 14 ∧ Cond.static y ∈ gTbl
def MFv (y : MethodName) (M' : MD) (k : Nat) : Prop := y.cls = M'.1 ∧ (plainName y.cls = true ∧ M'.2.2.2.2 = []) ∧ Cond.code y M'.2.1 M'.2.2.1 M'.2.2.2.1 ∈ gTbl ∧ Cond.initialized y.cls ∈ gTbl ∧ (y.cls ≠ "java/lang/invoke/MethodHandle" ∧ y.cls ≠ "java/lang/invoke/VarHandle" ∧ (parseMethodDescriptor y.desc).map (fun d => d.parameters.length) = some k) ∧ M'.2.2.1 ≤ 14 ∧ Cond.instanceMethod y ∈ gTbl ∧ Cond.selects y.cls y y ∈ gTbl
/-- ends by their kind -/
def kQ (f : Option PV → PM → Prop) : Ou → PM → Prop := fun o m => match o with
  | .inl v => f v m
  | .inr _ => False
def cI (f : Int32 → PM → Prop) : Ou → PM → Prop := fun o m => match o with
  | .inl (some (.inl x)) => f x m
  | _ => False
def cL (f : Int64 → PM → Prop) : Ou → PM → Prop := fun o m => match o with
  | .inl (some (.inr (.inl x))) => f x m
  | _ => False
def cD (f : UInt64 → PM → Prop) : Ou → PM → Prop := fun o m => match o with
  | .inl (some (.inr (.inr (.inl x)))) => f x m
  | _ => False
def cO (f : Nat → Nat → Nat → PM → Prop) : Ou → PM → Prop := fun o m => match o with
  | .inl (some (.inr (.inr (.inr z)))) => f z.1 z.2.1 z.2.2 m
  | _ => False
def cV (f : PM → Prop) : Ou → PM → Prop := fun o m => match o with
  | .inl none => f m
  | _ => False
def vOKo (v : Option PV) : Prop := match v with
  | some v => vOK v
  | none => True
def QcM (g : GG) (Qp : Ou → PM → Prop) : Array Value → State → Outcome → State → Prop := fun _ st o t => (∃ (v : Option PV) (m' : PM), o = .returned (v.map (pv g)) ∧ Qp (.inl v) m' ∧ vOKo v ∧ World g m' t.heap) ∧ va_F (gA g) st t
abbrev PcM (g : GG) (avs : List PV) (m : PM) : Array Value → State → Prop := va_Pc (avs.map (pv g)) (fun U => World g m U.heap ∧ Kn g U)
theorem PcM_blind (avs : List PV) (m : PM) : FrameBlind (PcM g avs m) := fun _ _ _ _ h => ⟨h.1, h.2.1, h.2.2.same rfl rfl⟩
abbrev rmD (d : Nat) : Room := { frames := d, cells := 0, slots := 0, locals := 33 * d }
theorem met_of {M' : MD} {y : MethodName} {avs : List PV} {m : PM} {Qp : Ou → PM → Prop} (hcls : y.cls = M'.1) (hp : plainName y.cls = true ∧ M'.2.2.2.2 = []) (hlen : (argL avs).length ≤ M'.2.2.1) (hall : vAll avs) (hx : ∀ E m', ¬ Qp (.inr E) m') (hw : Wp g d M' 0 (argL avs) [] m Qp) :
    Met (gl g) y (Cond.code y M'.2.1 M'.2.2.1 M'.2.2.2.1 :: gTbl) (rmD d) (PcM g avs m) (QcM g Qp) 0 0 (gA g) := by
  refine Met.ofW (cc := M'.2.1) (maxL := M'.2.2.1) (ret := M'.2.2.2.1) hp.1 rfl ?_
  intro p e s mm args below meth cd s₁ B hml hv
  obtain ⟨rfl, hW, hKn⟩ := hv
  have hts : ∀ w ∈ gTbl, w.before ((avs.map (pv g)).toArray) s = true := fun w h => atoms_spec (ws := Cond.code y M'.2.1 M'.2.2.1 M'.2.2.2.1 :: gTbl) B.pre w (List.mem_cons_of_mem _ h)
  have hown : s.vm.findClass y.cls = some mm.cls := findClass_of_methodNamed B.named
  rw [hcls] at hown
  have hlocks : meth.locks = false := B.notSynchronized
  have htab : cd.exceptionTable.toList = tableOf M'.2.2.2.2 := by
    obtain ⟨meth9, c9, h1, h2, -, -, -, -, h7, -⟩ := Cond.code_spec B.named (atoms_spec (ws := Cond.code y M'.2.1 M'.2.2.1 M'.2.2.2.1 :: gTbl) B.pre _ List.mem_cons_self)
    cases Option.some.inj (h1.symm.trans B.method)
    cases Option.some.inj (h2.symm.trans (Stand.of_body B).code)
    rw [Array.isEmpty_iff.mp h7, hp.2]
    rfl
  have hl := lv_entry (avs.map (pv g)) (n := M'.2.2.1) (by rw [argL_len]; exact hlen)
  rw [lg_entry_eq]
  generalize (lg_sl (avs.map (pv g)) ++ List.replicate (M'.2.2.1 - (lg_sl (avs.map (pv g))).length) Slot.unset).toArray = L at hl ⊢
  refine hw p e _ s mm _ below meth cd s.heap [] L _ ⟨B.exec, B.bytes, hml, hown, hts, hKn, B.returns, hlocks, htab⟩ (Nat.le_refl d) (Nat.le_refl _) ⟨Nat.zero_le _, Nat.zero_le _⟩ hW ⟨hl.1, hl.2.1, fun q hq => hl.2.2 q (argL_in avs 0 q hq)⟩ trivial (argL_all hall) va_S.rf ?_
  rintro o m' c' n' pc' L' st' H' locs' ⟨rfl, rfl, hQ⟩ hw' hsz hS' hE
  match o, hQ, hE with
  | .inr E, hQ, _ => exact absurd hQ (hx E m')
  | .inl none, hQ, hE =>
    obtain ⟨h1, rfl, h3⟩ := hE
    exact W.vret B.exec B.bytes (B.returns.trans h3) (fun t ht hW2 => ⟨⟨none, m', rfl, hQ, trivial, by rw [ht]; exact hw'⟩, hS'.F ht⟩) hS'.2.2 h1
  | .inl (some (.inl x)), hQ, hE =>
    obtain ⟨h1, rfl, rt, h3, h4⟩ := hE
    exact W.zret (v := x) B.exec B.bytes (B.returns.trans h3) h4 (fun t ht hW2 => ⟨⟨some (pI x), m', rfl, hQ, trivial, by rw [ht]; exact hw'⟩, hS'.F ht⟩) hS'.2.2 h1
  | .inl (some (.inr (.inl x))), hQ, hE =>
    obtain ⟨h1, rfl, h3⟩ := hE
    exact W.lret (v := x) B.exec B.bytes (B.returns.trans h3) (fun t ht hW2 => ⟨⟨some (pL x), m', rfl, hQ, trivial, by rw [ht]; exact hw'⟩, hS'.F ht⟩) hS'.2.2 h1
  | .inl (some (.inr (.inr (.inl x)))), hQ, hE =>
    obtain ⟨h1, rfl, h3⟩ := hE
    exact W.dret (v := x) B.exec B.bytes (B.returns.trans h3) (fun t ht hW2 => ⟨⟨some (pD x), m', rfl, hQ, trivial, by rw [ht]; exact hw'⟩, hS'.F ht⟩) hS'.2.2 h1
  | .inl (some (.inr (.inr (.inr z)))), hQ, hE =>
    obtain ⟨h1, rfl, ⟨nm, h3⟩, h4⟩ := hE
    exact W.aret (v := .ref (ga g z.1 z.2.1 z.2.2)) B.exec B.bytes (B.returns.trans h3) (Or.inl ⟨nm, rfl⟩) (Or.inr ⟨_, rfl⟩) (fun t ht hW2 => ⟨⟨some (.inr (.inr (.inr z))), m', rfl, hQ, h4, by rw [ht]; exact hw'⟩, hS'.F ht⟩) hS'.2.2 h1
/-- behind a call -/
theorem after_run {p : Program} {e : Env} {R : Room} {s : State} {mm : MethodId} {args : Array Value} {below : List Frame} {meth : Method} {cd : Code} {H : Heap} {locs : List Loc} {L : Array Slot} {QQ : State → Prop} {st0 rest : List Value} {Qp : Ou → PM → Prop} {a : Array Value}
    (hr : va_Run p (gl g) e R s mm args below meth cd H locs c n 0 0 (F0 mm pc L st0) rest (QcM g Qp a) (gA g)) (hS : va_S (gA g) s.heap H locs)
    (kk : ∀ (v : Option PV) (m' : PM) (H1 : Heap) (locs1 : List Loc), Qp (.inl v) m' → vOKo v → World g m' H1 → va_S (gA g) s.heap H1 locs1 → W p (gl g) e R s mm args below meth cd H1 locs1 c n QQ (F0 mm (pc + 3) L ((v.map (pv g)).toList ++ rest))) :
    W p (gl g) e R s mm args below meth cd H locs c n QQ (F0 mm pc L st0) := by
  intro T hT X
  obtain ⟨v, st₀, t, T', L9, h0, X', hL, e1, e2, ⟨⟨u, m', hv, hp, hok, hw⟩, hz, hk⟩, st⟩ := hr T hT X
  cases hv
  rw [h0] at hz hk
  obtain ⟨t2, a1, b1⟩ := kk u m' T'.heap (locs ++ L9) hp hok (by rw [e1]; exact hw) ⟨Nat.le_trans hS.1 (by rw [e1]; exact hz), fun q h1 h2 => by rw [e1, hk q (Nat.lt_of_lt_of_le h1 hS.1) h2]; exact hS.2.1 q h1 h2, fun q hq => by
      rcases List.mem_append.mp hq with h | h
      · exact hS.2.2 q h
      · exact hL q h⟩ T' rfl X'
  exact ⟨t2, st t2 a1, b1⟩
theorem vAll_app : ∀ {a b : List PV}, vAll (a ++ b) → vAll a ∧ vAll b
  | [], _, h => ⟨trivial, h⟩
  | _ :: _, _, h => ⟨⟨h.1, (vAll_app h.2).1⟩, (vAll_app h.2).2⟩
theorem vAll_mk : ∀ {a b : List PV}, vAll a → vAll b → vAll (a ++ b)
  | [], _, _, h => h
  | _ :: _, _, h1, h2 => ⟨h1.1, vAll_mk h1.2 h2⟩
theorem vAll_rev : ∀ {a : List PV}, vAll a → vAll a.reverse
  | [], _ => trivial
  | v :: l, h => by
    rw [List.reverse_cons]
    exact vAll_mk (vAll_rev h.2) ⟨h.1, trivial⟩
def catS (st : List PV) : Nat := (st.map (fun v => if two (some v) then 2 else 1)).sum
theorem catS_le {st : List PV} (h : catS st ≤ 8) : ((st.map (pv g)).map fun v => v.category).sum ≤ 8 := by
  have e : (st.map (pv g)).map (fun v => v.category) = st.map (fun v => if two (some v) then 2 else 1) := by
    rw [List.map_map]
    refine List.map_congr_left fun v _ => ?_
    rcases v with x | x | x | x <;> simp [pv, Value.category, two]
  rw [e]
  exact h
theorem vo_list {v : Option PV} : (v.map (pv g)).toList ++ st.map (pv g) = (v.toList ++ st).map (pv g) := by cases v <;> rfl
theorem vo_all {v : Option PV} (h : vOKo v) (h2 : vAll st) : vAll (v.toList ++ st) := by
  cases v with
  | none => exact h2
  | some v => exact ⟨h, h2⟩
/-- the class of an object's kind -/
def clN (t : Nat) : String := if t = 0 then RX1 else if t = 4 then RX3 else if t = 5 then RX0 else if t = 10 then RX4 else if t = 12 then RX2 else if t = 20 then RX5 else ""
theorem clN_ok {t : Nat} {C : String} (h : clN t = C) (hC : C ≠ "") : ∃ T N, vwCl[cix t]? = some (C, T, N) ∧ ark t = none ∧ t < 41 := by
  subst h
  by_cases h0 : t = 0; · subst h0; exact ⟨TX1, 10, rfl, rfl, by decide⟩
  by_cases h4 : t = 4; · subst h4; exact ⟨TX3, 9, rfl, rfl, by decide⟩
  by_cases h5 : t = 5; · subst h5; exact ⟨TX0, 3, rfl, rfl, by decide⟩
  by_cases h10 : t = 10; · subst h10; exact ⟨TX4, 5, rfl, rfl, by decide⟩
  by_cases h12 : t = 12; · subst h12; exact ⟨TX2, 7, rfl, rfl, by decide⟩
  by_cases h20 : t = 20; · subst h20; exact ⟨TX5, 16, rfl, rfl, by decide⟩
  exact absurd (by unfold clN; rw [if_neg h0, if_neg h4, if_neg h5, if_neg h10, if_neg h12, if_neg h20]) hC
/-- a call of a method of an object's own class, by its name -/
theorem Wq.callV {y : MethodName} {M' : MD} {idx t r j k : Nat} {As : List PV} {f : Option PV → PM → Prop} (hd : decode M.2.1 pc = .ok (.invokevirtual idx, 3)) (hM : MFv y M' k) (hl0 : Cond.methodLink M.1 idx y ∈ gTbl) (ht : clN t = y.cls) (hne : y.cls ≠ "") (hn : As.length = k) (hlen : (argL (pO t r j :: As)).length ≤ M'.2.2.1) (hrest : catS st ≤ 8)
    (q : Wp g d M' 0 (argL (pO t r j :: As)) [] m (kQ f)) (kk : ∀ v m', f v m' → Wq g (d + 1) M c n (pc + 3) ls (v.toList ++ st) m' Q) : Wq g (d + 1) M c n pc ls (As.reverse ++ pO t r j :: st) m Q := by
  intro p e R s mm args below meth cd H locs L QQ F hf hl hr hw hL hst hls hS hk
  obtain ⟨h1, h2, h3, h4, h5, h6, h7, h8⟩ := hM
  obtain ⟨hAr, hO⟩ := vAll_app hst
  have hAs : vAll As := by have := vAll_rev hAr; rwa [List.reverse_reverse] at this
  obtain ⟨T, N, hc, hark, h41⟩ := clN_ok ht hne
  obtain ⟨q0, hq⟩ := trip_ix (trip_of hO.1 h41)
  have he : (cells g m)[q0]? = some (ga g t r j, .inr (cix t, obv g m (t, r, j))) := by
    rw [cells_at hq]
    unfold cellE
    rw [show ark (t, r, j).1 = none from hark]
  have hG : GoodIn gTbl (wsV M.1 idx y.cls y (Cond.code y M'.2.1 M'.2.2.1 M'.2.2.2.1 :: gTbl)) := fun w hw => by
    have : w ∈ gTbl := by
      unfold wsV at hw
      simp only [List.cons_append, List.nil_append, List.mem_cons] at hw
      rcases hw with rfl | rfl | rfl | rfl | rfl | hw
      · exact hl0
      · exact h7
      · exact h8
      · exact h4
      · exact h3
      · exact hw
    exact gTbl_good w this
  have hMet : Met (gl g) y (Cond.code y M'.2.1 M'.2.2.1 M'.2.2.2.1 :: gTbl) (rmD d) (PcM g (pO t r j :: As) m) (QcM g (kQ f)) 0 0 (gA g) := met_of h1 h2 hlen ⟨hO.1, hAs⟩ (fun _ _ h => h) q
  have hcw := cwV (R := R) (s := s) (args := args) (mc := 0) (ms := 0) (rm := rmD d) k F.2.2.2.2.1 hG rfl rfl rfl ⟨rfl, h5⟩ ⟨hf, by show 8 + (M'.2.2.1 + 11) + 33 * d ≤ R.locals; omega⟩
  have hrun := va_runV (p := p) (l := gl g) (e := e) (below := below) (meth := meth) (H := H) (locs := locs) (cells := R.cells - c) (slots := R.slots - n) (g := F0 mm pc L ((As.reverse ++ pO t r j :: st).map (pv g))) (As := As.map (pv g)) (b := ga g t r j) (rest := st.map (pv g)) ⟨F.1, F.2.1, F.2.2.1, F.2.2.2.1, F.2.2.2.2.1⟩ hMet hcw
    ⟨PcM_blind _ _, ht ▸ va_recv F.2.2.2.2.2.1.2.1 hw (ht ▸ hc) he, fun U hU hW => ⟨rfl, by rw [hU]; exact hw, F.2.2.2.2.2.1.to hS hU hW⟩⟩ rfl (by rw [List.length_map]; exact hn) hL.1 (by simp [List.map_append, List.map_reverse, pv]) (lv_room (catS_le hrest)) hd ⟨Nat.sub_le _ _, Nat.sub_le _ _⟩
  refine after_run hrun hS (fun v m' H1 locs1 hQp hok hw1 hS1 => ?_)
  rw [vo_list]
  exact kk v m' hQp p e R s mm args below meth cd H1 locs1 L QQ F hf hl hr hw1 hL (vo_all hok hO.2) hls hS1 hk
/-- a static call -/
theorem Wq.callS {y : MethodName} {M' : MD} {idx k : Nat} {As : List PV} {f : Option PV → PM → Prop} (hd : decode M.2.1 pc = .ok (.invokestatic idx, 3)) (hM : MFs y M' k) (hl0 : Cond.methodLink M.1 idx y ∈ gTbl) (hn : As.length = k) (hlen : (argL As).length ≤ M'.2.2.1) (hrest : catS st ≤ 8)
    (q : Wp g d M' 0 (argL As) [] m (kQ f)) (kk : ∀ v m', f v m' → Wq g (d + 1) M c n (pc + 3) ls (v.toList ++ st) m' Q) : Wq g (d + 1) M c n pc ls (As.reverse ++ st) m Q := by
  intro p e R s mm args below meth cd H locs L QQ F hf hl hr hw hL hst hls hS hk
  obtain ⟨h1, h2, h3, h4, h5, h6, h7⟩ := hM
  obtain ⟨hAr, hO⟩ := vAll_app hst
  have hAs : vAll As := by have := vAll_rev hAr; rwa [List.reverse_reverse] at this
  have hG : GoodIn gTbl (va_wsS M.1 idx y (Cond.code y M'.2.1 M'.2.2.1 M'.2.2.2.1 :: gTbl)) := fun w hw => by
    have : w ∈ gTbl := by
      unfold va_wsS at hw
      simp only [List.cons_append, List.nil_append, List.mem_cons] at hw
      rcases hw with rfl | rfl | rfl | rfl | hw
      · exact hl0
      · exact h7
      · exact h4
      · exact h3
      · exact hw
    exact gTbl_good w this
  have hMet : Met (gl g) y (Cond.code y M'.2.1 M'.2.2.1 M'.2.2.2.1 :: gTbl) (rmD d) (PcM g As m) (QcM g (kQ f)) 0 0 (gA g) := met_of h1 h2 hlen hAs (fun _ _ h => h) q
  have hcw := va_cwS (R := R) (s := s) (args := args) (mc := 0) (ms := 0) (rm := rmD d) k F.2.2.2.2.1 hG rfl rfl rfl h5 ⟨hf, by show 8 + (M'.2.2.1 + 11) + 33 * d ≤ R.locals; omega⟩
  have hrun := va_runS (p := p) (l := gl g) (e := e) (below := below) (meth := meth) (H := H) (locs := locs) (cells := R.cells - c) (slots := R.slots - n) (g := F0 mm pc L ((As.reverse ++ st).map (pv g))) (As := As.map (pv g)) (rest := st.map (pv g)) ⟨F.1, F.2.1, F.2.2.1, F.2.2.2.1, F.2.2.2.2.1⟩ hMet hcw
    ⟨PcM_blind _ _, fun U hU hW => ⟨rfl, by rw [hU]; exact hw, F.2.2.2.2.2.1.to hS hU hW⟩⟩ rfl (by rw [List.length_map]; exact hn) hL.1 (by simp [List.map_append, List.map_reverse]) (lv_room (catS_le hrest)) hd ⟨Nat.sub_le _ _, Nat.sub_le _ _⟩
  refine after_run hrun hS (fun v m' H1 locs1 hQp hok hw1 hS1 => ?_)
  rw [vo_list]
  exact kk v m' hQp p e R s mm args below meth cd H1 locs1 L QQ F hf hl hr hw1 hL (vo_all hok hO) hls hS1 hk
/-- a static call of a nest mate's own method -/
theorem Wq.callN {y : MethodName} {M' : MD} {idx k : Nat} {As : List PV} {f : Option PV → PM → Prop} (hd : decode M.2.1 pc = .ok (.invokestatic idx, 3)) (hM : MFs y M' k) (hl0 : (M.1, idx, y) ∈ nestW) (hn : As.length = k) (hlen : (argL As).length ≤ M'.2.2.1) (hrest : catS st ≤ 8)
    (q : Wp g d M' 0 (argL As) [] m (kQ f)) (kk : ∀ v m', f v m' → Wq g (d + 1) M c n (pc + 3) ls (v.toList ++ st) m' Q) : Wq g (d + 1) M c n pc ls (As.reverse ++ st) m Q := by
  intro p e R s mm args below meth cd H locs L QQ F hf hl hr hw hL hst hls hS hk
  obtain ⟨h1, h2, h3, h4, h5, h6, h7⟩ := hM
  obtain ⟨hAr, hO⟩ := vAll_app hst
  have hAs : vAll As := by have := vAll_rev hAr; rwa [List.reverse_reverse] at this
  have hG : GoodIn gTbl (Cond.code y M'.2.1 M'.2.2.1 M'.2.2.2.1 :: gTbl) := fun w hw => by
    rcases List.mem_cons.mp hw with rfl | hw
    · exact gTbl_good _ h3
    · exact gTbl_good _ hw
  have hMet : Met (gl g) y (Cond.code y M'.2.1 M'.2.2.1 M'.2.2.2.1 :: gTbl) (rmD d) (PcM g As m) (QcM g (kQ f)) 0 0 (gA g) := met_of h1 h2 hlen hAs (fun _ _ h => h) q
  have hcw := va_cnB (R := R) (s := s) (args := args) (mc := 0) (ms := 0) (rm := rmD d) k F.2.2.2.2.1 hG rfl rfl rfl (F.2.2.2.2.2.1.2.2.1.2.2.2.2.2.2.2.1 _ hl0) (F.2.2.2.2.1 _ h4) h5 ⟨hf, by show 8 + (M'.2.2.1 + 11) + 33 * d ≤ R.locals; omega⟩
  have hrun := va_runSN (p := p) (l := gl g) (e := e) (below := below) (meth := meth) (H := H) (locs := locs) (cells := R.cells - c) (slots := R.slots - n) (g := F0 mm pc L ((As.reverse ++ st).map (pv g))) (As := As.map (pv g)) (rest := st.map (pv g)) ⟨F.1, F.2.1, F.2.2.1, F.2.2.2.1, F.2.2.2.2.1⟩ hMet ⟨hcw, F.2.2.2.2.1 _ h7, trivial⟩
    ⟨PcM_blind _ _, fun U hU hW => ⟨rfl, by rw [hU]; exact hw, F.2.2.2.2.2.1.to hS hU hW⟩⟩ rfl (by rw [List.length_map]; exact hn) hL.1 (by simp [List.map_append, List.map_reverse]) (lv_room (catS_le hrest)) hd ⟨Nat.sub_le _ _, Nat.sub_le _ _⟩
  refine after_run hrun hS (fun v m' H1 locs1 hQp hok hw1 hS1 => ?_)
  rw [vo_list]
  exact kk v m' hQp p e R s mm args below meth cd H1 locs1 L QQ F hf hl hr hw1 hL (vo_all hok hO) hls hS1 hk
end RC
end
section
/-! STATICS, ROWS THAT ARE ONLY READ, THE JDK'S ROWS, and calls by the kind of their answer -/
section RS
variable {g : GG} {d : Nat} {M : MD} {c n pc : Nat} {ls : List (Option PV)} {st : List PV} {m : PM} {Q : Ou → PM → Nat → Nat → Prop}
theorem rin (z : Nat × Nat × Nat) (h : z ∈ rtrip) : z ∈ trip ++ rtrip := List.mem_append_right _ h
theorem Wq.getsF {idx : Nat} (hd : decode M.2.1 pc = .ok (.getstatic idx, 3)) (hl0 : Cond.fieldLink M.1 idx "TestSlots" "FIRST_SETTINGS" "[I" ∈ gTbl) (q : Wq g d M c n (pc + 3) ls (pO 42 10 0 :: st) m Q) : Wq g d M c n pc ls st m Q := by
  intro p e R s mm args below meth cd H locs L QQ F hf hl hr hw hL hst hls hS hk
  refine va_gets F.1 F.2.1 F.2.2.2.2.2.1.2.2.1.2.1.2 hS F.2.2.2.1 (F.2.2.2.2.1 _ hl0) (fun _ h => h) hd ?_
  exact q p e R s mm args below meth cd H locs L QQ F hf hl hr hw hL ⟨rin _ (by decide), hst⟩ hls hS hk
theorem Wq.getsH {idx : Nat} (hd : decode M.2.1 pc = .ok (.getstatic idx, 3)) (hl0 : Cond.fieldLink M.1 idx "TestSlots" "HIGHEST_SETTINGS" "[I" ∈ gTbl) (q : Wq g d M c n (pc + 3) ls (pO 43 10 0 :: st) m Q) : Wq g d M c n pc ls st m Q := by
  intro p e R s mm args below meth cd H locs L QQ F hf hl hr hw hL hst hls hS hk
  refine va_gets F.1 F.2.1 F.2.2.2.2.2.1.2.2.1.2.2.1.2 hS F.2.2.2.1 (F.2.2.2.2.1 _ hl0) (fun _ h => h) hd ?_
  exact q p e R s mm args below meth cd H locs L QQ F hf hl hr hw hL ⟨rin _ (by decide), hst⟩ hls hS hk
theorem Wq.lenF (hd : decode M.2.1 pc = .ok (.arraylength, 1)) (q : Wq g d M c n (pc + 1) ls (pI 4 :: st) m Q) : Wq g d M c n pc ls (pO 42 10 0 :: st) m Q := by
  intro p e R s mm args below meth cd H locs L QQ F hf hl hr hw hL hst hls hS hk
  refine va_tlen (v := 4) F.1 F.2.1 F.2.2.2.2.2.1.2.2.1.2.1.1 hS rfl hd ?_
  exact q p e R s mm args below meth cd H locs L QQ F hf hl hr hw hL ⟨trivial, hst.2⟩ hls hS hk
theorem Wq.ialdH {i : Int32} (hd : decode M.2.1 pc = .ok (.iaload, 1)) (hi : vp_in i 4) (q : Wq g d M c n (pc + 1) ls (pI (([20, 1, 9, 999] : List Int32).getD (ix i) 0) :: st) m Q) : Wq g d M c n pc ls (pI i :: pO 43 10 0 :: st) m Q := by
  intro p e R s mm args below meth cd H locs L QQ F hf hl hr hw hL hst hls hS hk
  refine va_ti (v := .int (([20, 1, 9, 999] : List Int32).getD (ix i) 0)) F.1 F.2.1 F.2.2.2.2.2.1.2.2.1.2.2.1.1 hS hi rfl hd ?_
  exact q p e R s mm args below meth cd H locs L QQ F hf hl hr hw hL ⟨trivial, hst.2.2⟩ hls hS hk
theorem Wq.lenS (hd : decode M.2.1 pc = .ok (.arraylength, 1)) (q : Wq g d M c n (pc + 1) ls (pI (nI (gL g)) :: st) m Q) : Wq g d M c n pc ls (pO 41 10 0 :: st) m Q := by
  intro p e R s mm args below meth cd H locs L QQ F hf hl hr hw hL hst hls hS hk
  have hX := F.2.2.2.2.2.1.2.2.1.1
  refine va_slen F.1 F.2.1 hX.1 (Nat.lt_of_lt_of_le hX.2 F.2.2.2.2.2.1.1) (Nat.not_le.mpr hX.2) hS hd ?_
  exact q p e R s mm args below meth cd H locs L QQ F hf hl hr hw hL ⟨trivial, hst.2⟩ hls hS hk
theorem Wq.ialdS {i : Int32} (hd : decode M.2.1 pc = .ok (.iaload, 1)) (hi : vp_in i (gL g)) (q : Wq g d M c n (pc + 1) ls (pI (gx g (ix i)) :: st) m Q) : Wq g d M c n pc ls (pI i :: pO 41 10 0 :: st) m Q := by
  intro p e R s mm args below meth cd H locs L QQ F hf hl hr hw hL hst hls hS hk
  have hX := F.2.2.2.2.2.1.2.2.1.1
  refine va_sld F.1 F.2.1 hX.1 (Nat.lt_of_lt_of_le hX.2 F.2.2.2.2.2.1.1) (Nat.not_le.mpr hX.2) hS hi hd ?_
  exact q p e R s mm args below meth cd H locs L QQ F hf hl hr hw hL ⟨trivial, hst.2.2⟩ hls hS hk
/-- System.arraycopy of ints -/
theorem Wq.copy {idx t r j t' r' j' n0 n1 : Nat} {sp dp k : Int32} (hd : decode M.2.1 pc = .ok (.invokestatic idx, 3)) (hl0 : Cond.methodLink M.1 idx arraycopyName ∈ gTbl) (hw0 : Cond.native arraycopyName ∈ gTbl ∧ Cond.static arraycopyName ∈ gTbl ∧ Cond.initialized "java/lang/System" ∈ gTbl) (ha : ark t = some (0, n0)) (ha' : ark t' = some (0, n1)) (h1 : ¬ sp < 0) (h2 : ¬ dp < 0) (h3 : ¬ k < 0) (h4 : ix sp + ix k ≤ n0) (h5 : ix dp + ix k ≤ n1) (hrest : catS st ≤ 8)
    (q : Wq g (d + 1) M c n (pc + 3) ls st (setR m t' r' j' (va_cpy (m.1 r t j) (m.1 r' t' j') (ix sp) (ix dp) (ix k))) Q) : Wq g (d + 1) M c n pc ls (pI k :: pI dp :: pO t' r' j' :: pI sp :: pO t r j :: st) m Q := by
  intro p e R s mm args below meth cd H locs L QQ F hf hl hr hw hL hst hls hS hk
  obtain ⟨q0, -, hq⟩ := row_at (g := g) (m := m) ha (trip_of hst.2.2.2.2.1 (ark_lt ha))
  obtain ⟨q1, hq1, hq'⟩ := row_at (g := g) (m := m) ha' (trip_of hst.2.2.1 (ark_lt ha'))
  have hc8 := catS_le (g := g) hrest
  refine va_copyi (f := m.1 r t j) (g := m.1 r' t' j') F.1 F.2.1 (F.2.2.1.trans hL.1.symm) F.2.2.2.1 (F.2.2.2.2.1 _ hl0) (F.2.2.2.2.1 _ hw0.1) (F.2.2.2.2.1 _ hw0.2.1) (F.2.2.2.2.1 _ hw0.2.2) F.2.2.2.2.2.1.2.1 hw (F.2.2.2.2.2.1.2.2.2.1 m) hS q0 q1 0 0 hq hq' rfl rfl rfl h1 h2 h3 h4 h5 (fun _ _ => rfl) (Nat.le_trans (Nat.le_add_left 1 d) hf) (Nat.le_trans (Nat.add_le_add_right hc8 _) (Nat.le_trans (by decide : 8 + (nativeFrameWords "java/lang/System" "arraycopy" 5 + 11) ≤ 33) (Nat.le_trans (by omega : 33 ≤ 33 * (d + 1)) hl))) hd (fun H1 locs1 hP1 _ hS1 => ?_)
  have h11 : t' ≠ 11 := fun e => by subst e; exact absurd ha' (by simp [ark])
  have hw1 := World_set (g := g) (m := m) (m' := setR m t' r' j' (va_cpy (m.1 r t j) (m.1 r' t' j') (ix sp) (ix dp) (ix k))) (e := .inl (gc g 0, n1, .inl (va_cpy (m.1 r t j) (m.1 r' t' j') (ix sp) (ix dp) (ix k)))) hq1 hP1 (by rw [cellE_row ha']; show Sum.inl (_, _, Sum.inl ((setR m t' r' j' _).1 r' t' j')) = _; rw [setR_s]) (fun z' hz' hne => kept_setR (Or.inl h11) hz' hne)
  exact q p e R s mm args below meth cd H1 locs1 L QQ F hf hl hr hw1 hL hst.2.2.2.2.2 hls hS1 hk
/-- Math.min of ints -/
theorem Wq.mmin {idx : Nat} {x y : Int32} (hd : decode M.2.1 pc = .ok (.invokestatic idx, 3)) (hl0 : Cond.methodLink M.1 idx Lib.Math.min.name ∈ gTbl) (hw0 : Cond.static Lib.Math.min.name ∈ gTbl ∧ Cond.initialized "java/lang/Math" ∈ gTbl ∧ Cond.code Lib.Math.min.name Lib.Math.min.code 2 (some .int) ∈ gTbl) (hrest : catS st ≤ 8)
    (q : Wq g (d + 1) M c n (pc + 3) ls (pI (if y < x then y else x) :: st) m Q) : Wq g (d + 1) M c n pc ls (pI y :: pI x :: st) m Q := by
  intro p e R s mm args below meth cd H locs L QQ F hf hl hr hw hL hst hls hS hk
  have hc8 := catS_le (g := g) hrest
  refine va_mmin F.1 F.2.1 (F.2.2.1.trans hL.1.symm) F.2.2.2.1 (F.2.2.2.2.1 _ hl0) (F.2.2.2.2.1 _ hw0.1) (F.2.2.2.2.1 _ hw0.2.1) (F.2.2.2.2.1 _ hw0.2.2) (Nat.le_trans (Nat.le_add_left 1 d) hf) (by omega) (Nat.sub_le _ _) (Nat.sub_le _ _) hd ?_
  exact q p e R s mm args below meth cd H locs L QQ F hf hl hr hw hL ⟨trivial, hst.2.2⟩ hls hS hk
/-- calls by the kind of their answer -/
theorem kQ_of {Qp : Ou → PM → Prop} {f : Option PV → PM → Prop} {ls' : List (Option PV)} {M' : MD} {m0 : PM} (h : ∀ o m', Qp o m' → ∃ v, o = .inl v ∧ f v m') (q : Wp g d M' 0 ls' [] m0 Qp) : Wp g d M' 0 ls' [] m0 (kQ f) := q.mono (fun o m' c' n' hq => ⟨hq.1, hq.2.1, by obtain ⟨v, rfl, hv⟩ := h o m' hq.2.2; exact hv⟩)
theorem cI_of {f : Int32 → PM → Prop} : ∀ o m', cI f o m' → ∃ v, o = .inl v ∧ ∃ x, v = some (pI x) ∧ f x m'
  | .inl (some (.inl x)), _, h => ⟨_, rfl, x, rfl, h⟩
theorem cL_of {f : Int64 → PM → Prop} : ∀ o m', cL f o m' → ∃ v, o = .inl v ∧ ∃ x, v = some (pL x) ∧ f x m'
  | .inl (some (.inr (.inl x))), _, h => ⟨_, rfl, x, rfl, h⟩
theorem cD_of {f : UInt64 → PM → Prop} : ∀ o m', cD f o m' → ∃ v, o = .inl v ∧ ∃ x, v = some (pD x) ∧ f x m'
  | .inl (some (.inr (.inr (.inl x)))), _, h => ⟨_, rfl, x, rfl, h⟩
theorem cO_of {f : Nat → Nat → Nat → PM → Prop} : ∀ o m', cO f o m' → ∃ v, o = .inl v ∧ ∃ t r j, v = some (pO t r j) ∧ f t r j m'
  | .inl (some (.inr (.inr (.inr (t, r, j))))), _, h => ⟨_, rfl, t, r, j, rfl, h⟩
theorem cV_of {f : PM → Prop} : ∀ o m', cV f o m' → ∃ v, o = .inl v ∧ v = none ∧ f m'
  | .inl none, _, h => ⟨_, rfl, rfl, h⟩
theorem Wq.callVI {y : MethodName} {M' : MD} {idx t r j k : Nat} {As : List PV} {f : Int32 → PM → Prop} (hd : decode M.2.1 pc = .ok (.invokevirtual idx, 3)) (hM : MFv y M' k) (hl0 : Cond.methodLink M.1 idx y ∈ gTbl) (ht : clN t = y.cls) (hne : y.cls ≠ "") (hn : As.length = k) (hlen : (argL (pO t r j :: As)).length ≤ M'.2.2.1) (hrest : catS st ≤ 8) (q : Wp g d M' 0 (argL (pO t r j :: As)) [] m (cI f)) (kk : ∀ x m', f x m' → Wq g (d + 1) M c n (pc + 3) ls (pI x :: st) m' Q) : Wq g (d + 1) M c n pc ls (As.reverse ++ pO t r j :: st) m Q := Wq.callV (f := fun v m' => ∃ x, v = some (pI x) ∧ f x m') hd hM hl0 ht hne hn hlen hrest (kQ_of cI_of q) (fun v m' ⟨x, e, h⟩ => by subst e; exact kk x m' h)
theorem Wq.callVL {y : MethodName} {M' : MD} {idx t r j k : Nat} {As : List PV} {f : Int64 → PM → Prop} (hd : decode M.2.1 pc = .ok (.invokevirtual idx, 3)) (hM : MFv y M' k) (hl0 : Cond.methodLink M.1 idx y ∈ gTbl) (ht : clN t = y.cls) (hne : y.cls ≠ "") (hn : As.length = k) (hlen : (argL (pO t r j :: As)).length ≤ M'.2.2.1) (hrest : catS st ≤ 8) (q : Wp g d M' 0 (argL (pO t r j :: As)) [] m (cL f)) (kk : ∀ x m', f x m' → Wq g (d + 1) M c n (pc + 3) ls (pL x :: st) m' Q) : Wq g (d + 1) M c n pc ls (As.reverse ++ pO t r j :: st) m Q := Wq.callV (f := fun v m' => ∃ x, v = some (pL x) ∧ f x m') hd hM hl0 ht hne hn hlen hrest (kQ_of cL_of q) (fun v m' ⟨x, e, h⟩ => by subst e; exact kk x m' h)
theorem Wq.callVD {y : MethodName} {M' : MD} {idx t r j k : Nat} {As : List PV} {f : UInt64 → PM → Prop} (hd : decode M.2.1 pc = .ok (.invokevirtual idx, 3)) (hM : MFv y M' k) (hl0 : Cond.methodLink M.1 idx y ∈ gTbl) (ht : clN t = y.cls) (hne : y.cls ≠ "") (hn : As.length = k) (hlen : (argL (pO t r j :: As)).length ≤ M'.2.2.1) (hrest : catS st ≤ 8) (q : Wp g d M' 0 (argL (pO t r j :: As)) [] m (cD f)) (kk : ∀ x m', f x m' → Wq g (d + 1) M c n (pc + 3) ls (pD x :: st) m' Q) : Wq g (d + 1) M c n pc ls (As.reverse ++ pO t r j :: st) m Q := Wq.callV (f := fun v m' => ∃ x, v = some (pD x) ∧ f x m') hd hM hl0 ht hne hn hlen hrest (kQ_of cD_of q) (fun v m' ⟨x, e, h⟩ => by subst e; exact kk x m' h)
theorem Wq.callVV {y : MethodName} {M' : MD} {idx t r j k : Nat} {As : List PV} {f : PM → Prop} (hd : decode M.2.1 pc = .ok (.invokevirtual idx, 3)) (hM : MFv y M' k) (hl0 : Cond.methodLink M.1 idx y ∈ gTbl) (ht : clN t = y.cls) (hne : y.cls ≠ "") (hn : As.length = k) (hlen : (argL (pO t r j :: As)).length ≤ M'.2.2.1) (hrest : catS st ≤ 8) (q : Wp g d M' 0 (argL (pO t r j :: As)) [] m (cV f)) (kk : ∀ m', f m' → Wq g (d + 1) M c n (pc + 3) ls st m' Q) : Wq g (d + 1) M c n pc ls (As.reverse ++ pO t r j :: st) m Q := Wq.callV (f := fun v m' => v = none ∧ f m') hd hM hl0 ht hne hn hlen hrest (kQ_of cV_of q) (fun v m' ⟨e, h⟩ => by subst e; exact kk m' h)
theorem Wq.callVO {y : MethodName} {M' : MD} {idx t r j k : Nat} {As : List PV} {f : Nat → Nat → Nat → PM → Prop} (hd : decode M.2.1 pc = .ok (.invokevirtual idx, 3)) (hM : MFv y M' k) (hl0 : Cond.methodLink M.1 idx y ∈ gTbl) (ht : clN t = y.cls) (hne : y.cls ≠ "") (hn : As.length = k) (hlen : (argL (pO t r j :: As)).length ≤ M'.2.2.1) (hrest : catS st ≤ 8) (q : Wp g d M' 0 (argL (pO t r j :: As)) [] m (cO f)) (kk : ∀ t r j m', f t r j m' → Wq g (d + 1) M c n (pc + 3) ls (pO t r j :: st) m' Q) : Wq g (d + 1) M c n pc ls (As.reverse ++ pO t r j :: st) m Q := Wq.callV (f := fun v m' => ∃ t r j, v = some (pO t r j) ∧ f t r j m') hd hM hl0 ht hne hn hlen hrest (kQ_of cO_of q) (fun v m' ⟨t1, r1, j1, e, h⟩ => by subst e; exact kk t1 r1 j1 m' h)
theorem Wq.callSI {y : MethodName} {M' : MD} {idx k : Nat} {As : List PV} {f : Int32 → PM → Prop} (hd : decode M.2.1 pc = .ok (.invokestatic idx, 3)) (hM : MFs y M' k) (hl0 : Cond.methodLink M.1 idx y ∈ gTbl) (hn : As.length = k) (hlen : (argL As).length ≤ M'.2.2.1) (hrest : catS st ≤ 8) (q : Wp g d M' 0 (argL As) [] m (cI f)) (kk : ∀ x m', f x m' → Wq g (d + 1) M c n (pc + 3) ls (pI x :: st) m' Q) : Wq g (d + 1) M c n pc ls (As.reverse ++ st) m Q := Wq.callS (f := fun v m' => ∃ x, v = some (pI x) ∧ f x m') hd hM hl0 hn hlen hrest (kQ_of cI_of q) (fun v m' ⟨x, e, h⟩ => by subst e; exact kk x m' h)
theorem Wq.callSL {y : MethodName} {M' : MD} {idx k : Nat} {As : List PV} {f : Int64 → PM → Prop} (hd : decode M.2.1 pc = .ok (.invokestatic idx, 3)) (hM : MFs y M' k) (hl0 : Cond.methodLink M.1 idx y ∈ gTbl) (hn : As.length = k) (hlen : (argL As).length ≤ M'.2.2.1) (hrest : catS st ≤ 8) (q : Wp g d M' 0 (argL As) [] m (cL f)) (kk : ∀ x m', f x m' → Wq g (d + 1) M c n (pc + 3) ls (pL x :: st) m' Q) : Wq g (d + 1) M c n pc ls (As.reverse ++ st) m Q := Wq.callS (f := fun v m' => ∃ x, v = some (pL x) ∧ f x m') hd hM hl0 hn hlen hrest (kQ_of cL_of q) (fun v m' ⟨x, e, h⟩ => by subst e; exact kk x m' h)
theorem Wq.callSD {y : MethodName} {M' : MD} {idx k : Nat} {As : List PV} {f : UInt64 → PM → Prop} (hd : decode M.2.1 pc = .ok (.invokestatic idx, 3)) (hM : MFs y M' k) (hl0 : Cond.methodLink M.1 idx y ∈ gTbl) (hn : As.length = k) (hlen : (argL As).length ≤ M'.2.2.1) (hrest : catS st ≤ 8) (q : Wp g d M' 0 (argL As) [] m (cD f)) (kk : ∀ x m', f x m' → Wq g (d + 1) M c n (pc + 3) ls (pD x :: st) m' Q) : Wq g (d + 1) M c n pc ls (As.reverse ++ st) m Q := Wq.callS (f := fun v m' => ∃ x, v = some (pD x) ∧ f x m') hd hM hl0 hn hlen hrest (kQ_of cD_of q) (fun v m' ⟨x, e, h⟩ => by subst e; exact kk x m' h)
theorem Wq.callSV {y : MethodName} {M' : MD} {idx k : Nat} {As : List PV} {f : PM → Prop} (hd : decode M.2.1 pc = .ok (.invokestatic idx, 3)) (hM : MFs y M' k) (hl0 : Cond.methodLink M.1 idx y ∈ gTbl) (hn : As.length = k) (hlen : (argL As).length ≤ M'.2.2.1) (hrest : catS st ≤ 8) (q : Wp g d M' 0 (argL As) [] m (cV f)) (kk : ∀ m', f m' → Wq g (d + 1) M c n (pc + 3) ls st m' Q) : Wq g (d + 1) M c n pc ls (As.reverse ++ st) m Q := Wq.callS (f := fun v m' => v = none ∧ f m') hd hM hl0 hn hlen hrest (kQ_of cV_of q) (fun v m' ⟨e, h⟩ => by subst e; exact kk m' h)
theorem Wq.callSO {y : MethodName} {M' : MD} {idx k : Nat} {As : List PV} {f : Nat → Nat → Nat → PM → Prop} (hd : decode M.2.1 pc = .ok (.invokestatic idx, 3)) (hM : MFs y M' k) (hl0 : Cond.methodLink M.1 idx y ∈ gTbl) (hn : As.length = k) (hlen : (argL As).length ≤ M'.2.2.1) (hrest : catS st ≤ 8) (q : Wp g d M' 0 (argL As) [] m (cO f)) (kk : ∀ t r j m', f t r j m' → Wq g (d + 1) M c n (pc + 3) ls (pO t r j :: st) m' Q) : Wq g (d + 1) M c n pc ls (As.reverse ++ st) m Q := Wq.callS (f := fun v m' => ∃ t r j, v = some (pO t r j) ∧ f t r j m') hd hM hl0 hn hlen hrest (kQ_of cO_of q) (fun v m' ⟨t1, r1, j1, e, h⟩ => by subst e; exact kk t1 r1 j1 m' h)
theorem Wq.callNI {y : MethodName} {M' : MD} {idx k : Nat} {As : List PV} {f : Int32 → PM → Prop} (hd : decode M.2.1 pc = .ok (.invokestatic idx, 3)) (hM : MFs y M' k) (hl0 : (M.1, idx, y) ∈ nestW) (hn : As.length = k) (hlen : (argL As).length ≤ M'.2.2.1) (hrest : catS st ≤ 8) (q : Wp g d M' 0 (argL As) [] m (cI f)) (kk : ∀ x m', f x m' → Wq g (d + 1) M c n (pc + 3) ls (pI x :: st) m' Q) : Wq g (d + 1) M c n pc ls (As.reverse ++ st) m Q := Wq.callN (f := fun v m' => ∃ x, v = some (pI x) ∧ f x m') hd hM hl0 hn hlen hrest (kQ_of cI_of q) (fun v m' ⟨x, e, h⟩ => by subst e; exact kk x m' h)
theorem Wq.callNL {y : MethodName} {M' : MD} {idx k : Nat} {As : List PV} {f : Int64 → PM → Prop} (hd : decode M.2.1 pc = .ok (.invokestatic idx, 3)) (hM : MFs y M' k) (hl0 : (M.1, idx, y) ∈ nestW) (hn : As.length = k) (hlen : (argL As).length ≤ M'.2.2.1) (hrest : catS st ≤ 8) (q : Wp g d M' 0 (argL As) [] m (cL f)) (kk : ∀ x m', f x m' → Wq g (d + 1) M c n (pc + 3) ls (pL x :: st) m' Q) : Wq g (d + 1) M c n pc ls (As.reverse ++ st) m Q := Wq.callN (f := fun v m' => ∃ x, v = some (pL x) ∧ f x m') hd hM hl0 hn hlen hrest (kQ_of cL_of q) (fun v m' ⟨x, e, h⟩ => by subst e; exact kk x m' h)
theorem Wq.callND {y : MethodName} {M' : MD} {idx k : Nat} {As : List PV} {f : UInt64 → PM → Prop} (hd : decode M.2.1 pc = .ok (.invokestatic idx, 3)) (hM : MFs y M' k) (hl0 : (M.1, idx, y) ∈ nestW) (hn : As.length = k) (hlen : (argL As).length ≤ M'.2.2.1) (hrest : catS st ≤ 8) (q : Wp g d M' 0 (argL As) [] m (cD f)) (kk : ∀ x m', f x m' → Wq g (d + 1) M c n (pc + 3) ls (pD x :: st) m' Q) : Wq g (d + 1) M c n pc ls (As.reverse ++ st) m Q := Wq.callN (f := fun v m' => ∃ x, v = some (pD x) ∧ f x m') hd hM hl0 hn hlen hrest (kQ_of cD_of q) (fun v m' ⟨x, e, h⟩ => by subst e; exact kk x m' h)
theorem Wq.callNV {y : MethodName} {M' : MD} {idx k : Nat} {As : List PV} {f : PM → Prop} (hd : decode M.2.1 pc = .ok (.invokestatic idx, 3)) (hM : MFs y M' k) (hl0 : (M.1, idx, y) ∈ nestW) (hn : As.length = k) (hlen : (argL As).length ≤ M'.2.2.1) (hrest : catS st ≤ 8) (q : Wp g d M' 0 (argL As) [] m (cV f)) (kk : ∀ m', f m' → Wq g (d + 1) M c n (pc + 3) ls st m' Q) : Wq g (d + 1) M c n pc ls (As.reverse ++ st) m Q := Wq.callN (f := fun v m' => v = none ∧ f m') hd hM hl0 hn hlen hrest (kQ_of cV_of q) (fun v m' ⟨e, h⟩ => by subst e; exact kk m' h)
theorem Wq.callNO {y : MethodName} {M' : MD} {idx k : Nat} {As : List PV} {f : Nat → Nat → Nat → PM → Prop} (hd : decode M.2.1 pc = .ok (.invokestatic idx, 3)) (hM : MFs y M' k) (hl0 : (M.1, idx, y) ∈ nestW) (hn : As.length = k) (hlen : (argL As).length ≤ M'.2.2.1) (hrest : catS st ≤ 8) (q : Wp g d M' 0 (argL As) [] m (cO f)) (kk : ∀ t r j m', f t r j m' → Wq g (d + 1) M c n (pc + 3) ls (pO t r j :: st) m' Q) : Wq g (d + 1) M c n pc ls (As.reverse ++ st) m Q := Wq.callN (f := fun v m' => ∃ t r j, v = some (pO t r j) ∧ f t r j m') hd hM hl0 hn hlen hrest (kQ_of cO_of q) (fun v m' ⟨t1, r1, j1, e, h⟩ => by subst e; exact kk t1 r1 j1 m' h)
end RS
end
section
/-! TEXTS: String.checkIndex by hand (its third argument is a reference or null), the words of the orders -/
section TX
variable {g : GG} {d : Nat} {M : MD} {c n pc : Nat} {ls : List (Option PV)} {st : List PV} {m : PM} {Q : Ou → PM → Nat → Nat → Prop}
theorem met_pci {l : Launch} (i k : Int32) (v : Value) (hv : v = .null ∨ ∃ a, v = .ref a) (h1 : ¬ i < 0) (h2 : i < k) (hcode : Cond.code yJ3_checkIndex_8e157 cJ3_checkIndex_8e157 3 (some .int) ∈ gTbl) :
    Met l yJ3_checkIndex_8e157 (Cond.code yJ3_checkIndex_8e157 cJ3_checkIndex_8e157 3 (some .int) :: gTbl) (rmD 0) (va_Pc [.int i, .int k, v] (fun _ => True)) (va_Qi (fun (r : Int32) (_ : Unit) => True) (fun _ _ => True) (fun _ => False)) 0 0 (fun _ => False) := by
  refine Met.ofW (cc := cJ3_checkIndex_8e157) (maxL := 3) (ret := some .int) (by decide) rfl ?_
  intro p e s m args below meth c s₁ B hml hv2
  obtain ⟨rfl, -⟩ := hv2
  have hx := B.exec
  have hb := B.bytes
  have hr := B.returns
  have hlocks : meth.locks = false := B.notSynchronized
  have hc3 : v.category = 1 := by rcases hv with rfl | ⟨a, rfl⟩ <;> rfl
  have hsl : (lg_sl [.int i, .int k, v]).length = 3 := by rcases hv with rfl | ⟨a, rfl⟩ <;> rfl
  have hl := lv_entry [.int i, .int k, v] (n := 3) (Nat.le_of_eq hsl)
  rw [lg_entry_eq]
  generalize (lg_sl [.int i, .int k, v] ++ List.replicate (3 - (lg_sl [.int i, .int k, v]).length) Slot.unset).toArray = ls at hl ⊢
  have hl : lv_has ls 3 [(0, .int i), (1, .int k)] := ⟨hl.1, hl.2.1, fun q hq => hl.2.2 q (by
    rcases List.mem_cons.mp hq with h | h
    · rw [h]; exact List.mem_cons_self
    · rw [List.mem_singleton.mp h]
      show ((1 : Nat), Value.int k) ∈ (0, Value.int i) :: (1, Value.int k) :: _
      exact List.mem_cons_of_mem _ List.mem_cons_self)⟩
  refine lv_iload_n hx hb dJ3_checkIndex_8e157_0 rfl (lv_at hl 0 rfl) ?_
  refine lv_if_lt (tgt := 9) hx hb dJ3_checkIndex_8e157_1 (by decide) (fun q => absurd q h1) (fun _ => ?_)
  refine lv_iload_n hx hb dJ3_checkIndex_8e157_4 rfl (lv_at hl 0 rfl) ?_
  refine lv_iload_n hx hb dJ3_checkIndex_8e157_5 rfl (lv_at hl 1 rfl) ?_
  refine lv_icmp_lt (tgt := 16) hx hb dJ3_checkIndex_8e157_6 (by decide) (fun _ => ?_) (fun q => absurd h2 q)
  refine lv_iload_n hx hb dJ3_checkIndex_8e157_16 rfl (lv_at hl 0 rfl) ?_
  exact W.iret (v := i) hx hb hr (fun t ht hW => ⟨⟨i, (), rfl, trivial, trivial⟩, (va_S.rf (A := fun _ => False) (H0 := s.heap)).F ht⟩) (fun q hq => absurd hq List.not_mem_nil) dJ3_checkIndex_8e157_17
theorem met_ci (i k : Int32) (h1 : ¬ i < 0) (h2 : i < k) (hw0 : Cond.code yJ3_checkIndex_8e157 cJ3_checkIndex_8e157 3 (some .int) ∈ gTbl ∧ Cond.methodLink RJ0 1059 yJ3_checkIndex_8e157 ∈ gTbl ∧ Cond.static yJ3_checkIndex_8e157 ∈ gTbl ∧ Cond.initialized RJ3 ∈ gTbl ∧ Cond.fieldLink RJ0 1053 "jdk/internal/util/Preconditions" "SIOOBE_FORMATTER" "Ljava/util/function/BiFunction;" ∈ gTbl) :
    Met (gl g) yJ0_checkIndex_df160 (Cond.code yJ0_checkIndex_df160 cJ0_checkIndex_df160 2 none :: gTbl) (rmD 1) (va_Pc [.int i, .int k] (fun U => Kn g U)) (va_Qv (fun (_ : Unit) => True) (fun _ _ => True) (fun _ => False)) 0 0 (fun _ => False) := by
  refine Met.ofW (cc := cJ0_checkIndex_df160) (maxL := 2) (ret := none) (by decide) rfl ?_
  intro p e s m args below meth c s₁ B hml hv2
  obtain ⟨rfl, hKn⟩ := hv2
  have hx := B.exec
  have hb := B.bytes
  have hr := B.returns
  have hlocks : meth.locks = false := B.notSynchronized
  have hts : ∀ w ∈ gTbl, w.before (([.int i, .int k] : List Value).toArray) s = true := fun w h => atoms_spec (ws := Cond.code yJ0_checkIndex_df160 cJ0_checkIndex_df160 2 none :: gTbl) B.pre w (List.mem_cons_of_mem _ h)
  have hown : s.vm.findClass RJ0 = some m.cls := findClass_of_methodNamed B.named
  have hl := lv_entry [.int i, .int k] (n := 2) (Nat.le_of_ble_eq_true rfl)
  rw [lg_entry_eq]
  generalize (lg_sl [.int i, .int k] ++ List.replicate (2 - (lg_sl [.int i, .int k]).length) Slot.unset).toArray = ls at hl ⊢
  have hl : lv_has ls 2 [(0, .int i), (1, .int k)] := hl
  have hS : va_S (gA g) s.heap s.heap [] := va_S.rf
  refine lv_iload_n hx hb dJ0_checkIndex_df160_0 rfl (lv_at hl 0 rfl) ?_
  refine lv_iload_n hx hb dJ0_checkIndex_df160_1 rfl (lv_at hl 1 rfl) ?_
  have hZ := hKn.2.2.1.2.2.2.2.1.2.2
  have hZ2 : ∃ v : Value, (v = .null ∨ ∃ a, v = .ref a) ∧ va_Z "jdk/internal/util/Preconditions" "SIOOBE_FORMATTER" "Ljava/util/function/BiFunction;" v (gA g) s s.heap := by
    rcases hZ with h | ⟨a, h⟩
    · exact ⟨_, Or.inl rfl, h⟩
    · exact ⟨_, Or.inr ⟨a, rfl⟩, h⟩
  obtain ⟨v, hv, hZ2⟩ := hZ2
  have hc3 : v.category = 1 := by rcases hv with rfl | ⟨a, rfl⟩ <;> rfl
  refine va_gets hx hb hZ2 hS hown (hts _ hw0.2.2.2.2) (fun _ h => h) dJ0_checkIndex_df160_2 ?_
  have hG : GoodIn gTbl (va_wsS RJ0 1059 yJ3_checkIndex_8e157 (Cond.code yJ3_checkIndex_8e157 cJ3_checkIndex_8e157 3 (some .int) :: gTbl)) := fun w hw => by
    have : w ∈ gTbl := by
      unfold va_wsS at hw
      simp only [List.cons_append, List.nil_append, List.mem_cons] at hw
      rcases hw with rfl | rfl | rfl | rfl | hw
      · exact hw0.2.1
      · exact hw0.2.2.1
      · exact hw0.2.2.2.1
      · exact hw0.1
      · exact hw
    exact gTbl_good w this
  refine va_calli (va_runS (As := [.int i, .int k, v]) (rest := []) ⟨hx, hb, hml, hown, hts⟩ (met_pci i k v hv h1 h2 hw0.1) (va_cwS 3 hts hG rfl rfl rfl (by decide +kernel) ⟨Nat.le_refl 1, Nat.le_of_ble_eq_true rfl⟩) ⟨fun _ _ _ _ h => h, fun U hU hW => ⟨rfl, trivial⟩⟩ rfl rfl hl.1 rfl (lv_room (Nat.zero_le 8)) dJ0_checkIndex_df160_5 ⟨Nat.zero_le _, Nat.zero_le _⟩) (va_S.rf (A := fun _ => False)) (fun q _ h => h) (fun q h => h) (fun r u t H1 locs ht hvm hw hB hz1 hk1 hS1 => ?_)
  refine lv_pop hx hb dJ0_checkIndex_df160_8 rfl ?_
  exact W.vret hx hb hr (fun t ht hW => ⟨⟨(), rfl, trivial, trivial⟩, hS1.F ht⟩) hS1.2.2 dJ0_checkIndex_df160_9
theorem ci_words : Cond.code yJ3_checkIndex_8e157 cJ3_checkIndex_8e157 3 (some .int) ∈ gTbl ∧ Cond.methodLink RJ0 1059 yJ3_checkIndex_8e157 ∈ gTbl ∧ Cond.static yJ3_checkIndex_8e157 ∈ gTbl ∧ Cond.initialized RJ3 ∈ gTbl ∧ Cond.fieldLink RJ0 1053 "jdk/internal/util/Preconditions" "SIOOBE_FORMATTER" "Ljava/util/function/BiFunction;" ∈ gTbl := by decide +kernel
theorem ci_words2 : Cond.code yJ0_checkIndex_df160 cJ0_checkIndex_df160 2 none ∈ gTbl ∧ Cond.static yJ0_checkIndex_df160 ∈ gTbl ∧ Cond.initialized RJ0 ∈ gTbl := by decide +kernel
theorem Wq.checkIndex {idx : Nat} {i k : Int32} (hd : decode M.2.1 pc = .ok (.invokestatic idx, 3)) (hl0 : Cond.methodLink M.1 idx yJ0_checkIndex_df160 ∈ gTbl) (h1 : ¬ i < 0) (h2 : i < k) (hrest : catS st ≤ 8)
    (q : Wq g (d + 2) M c n (pc + 3) ls st m Q) : Wq g (d + 2) M c n pc ls (pI k :: pI i :: st) m Q := by
  intro p e R s mm args below meth cd H locs L QQ F hf hl hr hw hL hst hls hS hk
  have hG : GoodIn gTbl (va_wsS M.1 idx yJ0_checkIndex_df160 (Cond.code yJ0_checkIndex_df160 cJ0_checkIndex_df160 2 none :: gTbl)) := fun w hw => by
    have : w ∈ gTbl := by
      unfold va_wsS at hw
      simp only [List.cons_append, List.nil_append, List.mem_cons] at hw
      rcases hw with rfl | rfl | rfl | rfl | hw
      · exact hl0
      · exact ci_words2.2.1
      · exact ci_words2.2.2
      · exact ci_words2.1
      · exact hw
    exact gTbl_good w this
  have hcw := va_cwS (R := R) (s := s) (args := args) (mc := 0) (ms := 0) (rm := rmD 1) 2 F.2.2.2.2.1 hG rfl rfl rfl (by decide +kernel) ⟨by show 1 + 1 ≤ R.frames; omega, by show 8 + (2 + 11) + 33 * 1 ≤ R.locals; omega⟩
  refine va_callv (va_runS (As := [.int i, .int k]) (rest := st.map (pv g)) ⟨F.1, F.2.1, F.2.2.1, F.2.2.2.1, F.2.2.2.2.1⟩ (met_ci (g := g) i k h1 h2 ci_words) hcw ⟨fun _ _ _ _ h => ⟨h.1, h.2.same rfl rfl⟩, fun U hU hW => ⟨rfl, F.2.2.2.2.2.1.to hS hU hW⟩⟩ rfl rfl hL.1 rfl (lv_room (catS_le hrest)) hd ⟨Nat.sub_le _ _, Nat.sub_le _ _⟩) hS (fun q _ h => h.elim) (fun q h => h.elim) (fun u t H1 locs1 ht hvm hw1 hB hz1 hk1 hS1 => ?_)
  exact q p e R s mm args below meth cd H1 locs1 L QQ F hf hl hr (hw.kept (fun k q hq => hk1 q.1 ((hw k q hq).lt) (fun h => h))) hL hst.2.2 hls hS1 hk
/-- the words: objects 44, their bytes 45 -/
theorem wd_lt {t j : Nat} (ht : 44 ≤ t) (h : (t, 10, j) ∈ trip ++ rtrip) : j < 6 := by
  have h1 : ∀ z ∈ trip ++ rtrip, 44 ≤ z.1 → z.2.2 < 6 := by decide +kernel
  exact h1 _ h ht
theorem wd_in : ∀ j, j < 6 → (45, 10, j) ∈ trip ++ rtrip ∧ (44, 10, j) ∈ trip ++ rtrip := by decide +kernel
theorem Wq.strV {idx j : Nat} (hd : decode M.2.1 pc = .ok (.getfield idx, 3)) (hl0 : Cond.fieldLink M.1 idx "java/lang/String" "value" "[B" ∈ gTbl) (q : Wq g d M c n (pc + 3) ls (pO 45 10 j :: st) m Q) : Wq g d M c n pc ls (pO 44 10 j :: st) m Q := by
  intro p e R s mm args below meth cd H locs L QQ F hf hl hr hw hL hst hls hS hk
  have hj := wd_lt (Nat.le_refl 44) hst.1
  refine vk_getf F.1 F.2.1 ((F.2.2.2.2.2.1.2.2.1.2.2.2.2.1.1.1 j hj).2.2.1) hS F.2.2.2.1 (F.2.2.2.2.1 _ hl0) (fun _ h => h) hd ?_
  exact q p e R s mm args below meth cd H locs L QQ F hf hl hr hw hL ⟨(wd_in j hj).1, hst.2⟩ hls hS hk
theorem Wq.strC {idx j : Nat} (hd : decode M.2.1 pc = .ok (.getfield idx, 3)) (hl0 : Cond.fieldLink M.1 idx "java/lang/String" "coder" "B" ∈ gTbl) (q : Wq g d M c n (pc + 3) ls (pI 0 :: st) m Q) : Wq g d M c n pc ls (pO 44 10 j :: st) m Q := by
  intro p e R s mm args below meth cd H locs L QQ F hf hl hr hw hL hst hls hS hk
  have hj := wd_lt (Nat.le_refl 44) hst.1
  refine vk_getf F.1 F.2.1 ((F.2.2.2.2.2.1.2.2.1.2.2.2.2.1.1.1 j hj).2.1) hS F.2.2.2.1 (F.2.2.2.2.1 _ hl0) (fun _ h => h) hd ?_
  exact q p e R s mm args below meth cd H locs L QQ F hf hl hr hw hL ⟨trivial, hst.2⟩ hls hS hk
theorem Wq.getsC {idx : Nat} (hd : decode M.2.1 pc = .ok (.getstatic idx, 3)) (hl0 : Cond.fieldLink M.1 idx "java/lang/String" "COMPACT_STRINGS" "Z" ∈ gTbl) (q : Wq g d M c n (pc + 3) ls (pI 1 :: st) m Q) : Wq g d M c n pc ls st m Q := by
  intro p e R s mm args below meth cd H locs L QQ F hf hl hr hw hL hst hls hS hk
  refine va_gets F.1 F.2.1 F.2.2.2.2.2.1.2.2.1.2.2.2.2.1.2.1 hS F.2.2.2.1 (F.2.2.2.2.1 _ hl0) (fun _ h => h) hd ?_
  exact q p e R s mm args below meth cd H locs L QQ F hf hl hr hw hL ⟨trivial, hst⟩ hls hS hk
theorem Wq.lenB {j : Nat} (hd : decode M.2.1 pc = .ok (.arraylength, 1)) (q : Wq g d M c n (pc + 1) ls (pI (nI (wdL.getD j 0)) :: st) m Q) : Wq g d M c n pc ls (pO 45 10 j :: st) m Q := by
  intro p e R s mm args below meth cd H locs L QQ F hf hl hr hw hL hst hls hS hk
  have hj := wd_lt (by decide : 44 ≤ 45) hst.1
  refine va_tlen F.1 F.2.1 ((F.2.2.2.2.2.1.2.2.1.2.2.2.2.1.1.1 j hj).2.2.2) hS rfl hd ?_
  exact q p e R s mm args below meth cd H locs L QQ F hf hl hr hw hL ⟨trivial, hst.2⟩ hls hS hk
theorem Wq.baldB {j : Nat} {i : Int32} (hd : decode M.2.1 pc = .ok (.baload, 1)) (hi : vp_in i (wdL.getD j 0)) (q : Wq g d M c n (pc + 1) ls (pI ((wdB.getD j []).getD (ix i) 0) :: st) m Q) : Wq g d M c n pc ls (pI i :: pO 45 10 j :: st) m Q := by
  intro p e R s mm args below meth cd H locs L QQ F hf hl hr hw hL hst hls hS hk
  have hj := wd_lt (by decide : 44 ≤ 45) hst.2.1
  refine va_tb F.1 F.2.1 ((F.2.2.2.2.2.1.2.2.1.2.2.2.2.1.1.1 j hj).2.2.2) hS hi rfl hd ?_
  exact q p e R s mm args below meth cd H locs L QQ F hf hl hr hw hL ⟨trivial, hst.2.2⟩ hls hS hk
theorem Wq.ldcS {idx : Nat} (j : Nat) (hM : M.1 = "TestSlots$OrderText") (hd : decode M.2.1 pc = .ok (.ldc idx, 2)) (hj : j < 6) (he : wdI.getD j 0 = idx) (q : Wq g d M c n (pc + 2) ls (pO 44 10 j :: st) m Q) : Wq g d M c n pc ls st m Q := by
  intro p e R s mm args below meth cd H locs L QQ F hf hl hr hw hL hst hls hS hk
  refine va_ldcS (tx := wdT.getD j "") F.1 F.2.1 F.2.2.2.1 (by rw [hM, ← he]; exact F.2.2.2.2.2.1.2.2.1.2.2.2.2.2.1 j hj) hd ?_
  exact q p e R s mm args below meth cd H locs L QQ F hf hl hr hw hL ⟨(wd_in j hj).2, hst⟩ hls hS hk
/-- a String's own virtual methods -/
theorem Wq.callStr {y : MethodName} {M' : MD} {idx k j : Nat} {As : List PV} {f : Int32 → PM → Prop} (hd : decode M.2.1 pc = .ok (.invokevirtual idx, 3)) (hM : MFv y M' k) (hl0 : Cond.methodLink M.1 idx y ∈ gTbl) (ht : y.cls = "java/lang/String") (hn : As.length = k) (hlen : (argL (pO 44 10 j :: As)).length ≤ M'.2.2.1) (hrest : catS st ≤ 8)
    (q : Wp g d M' 0 (argL (pO 44 10 j :: As)) [] m (cI f)) (kk : ∀ x m', f x m' → Wq g (d + 1) M c n (pc + 3) ls (pI x :: st) m' Q) : Wq g (d + 1) M c n pc ls (As.reverse ++ pO 44 10 j :: st) m Q := by
  intro p e R s mm args below meth cd H locs L QQ F hf hl hr hw hL hst hls hS hk
  obtain ⟨h1, h2, h3, h4, h5, h6, h7, h8⟩ := hM
  obtain ⟨hAr, hO⟩ := vAll_app hst
  have hAs : vAll As := by have := vAll_rev hAr; rwa [List.reverse_reverse] at this
  have hj := wd_lt (Nat.le_refl 44) hO.1
  have hG : GoodIn gTbl (wsV M.1 idx y.cls y (Cond.code y M'.2.1 M'.2.2.1 M'.2.2.2.1 :: gTbl)) := fun w hw => by
    have : w ∈ gTbl := by
      unfold wsV at hw
      simp only [List.cons_append, List.nil_append, List.mem_cons] at hw
      rcases hw with rfl | rfl | rfl | rfl | rfl | hw
      · exact hl0
      · exact h7
      · exact h8
      · exact h4
      · exact h3
      · exact hw
    exact gTbl_good w this
  have hMet := met_of (Qp := kQ (fun v m' => ∃ x, v = some (pI x) ∧ f x m')) h1 h2 hlen ⟨hO.1, hAs⟩ (fun _ _ h => h) (kQ_of cI_of q)
  have hcw := cwV (R := R) (s := s) (args := args) (mc := 0) (ms := 0) (rm := rmD d) k F.2.2.2.2.1 hG rfl rfl rfl ⟨rfl, h5⟩ ⟨hf, by show 8 + (M'.2.2.1 + 11) + 33 * d ≤ R.locals; omega⟩
  have hrun := va_runV (p := p) (l := gl g) (e := e) (below := below) (meth := meth) (H := H) (locs := locs) (cells := R.cells - c) (slots := R.slots - n) (g := F0 mm pc L ((As.reverse ++ pO 44 10 j :: st).map (pv g))) (As := As.map (pv g)) (b := ga g 44 10 j) (rest := st.map (pv g)) ⟨F.1, F.2.1, F.2.2.1, F.2.2.2.1, F.2.2.2.2.1⟩ hMet hcw
    ⟨PcM_blind _ _, ht ▸ vk_recv F.2.2.2.2.2.1.2.2.1.2.2.2.2.1.1 hj hS, fun U hU hW => ⟨rfl, by rw [hU]; exact hw, F.2.2.2.2.2.1.to hS hU hW⟩⟩ rfl (by rw [List.length_map]; exact hn) hL.1 (by simp [List.map_append, List.map_reverse, pv]) (lv_room (catS_le hrest)) hd ⟨Nat.sub_le _ _, Nat.sub_le _ _⟩
  refine after_run hrun hS (fun v m' H1 locs1 hQp hok hw1 hS1 => ?_)
  obtain ⟨x, rfl, hfx⟩ := hQp
  exact kk x m' hfx p e R s mm args below meth cd H1 locs1 L QQ F hf hl hr hw1 hL ⟨trivial, hO.2⟩ hls hS1 hk
end TX
end
section
/-! EXCEPTIONS: methods of the class that may throw, and the law's own that catch -/
def eNm (E : Nat) : String := exN.getD (E - 1) ""
abbrev upN : List String := ["java/lang/RuntimeException", "java/lang/Exception"]
theorem at_g : ∀ z ∈ [(1, 37, 41), (2, 94, 98), (3, 63, 67)], ∀ w ∈ (vx_atS "TestSlots" z.2.2 (eNm z.1) upN).filter goodWord, w ∈ gTbl := by decide +kernel
theorem at_b : ∀ z ∈ [(1, 37, 41), (2, 94, 98), (3, 63, 67)], ∀ w ∈ (vx_atS "TestSlots" z.2.2 (eNm z.1) upN).filter (fun w => !goodWord w), w ∈ Cond.castable (eNm z.1) (eNm z.1) :: decW.map Cond.declares := by decide +kernel
theorem at_o : ∀ z ∈ [(1, 37, 41), (2, 94, 98), (3, 63, 67)], ∀ w ∈ Cond.classLink "TestSlots" z.2.1 (eNm z.1) :: Cond.initialized (eNm z.1) :: vx_atS "TestSlots" z.2.2 (eNm z.1) upN, vx_ot w = true := by decide +kernel
theorem at_k : ∀ z ∈ [(1, 37, 41), (2, 94, 98), (3, 63, 67)], Cond.classLink "TestSlots" z.2.1 (eNm z.1) ∈ gTbl ∧ Cond.initialized (eNm z.1) ∈ gTbl ∧ Bundle.fit (eNm z.1) = true ∧ eNm z.1 ∈ exN := by decide +kernel
theorem up_fit : ∀ n ∈ upN, Bundle.fit n = true := by decide +kernel
section VM
variable {g : GG} {d : Nat}
abbrev rmX (d : Nat) : Room := { frames := d, cells := 1, slots := 6, locals := 33 * d }
abbrev QcX (g : GG) (Qp : Ou → PM → Prop) : Array Value → State → Outcome → State → Prop := va_Qi (fun (r : Int32) (u : PM) => Qp (.inl (some (pI r))) u) (fun u t => World g u t.heap) (gA g)
abbrev XcX (g : GG) (Qp : Ou → PM → Prop) : String → State → State → Prop := vx_X (fun u : Nat × PM => Qp (.inr u.1) u.2) (fun E u t => eNm u.1 = E ∧ World g u.2 t.heap) (gA g)
theorem vmet_of {M' : MD} {y : MethodName} {avs : List PV} {m : PM} {Qp : Ou → PM → Prop} (hcls : y.cls = M'.1) (hp : plainName y.cls = true ∧ M'.2.2.2.2 = []) (hlen : (argL avs).length ≤ M'.2.2.1) (hall : vAll avs) (hQp : ∀ o m', Qp o m' → (∃ x, o = .inl (some (pI x))) ∨ ∃ E, o = .inr E) (hw : Wq g (d + 6) M' 1 6 0 (argL avs) [] m (fun o m' c n => c = 1 ∧ n = 6 ∧ Qp o m')) :
    vx_Met (gl g) y (Cond.code y M'.2.1 M'.2.2.1 M'.2.2.2.1 :: gTbl) (rmX (d + 6)) (PcM g avs m) (QcX g Qp) (XcX g Qp) 1 6 (gA g) := by
  refine vx_ofW (cc := M'.2.1) (maxL := M'.2.2.1) (ret := M'.2.2.2.1) hp.1 rfl ?_
  intro p e s mm args below meth cd s₁ B hml htab0 hv
  obtain ⟨rfl, hW, hKn⟩ := hv
  have hts : ∀ w ∈ gTbl, w.before ((avs.map (pv g)).toArray) s = true := fun w h => atoms_spec (ws := Cond.code y M'.2.1 M'.2.2.1 M'.2.2.2.1 :: gTbl) B.pre w (List.mem_cons_of_mem _ h)
  have hown : s.vm.findClass y.cls = some mm.cls := findClass_of_methodNamed B.named
  rw [hcls] at hown
  have hlocks : meth.locks = false := B.notSynchronized
  have htab : cd.exceptionTable.toList = tableOf M'.2.2.2.2 := by
    rw [hp.2]
    exact List.eq_nil_iff_forall_not_mem.mpr htab0
  have hl := lv_entry (avs.map (pv g)) (n := M'.2.2.1) (by rw [argL_len]; exact hlen)
  rw [lg_entry_eq]
  generalize (lg_sl (avs.map (pv g)) ++ List.replicate (M'.2.2.1 - (lg_sl (avs.map (pv g))).length) Slot.unset).toArray = L at hl ⊢
  refine hw p e _ s mm _ below meth cd s.heap [] L _ ⟨B.exec, B.bytes, hml, hown, hts, hKn, B.returns, hlocks, htab⟩ (Nat.le_refl (d + 6)) (Nat.le_refl _) ⟨Nat.le_refl 1, Nat.le_refl 6⟩ hW ⟨hl.1, hl.2.1, fun q hq => hl.2.2 q (argL_in avs 0 q hq)⟩ trivial (argL_all hall) va_S.rf ?_
  rintro o m' c' n' pc' L' st' H' locs' ⟨rfl, rfl, hQ⟩ hw' hsz hS' hE
  rcases hQp o m' hQ with ⟨x, rfl⟩ | ⟨E, rfl⟩
  · obtain ⟨h1, rfl, rt, h3, h4⟩ := hE
    refine W.widen (k := 1) (n := 6) (Nat.zero_le 1) (Nat.zero_le 6) ?_
    exact vx_ret (W.zret (v := x) B.exec B.bytes (B.returns.trans h3) h4 (fun t ht hW2 => ⟨⟨x, m', rfl, hQ, by show World g m' t.heap; rw [ht]; exact hw'⟩, hS'.F ht⟩) hS'.2.2 h1)
  · obtain ⟨ik, is, ic, tx, hT, d0, d3, d4, d6, d9, hs, hE, hsum⟩ := hE
    obtain ⟨sa, hstr⟩ := hKn.2.2.1.2.2.2.2.2.2.1 _ hs
    have ha := at_k _ hE
    have hown' := hown
    rw [hT] at hown'
    refine vx_throwS (A := gA g) (text := tx) (names := upN) (cls := eNm E) (own := "TestSlots") (sa := sa) B.exec B.bytes hKn.2.2.2.2 hown' ha.2.2.1 up_fit (hts _ ha.1) (hts _ ha.2.1) hstr
      (vx_hat (B := Cond.castable (eNm E) (eNm E) :: decW.map Cond.declares) (fun w h => hts _ (at_g _ hE w h)) (at_b _ hE) (fun w h => by
        rcases List.mem_cons.mp h with rfl | h
        · exact va_Nw.use rfl (hKn.2.2.1.2.2.2.2.2.2.2.2.2.1 _ ha.2.2.2)
        · obtain ⟨y9, hy9, rfl⟩ := List.mem_map.mp h
          exact va_Nw.use rfl (hKn.2.2.1.2.2.2.2.2.2.2.2.2.2 _ hy9))) (at_o _ hE) hKn.2.2.1.2.2.2.1.1 hKn.2.2.1.2.2.2.1.2 hS' (hsz.trans hml.symm) d0 d3 d4 d6 d9 (fun z hz => (htab0 z hz).elim) (by show 5 < d + 6; omega) (by show _ ≤ 33 * (d + 6); refine Nat.le_trans (Nat.add_le_add_right hsum _) (by show 8 + (13 * 3 + 43) ≤ 33 * (d + 6); omega)) (Nat.le_refl 1) (Nat.le_refl 6) hlocks
      (fun t hvm hz hk => ⟨(E, m'), hQ, ⟨rfl, hw'.kept (fun k q hq => hk q.1 ((hw' k q hq).lt))⟩, ?_⟩) hS'.2.2 (Nat.le_refl 1) (Nat.le_refl 6)
    exact ⟨Nat.le_trans hS'.1 hz, fun q h1 h2 => (hk q (Nat.lt_of_lt_of_le h1 hS'.1)).trans (hS'.2.1 q h1 h2)⟩
/-- a call of a method of TestSlots that may throw, in a method that catches: the exception is put away at once -/
theorem Wq.callX {M : MD} {c n pc : Nat} {ls : List (Option PV)} {st : List PV} {m : PM} {Q : Ou → PM → Nat → Nat → Prop} {y : MethodName} {M' : MD} {idx t r j k : Nat} {As : List PV} {Qp : Ou → PM → Prop} (hd : decode M.2.1 pc = .ok (.invokevirtual idx, 3)) (hM : MFv y M' k) (hl0 : Cond.methodLink M.1 idx y ∈ gTbl) (ht : clN t = y.cls) (hne : y.cls ≠ "") (hn : As.length = k) (hlen : (argL (pO t r j :: As)).length ≤ M'.2.2.1) (hrest : catS st ≤ 8)
    (hQp : ∀ o m', Qp o m' → (∃ x, o = .inl (some (pI x))) ∨ ∃ E, o = .inr E) (q : Wq g (d + 6) M' 1 6 0 (argL (pO t r j :: As)) [] m (fun o m' c n => c = 1 ∧ n = 6 ∧ Qp o m'))
    (kk : ∀ x m', Qp (.inl (some (pI x))) m' → Wq g (d + 7) M c n (pc + 3) ls (pI x :: st) m' Q)
    (kx : ∀ E m', Qp (.inr E) m' → ∃ (pre suf : List (Nat × Nat × Nat × Nat)) (x : Nat × Nat × Nat × Nat) (a len : Nat), M.2.2.2.2 = pre ++ x :: suf ∧ eNm E ∈ exN ∧ (∀ z ∈ pre, covers ⟨z.1, z.2.1, z.2.2.1, z.2.2.2⟩ pc = false ∨ (z.2.2.2 ≠ 0 ∧ ∃ nm, Cond.classLink M.1 z.2.2.2 nm ∈ gTbl ∧ (eNm E, nm) ∈ ncW)) ∧ covers ⟨x.1, x.2.1, x.2.2.1, x.2.2.2⟩ pc = true ∧ x.2.2.2 ≠ 0 ∧ Cond.classLink M.1 x.2.2.2 (eNm E) ∈ gTbl ∧ a < M.2.2.1 ∧ ((∃ a' : Fin 4, (a' : Nat) = a ∧ len = 1 ∧ decode M.2.1 x.2.2.1 = .ok (.astore_n a', 1)) ∨ (len = 2 ∧ decode M.2.1 x.2.2.1 = .ok (.astore a, 2))) ∧ Wq g (d + 7) M c n (x.2.2.1 + len) [] [] m' Q) :
    Wq g (d + 7) M (c + 1) (n + 6) pc ls (As.reverse ++ pO t r j :: st) m Q := by
  intro p e R s mm args below meth cd H locs L QQ F hf hl hr hw hL hst hls hS hk
  obtain ⟨h1, h2, h3, h4, h5, h6, h7, h8⟩ := hM
  obtain ⟨hAr, hO⟩ := vAll_app hst
  have hAs : vAll As := by have := vAll_rev hAr; rwa [List.reverse_reverse] at this
  obtain ⟨T, N, hc, hark, h41⟩ := clN_ok ht hne
  obtain ⟨q0, hq⟩ := trip_ix (trip_of hO.1 h41)
  have he : (cells g m)[q0]? = some (ga g t r j, .inr (cix t, obv g m (t, r, j))) := by
    rw [cells_at hq]
    unfold cellE
    rw [show ark (t, r, j).1 = none from hark]
  have hG : GoodIn gTbl (wsV M.1 idx y.cls y (Cond.code y M'.2.1 M'.2.2.1 M'.2.2.2.1 :: gTbl)) := fun w hw => by
    have : w ∈ gTbl := by
      unfold wsV at hw
      simp only [List.cons_append, List.nil_append, List.mem_cons] at hw
      rcases hw with rfl | rfl | rfl | rfl | rfl | hw
      · exact hl0
      · exact h7
      · exact h8
      · exact h4
      · exact h3
      · exact hw
    exact gTbl_good w this
  have hMet := vmet_of h1 h2 hlen (avs := pO t r j :: As) ⟨hO.1, hAs⟩ hQp q
  have hcw := cwV (R := R) (s := s) (args := args) (mc := 1) (ms := 6) (rm := rmX (d + 6)) k F.2.2.2.2.1 hG rfl rfl rfl ⟨rfl, h5⟩ ⟨hf, by show 8 + (M'.2.2.1 + 11) + 33 * (d + 6) ≤ R.locals; omega⟩
  have hrun := vx_runV (p := p) (l := gl g) (e := e) (below := below) (meth := meth) (H := H) (locs := locs) (cells := R.cells - (c + 1)) (slots := R.slots - (n + 6)) (g := F0 mm pc L ((As.reverse ++ pO t r j :: st).map (pv g))) (As := As.map (pv g)) (b := ga g t r j) (rest := st.map (pv g)) ⟨F.1, F.2.1, F.2.2.1, F.2.2.2.1, F.2.2.2.2.1⟩ hMet hcw
    ⟨PcM_blind _ _, ht ▸ va_recv F.2.2.2.2.2.1.2.1 hw (ht ▸ hc) he, fun U hU hW => ⟨rfl, by rw [hU]; exact hw, F.2.2.2.2.2.1.to hS hU hW⟩⟩ rfl (by rw [List.length_map]; exact hn) hL.1 (by simp [List.map_append, List.map_reverse, pv]) (lv_room (catS_le hrest)) hd ⟨by omega, by omega⟩
  have ec : R.cells - (c + 1) + 1 = R.cells - c := by omega
  have es : R.slots - (n + 6) + 6 = R.slots - n := by omega
  refine vx_calli hrun hS (fun q _ h => h) (fun q h => h) (fun q _ h => h) (fun E ce q9 u t2 H1 locs1 hH1 hvm hpu hB hz hkk hS1 hce hcv hcl => ?_) (fun x u t2 H1 locs1 hH1 hvm hpu hB hz hkk hS1 => ?_)
  · rw [ec, es]
    obtain ⟨hEn, hB⟩ := hB
    rw [hH1] at hB
    obtain ⟨pre, suf, x, a, len, g1, g2, g3, g4, g5, g6, g7, g8, g9⟩ := kx u.1 u.2 hpu
    have hsp : cd.exceptionTable.toList = tableOf pre ++ (⟨x.1, x.2.1, x.2.2.1, x.2.2.2⟩ : ExceptionTableEntry) :: tableOf suf := by
      rw [F.2.2.2.2.2.2.2.2, g1]
      simp [tableOf]
    rw [← hEn] at hcl
    refine vx_catch (E := eNm u.1) (name := eNm u.1) F.2.2.2.1 (tableOf pre) _ (tableOf suf) hsp (fun z hz => ?_) g4 g5 (F.2.2.2.2.1 _ g6) (va_Nw.use rfl (F.2.2.2.2.2.1.2.2.1.2.2.2.2.2.2.2.2.2.1 _ g2)) hce hcv hcl ?_
    · obtain ⟨z', hz', rfl⟩ := List.mem_map.mp hz
      rcases g3 z' hz' with h | ⟨ha, nm, hb, hcn⟩
      · exact Or.inl h
      · exact Or.inr ⟨ha, nm, F.2.2.2.2.1 _ hb, F.2.2.2.2.2.1.2.2.1.2.2.2.2.2.2.2.2.1 _ hcn⟩
    · rcases g8 with ⟨a', rfl, rfl, hda⟩ | ⟨rfl, hda⟩
      · refine lv_astore_n F.1 F.2.1 hda rfl hL g7 rfl (fun L2 hL2 => ?_)
        exact g9 p e R s mm args below meth cd H1 locs1 L2 QQ F hf hl ⟨by omega, by omega⟩ hB ⟨hL2.1, hL2.2.1, fun q hq => by cases hq⟩ trivial trivial hS1 hk
      · refine lv_astore F.1 F.2.1 hda hL g7 rfl (fun L2 hL2 => ?_)
        exact g9 p e R s mm args below meth cd H1 locs1 L2 QQ F hf hl ⟨by omega, by omega⟩ hB ⟨hL2.1, hL2.2.1, fun q hq => by cases hq⟩ trivial trivial hS1 hk
  · rw [ec, es]
    rw [hH1] at hB
    exact kk x u hpu p e R s mm args below meth cd H1 locs1 L QQ F hf hl ⟨by omega, by omega⟩ hB hL ⟨trivial, hO.2⟩ hls hS1 hk
/-- the law's own methods, which catch: they end with an int -/
def MFh (y : MethodName) (M' : MD) (k : Nat) : Prop := y.cls = M'.1 ∧ plainName y.cls = true ∧ Cond.codeWith y M'.2.1 M'.2.2.1 M'.2.2.2.1 M'.2.2.2.2 ∈ gTbl ∧ Cond.initialized y.cls ∈ gTbl ∧ (y.cls ≠ "java/lang/invoke/MethodHandle" ∧ y.cls ≠ "java/lang/invoke/VarHandle" ∧ (parseMethodDescriptor y.desc).map (fun d => d.parameters.length) = some k) ∧ M'.2.2.1 ≤ 14 ∧ Cond.static y ∈ gTbl
theorem hmet_of {M' : MD} {y : MethodName} {avs : List PV} {m : PM} {Qp : Ou → PM → Prop} (hcls : y.cls = M'.1) (hp : plainName y.cls = true) (hlen : (argL avs).length ≤ M'.2.2.1) (hall : vAll avs) (hc0 : Cond.codeWith y M'.2.1 M'.2.2.1 M'.2.2.2.1 M'.2.2.2.2 ∈ gTbl) (hQp : ∀ o m', Qp o m' → ∃ x, o = .inl (some (pI x))) (hw : Wq g d M' 1 6 0 (argL avs) [] m (fun o m' c n => c = 0 ∧ n = 0 ∧ Qp o m')) :
    vx_Met (gl g) y (Cond.codeWith y M'.2.1 M'.2.2.1 M'.2.2.2.1 M'.2.2.2.2 :: gTbl) (rmX d) (PcM g avs m) (QcX g Qp) (vx_X (fun _ : Unit => False) (fun _ _ _ => True) (gA g)) 1 6 (gA g) := by
  refine vx_ofWH (cc := M'.2.1) (maxL := M'.2.2.1) (ret := M'.2.2.2.1) (hh := M'.2.2.2.2) hp rfl ?_
  intro p e s mm args below meth cd s₁ B hml hv
  obtain ⟨rfl, hW, hKn⟩ := hv
  have hts : ∀ w ∈ gTbl, w.before ((avs.map (pv g)).toArray) s = true := fun w h => atoms_spec (ws := Cond.codeWith y M'.2.1 M'.2.2.1 M'.2.2.2.1 M'.2.2.2.2 :: gTbl) B.pre w (List.mem_cons_of_mem _ h)
  have hown : s.vm.findClass y.cls = some mm.cls := findClass_of_methodNamed B.named
  rw [hcls] at hown
  have hlocks : meth.locks = false := B.notSynchronized
  have htab : cd.exceptionTable.toList = tableOf M'.2.2.2.2 := vx_table (x := y) B (hts _ hc0)
  have hl := lv_entry (avs.map (pv g)) (n := M'.2.2.1) (by rw [argL_len]; exact hlen)
  rw [lg_entry_eq]
  generalize (lg_sl (avs.map (pv g)) ++ List.replicate (M'.2.2.1 - (lg_sl (avs.map (pv g))).length) Slot.unset).toArray = L at hl ⊢
  refine hw p e _ s mm _ below meth cd s.heap [] L _ ⟨B.exec, B.bytes, hml, hown, hts, hKn, B.returns, hlocks, htab⟩ (Nat.le_refl d) (Nat.le_refl _) ⟨Nat.le_refl 1, Nat.le_refl 6⟩ hW ⟨hl.1, hl.2.1, fun q hq => hl.2.2 q (argL_in avs 0 q hq)⟩ trivial (argL_all hall) va_S.rf ?_
  rintro o m' c' n' pc' L' st' H' locs' ⟨rfl, rfl, hQ⟩ hw' hsz hS' hE
  obtain ⟨x, rfl⟩ := hQp o m' hQ
  obtain ⟨h1, rfl, rt, h3, h4⟩ := hE
  exact vx_ret (W.zret (v := x) B.exec B.bytes (B.returns.trans h3) h4 (fun t ht hW2 => ⟨⟨x, m', rfl, hQ, by show World g m' t.heap; rw [ht]; exact hw'⟩, hS'.F ht⟩) hS'.2.2 h1)
theorem Wq.callH {M : MD} {c n pc : Nat} {ls : List (Option PV)} {st : List PV} {m : PM} {Q : Ou → PM → Nat → Nat → Prop} {y : MethodName} {M' : MD} {idx k : Nat} {As : List PV} {f : Int32 → PM → Prop} (hd : decode M.2.1 pc = .ok (.invokestatic idx, 3)) (hM : MFh y M' k) (hl0 : Cond.methodLink M.1 idx y ∈ gTbl) (hn : As.length = k) (hlen : (argL As).length ≤ M'.2.2.1) (hrest : catS st ≤ 8)
    (q : Wq g d M' 1 6 0 (argL As) [] m (fun o m' c n => c = 0 ∧ n = 0 ∧ cI f o m')) (kk : ∀ x m', f x m' → Wq g (d + 1) M c n (pc + 3) ls (pI x :: st) m' Q) : Wq g (d + 1) M (c + 1) (n + 6) pc ls (As.reverse ++ st) m Q := by
  intro p e R s mm args below meth cd H locs L QQ F hf hl hr hw hL hst hls hS hk
  obtain ⟨h1, h2, h3, h4, h5, h6, h7⟩ := hM
  obtain ⟨hAr, hO⟩ := vAll_app hst
  have hAs : vAll As := by have := vAll_rev hAr; rwa [List.reverse_reverse] at this
  have hG : GoodIn gTbl (va_wsS M.1 idx y (Cond.codeWith y M'.2.1 M'.2.2.1 M'.2.2.2.1 M'.2.2.2.2 :: gTbl)) := fun w hw => by
    have : w ∈ gTbl := by
      unfold va_wsS at hw
      simp only [List.cons_append, List.nil_append, List.mem_cons] at hw
      rcases hw with rfl | rfl | rfl | rfl | hw
      · exact hl0
      · exact h7
      · exact h4
      · exact h3
      · exact hw
    exact gTbl_good w this
  have hMet := hmet_of h1 h2 hlen (avs := As) hAs h3 (fun o m' h => by obtain ⟨v, rfl, x, rfl, _⟩ := cI_of o m' h; exact ⟨x, rfl⟩) q
  have hcw := vx_cwSW (R := R) (s := s) (args := args) (mc := 1) (ms := 6) (rm := rmX d) k F.2.2.2.2.1 hG rfl rfl rfl h5 ⟨hf, by show 8 + (M'.2.2.1 + 11) + 33 * d ≤ R.locals; omega⟩
  have hrun := vx_runSX (p := p) (l := gl g) (e := e) (below := below) (meth := meth) (H := H) (locs := locs) (cells := R.cells - (c + 1)) (slots := R.slots - (n + 6)) (g := F0 mm pc L ((As.reverse ++ st).map (pv g))) (As := As.map (pv g)) (rest := st.map (pv g)) ⟨F.1, F.2.1, F.2.2.1, F.2.2.2.1, F.2.2.2.2.1⟩ hMet hcw
    ⟨PcM_blind _ _, fun U hU hW => ⟨rfl, by rw [hU]; exact hw, F.2.2.2.2.2.1.to hS hU hW⟩⟩ rfl (by rw [List.length_map]; exact hn) hL.1 (by simp [List.map_append, List.map_reverse]) (lv_room (catS_le hrest)) hd ⟨by omega, by omega⟩
  have ec : R.cells - (c + 1) + 1 = R.cells - c := by omega
  have es : R.slots - (n + 6) + 6 = R.slots - n := by omega
  refine vx_calli hrun hS (fun q _ h => h) (fun q h => h) (fun q _ h => h) (fun E ce q9 u t2 H1 locs1 hH1 hvm hpu hB hz hkk hS1 hce hcv hcl => hpu.elim) (fun x u t2 H1 locs1 hH1 hvm hpu hB hz hkk hS1 => ?_)
  rw [ec, es]
  rw [hH1] at hB
  exact kk x u hpu p e R s mm args below meth cd H1 locs1 L QQ F hf hl ⟨by omega, by omega⟩ hB hL ⟨trivial, hO⟩ hls hS1 hk
end VM
end
