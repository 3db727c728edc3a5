section
-- ===== PART A: goes FIRST, ahead of the names: the tables' words, and 'selects' of the private methods out of them =====
/-- a private method of a class that the tables say can be made, by its rows of tables_1 -/
def lw_okq (q : MethodName × Nat) : Prop := (q.1.cls ≠ "java/lang/invoke/MethodHandle" ∧ q.1.cls ≠ "java/lang/invoke/VarHandle") ∧ Cond.instantiable q.1.cls q.2 ∈ tables_1 ∧ Cond.privateMethod q.1 ∈ tables_1 ∧ Cond.instanceMethod q.1 ∈ tables_1
theorem lw_p0 : lw_okq (⟨"BottleFour", "isOne", "(I)Z"⟩, 14) := ⟨⟨by decide +kernel, by decide +kernel⟩, List.mem_of_getElem? (i := 12) (by decide +kernel), List.mem_of_getElem? (i := 402) (by decide +kernel), List.mem_of_getElem? (i := 403) (by decide +kernel)⟩
theorem lw_p1 : lw_okq (⟨"BottleFour", "isWell", "(I)Z"⟩, 14) := ⟨⟨by decide +kernel, by decide +kernel⟩, List.mem_of_getElem? (i := 12) (by decide +kernel), List.mem_of_getElem? (i := 425) (by decide +kernel), List.mem_of_getElem? (i := 426) (by decide +kernel)⟩
theorem lw_p2 : lw_okq (⟨"BottleFour", "weightOf", "(I)J"⟩, 14) := ⟨⟨by decide +kernel, by decide +kernel⟩, List.mem_of_getElem? (i := 12) (by decide +kernel), List.mem_of_getElem? (i := 595) (by decide +kernel), List.mem_of_getElem? (i := 596) (by decide +kernel)⟩
theorem lw_p3 : lw_okq (⟨"BottleFour", "arrivingBy", "(II)I"⟩, 14) := ⟨⟨by decide +kernel, by decide +kernel⟩, List.mem_of_getElem? (i := 12) (by decide +kernel), List.mem_of_getElem? (i := 599) (by decide +kernel), List.mem_of_getElem? (i := 600) (by decide +kernel)⟩
theorem lw_p4 : lw_okq (⟨"BottleFour", "isAsSeen", "(I)Z"⟩, 14) := ⟨⟨by decide +kernel, by decide +kernel⟩, List.mem_of_getElem? (i := 12) (by decide +kernel), List.mem_of_getElem? (i := 632) (by decide +kernel), List.mem_of_getElem? (i := 633) (by decide +kernel)⟩
theorem lw_p5 : lw_okq (⟨"BottleFour", "lastHourSeen", "()I"⟩, 14) := ⟨⟨by decide +kernel, by decide +kernel⟩, List.mem_of_getElem? (i := 12) (by decide +kernel), List.mem_of_getElem? (i := 636) (by decide +kernel), List.mem_of_getElem? (i := 637) (by decide +kernel)⟩
theorem lw_p6 : lw_okq (⟨"BottleFour", "isAsSeenBehind", "(I)Z"⟩, 14) := ⟨⟨by decide +kernel, by decide +kernel⟩, List.mem_of_getElem? (i := 12) (by decide +kernel), List.mem_of_getElem? (i := 641) (by decide +kernel), List.mem_of_getElem? (i := 642) (by decide +kernel)⟩
theorem lw_p7 : lw_okq (⟨"BottleFourModel", "step", "()V"⟩, 36) := ⟨⟨by decide +kernel, by decide +kernel⟩, List.mem_of_getElem? (i := 722) (by decide +kernel), List.mem_of_getElem? (i := 853) (by decide +kernel), List.mem_of_getElem? (i := 854) (by decide +kernel)⟩
theorem lw_p8 : lw_okq (⟨"BottleFourModel", "byteAt", "(I)I"⟩, 36) := ⟨⟨by decide +kernel, by decide +kernel⟩, List.mem_of_getElem? (i := 722) (by decide +kernel), List.mem_of_getElem? (i := 857) (by decide +kernel), List.mem_of_getElem? (i := 858) (by decide +kernel)⟩
theorem lw_p9 : lw_okq (⟨"BottleFourModel", "fails", "(I)V"⟩, 36) := ⟨⟨by decide +kernel, by decide +kernel⟩, List.mem_of_getElem? (i := 722) (by decide +kernel), List.mem_of_getElem? (i := 865) (by decide +kernel), List.mem_of_getElem? (i := 866) (by decide +kernel)⟩
theorem lw_p10 : lw_okq (⟨"BottleFourModel", "readLine", "()V"⟩, 36) := ⟨⟨by decide +kernel, by decide +kernel⟩, List.mem_of_getElem? (i := 722) (by decide +kernel), List.mem_of_getElem? (i := 869) (by decide +kernel), List.mem_of_getElem? (i := 870) (by decide +kernel)⟩
theorem lw_p11 : lw_okq (⟨"BottleFourModel", "nameHere", "()I"⟩, 36) := ⟨⟨by decide +kernel, by decide +kernel⟩, List.mem_of_getElem? (i := 722) (by decide +kernel), List.mem_of_getElem? (i := 873) (by decide +kernel), List.mem_of_getElem? (i := 874) (by decide +kernel)⟩
theorem lw_p12 : lw_okq (⟨"BottleFourModel", "readOnce", "(I)V"⟩, 36) := ⟨⟨by decide +kernel, by decide +kernel⟩, List.mem_of_getElem? (i := 722) (by decide +kernel), List.mem_of_getElem? (i := 879) (by decide +kernel), List.mem_of_getElem? (i := 880) (by decide +kernel)⟩
theorem lw_p13 : lw_okq (⟨"BottleFourModel", "number", "(II)I"⟩, 36) := ⟨⟨by decide +kernel, by decide +kernel⟩, List.mem_of_getElem? (i := 722) (by decide +kernel), List.mem_of_getElem? (i := 883) (by decide +kernel), List.mem_of_getElem? (i := 884) (by decide +kernel)⟩
theorem lw_p14 : lw_okq (⟨"BottleFourModel", "named", "(II)I"⟩, 36) := ⟨⟨by decide +kernel, by decide +kernel⟩, List.mem_of_getElem? (i := 722) (by decide +kernel), List.mem_of_getElem? (i := 887) (by decide +kernel), List.mem_of_getElem? (i := 888) (by decide +kernel)⟩
theorem lw_p15 : lw_okq (⟨"BottleFourModel", "readMore", "(I)V"⟩, 36) := ⟨⟨by decide +kernel, by decide +kernel⟩, List.mem_of_getElem? (i := 722) (by decide +kernel), List.mem_of_getElem? (i := 891) (by decide +kernel), List.mem_of_getElem? (i := 892) (by decide +kernel)⟩
def lw_privs_1 : List (MethodName × Nat) := [(⟨"BottleFour", "isOne", "(I)Z"⟩, 14), (⟨"BottleFour", "isWell", "(I)Z"⟩, 14), (⟨"BottleFour", "weightOf", "(I)J"⟩, 14), (⟨"BottleFour", "arrivingBy", "(II)I"⟩, 14), (⟨"BottleFour", "isAsSeen", "(I)Z"⟩, 14), (⟨"BottleFour", "lastHourSeen", "()I"⟩, 14), (⟨"BottleFour", "isAsSeenBehind", "(I)Z"⟩, 14), (⟨"BottleFourModel", "step", "()V"⟩, 36), (⟨"BottleFourModel", "byteAt", "(I)I"⟩, 36), (⟨"BottleFourModel", "fails", "(I)V"⟩, 36), (⟨"BottleFourModel", "readLine", "()V"⟩, 36), (⟨"BottleFourModel", "nameHere", "()I"⟩, 36), (⟨"BottleFourModel", "readOnce", "(I)V"⟩, 36), (⟨"BottleFourModel", "number", "(II)I"⟩, 36), (⟨"BottleFourModel", "named", "(II)I"⟩, 36), (⟨"BottleFourModel", "readMore", "(I)V"⟩, 36)]
theorem lw_r1 : ∀ q ∈ lw_privs_1, lw_okq q := List.forall_mem_cons.mpr ⟨lw_p0, List.forall_mem_cons.mpr ⟨lw_p1, List.forall_mem_cons.mpr ⟨lw_p2, List.forall_mem_cons.mpr ⟨lw_p3, List.forall_mem_cons.mpr ⟨lw_p4, List.forall_mem_cons.mpr ⟨lw_p5, List.forall_mem_cons.mpr ⟨lw_p6, List.forall_mem_cons.mpr ⟨lw_p7, List.forall_mem_cons.mpr ⟨lw_p8, List.forall_mem_cons.mpr ⟨lw_p9, List.forall_mem_cons.mpr ⟨lw_p10, List.forall_mem_cons.mpr ⟨lw_p11, List.forall_mem_cons.mpr ⟨lw_p12, List.forall_mem_cons.mpr ⟨lw_p13, List.forall_mem_cons.mpr ⟨lw_p14, List.forall_mem_cons.mpr ⟨lw_p15, fun _ h => absurd h List.not_mem_nil⟩⟩⟩⟩⟩⟩⟩⟩⟩⟩⟩⟩⟩⟩⟩⟩
theorem lw_p16 : lw_okq (⟨"BottleFourModel", "hourOn", "(I)I"⟩, 36) := ⟨⟨by decide +kernel, by decide +kernel⟩, List.mem_of_getElem? (i := 722) (by decide +kernel), List.mem_of_getElem? (i := 904) (by decide +kernel), List.mem_of_getElem? (i := 905) (by decide +kernel)⟩
theorem lw_p17 : lw_okq (⟨"BottleFourModel", "isOne", "(I)Z"⟩, 36) := ⟨⟨by decide +kernel, by decide +kernel⟩, List.mem_of_getElem? (i := 722) (by decide +kernel), List.mem_of_getElem? (i := 912) (by decide +kernel), List.mem_of_getElem? (i := 913) (by decide +kernel)⟩
theorem lw_p18 : lw_okq (⟨"BottleFourModel", "isDown", "(II)Z"⟩, 36) := ⟨⟨by decide +kernel, by decide +kernel⟩, List.mem_of_getElem? (i := 722) (by decide +kernel), List.mem_of_getElem? (i := 916) (by decide +kernel), List.mem_of_getElem? (i := 917) (by decide +kernel)⟩
theorem lw_p19 : lw_okq (⟨"BottleFourModel", "wantOf", "(II)I"⟩, 36) := ⟨⟨by decide +kernel, by decide +kernel⟩, List.mem_of_getElem? (i := 722) (by decide +kernel), List.mem_of_getElem? (i := 920) (by decide +kernel), List.mem_of_getElem? (i := 921) (by decide +kernel)⟩
theorem lw_p20 : lw_okq (⟨"BottleFourModel", "pourer", "(I)I"⟩, 36) := ⟨⟨by decide +kernel, by decide +kernel⟩, List.mem_of_getElem? (i := 722) (by decide +kernel), List.mem_of_getElem? (i := 924) (by decide +kernel), List.mem_of_getElem? (i := 925) (by decide +kernel)⟩
theorem lw_p21 : lw_okq (⟨"BottleFourModel", "isWell", "(I)Z"⟩, 36) := ⟨⟨by decide +kernel, by decide +kernel⟩, List.mem_of_getElem? (i := 722) (by decide +kernel), List.mem_of_getElem? (i := 932) (by decide +kernel), List.mem_of_getElem? (i := 933) (by decide +kernel)⟩
theorem lw_p22 : lw_okq (⟨"BottleFourModel", "lossOf", "(IIZ)I"⟩, 36) := ⟨⟨by decide +kernel, by decide +kernel⟩, List.mem_of_getElem? (i := 722) (by decide +kernel), List.mem_of_getElem? (i := 944) (by decide +kernel), List.mem_of_getElem? (i := 945) (by decide +kernel)⟩
theorem lw_p23 : lw_okq (⟨"BottleFourModel", "isDay", "(I)Z"⟩, 36) := ⟨⟨by decide +kernel, by decide +kernel⟩, List.mem_of_getElem? (i := 722) (by decide +kernel), List.mem_of_getElem? (i := 948) (by decide +kernel), List.mem_of_getElem? (i := 949) (by decide +kernel)⟩
theorem lw_p24 : lw_okq (⟨"BottleFourModel", "sets", "(ZII)I"⟩, 36) := ⟨⟨by decide +kernel, by decide +kernel⟩, List.mem_of_getElem? (i := 722) (by decide +kernel), List.mem_of_getElem? (i := 959) (by decide +kernel), List.mem_of_getElem? (i := 960) (by decide +kernel)⟩
theorem lw_p25 : lw_okq (⟨"BottleFourModel", "drinks", "(II)I"⟩, 36) := ⟨⟨by decide +kernel, by decide +kernel⟩, List.mem_of_getElem? (i := 722) (by decide +kernel), List.mem_of_getElem? (i := 967) (by decide +kernel), List.mem_of_getElem? (i := 968) (by decide +kernel)⟩
theorem lw_p26 : lw_okq (⟨"BottleFourModel", "goesOn", "(III)V"⟩, 36) := ⟨⟨by decide +kernel, by decide +kernel⟩, List.mem_of_getElem? (i := 722) (by decide +kernel), List.mem_of_getElem? (i := 1003) (by decide +kernel), List.mem_of_getElem? (i := 1004) (by decide +kernel)⟩
theorem lw_p27 : lw_okq (⟨"BottleFourModel", "isWalking", "(II)Z"⟩, 36) := ⟨⟨by decide +kernel, by decide +kernel⟩, List.mem_of_getElem? (i := 722) (by decide +kernel), List.mem_of_getElem? (i := 1007) (by decide +kernel), List.mem_of_getElem? (i := 1008) (by decide +kernel)⟩
theorem lw_p28 : lw_okq (⟨"BottleFourModel", "anHour", "(IZ)V"⟩, 36) := ⟨⟨by decide +kernel, by decide +kernel⟩, List.mem_of_getElem? (i := 722) (by decide +kernel), List.mem_of_getElem? (i := 1011) (by decide +kernel), List.mem_of_getElem? (i := 1012) (by decide +kernel)⟩
theorem lw_p29 : lw_okq (⟨"BottleFourModel", "isOver", "(I)Z"⟩, 36) := ⟨⟨by decide +kernel, by decide +kernel⟩, List.mem_of_getElem? (i := 722) (by decide +kernel), List.mem_of_getElem? (i := 1015) (by decide +kernel), List.mem_of_getElem? (i := 1016) (by decide +kernel)⟩
theorem lw_p30 : lw_okq (⟨"BottleFourModel", "upOn", "(I)I"⟩, 36) := ⟨⟨by decide +kernel, by decide +kernel⟩, List.mem_of_getElem? (i := 722) (by decide +kernel), List.mem_of_getElem? (i := 1019) (by decide +kernel), List.mem_of_getElem? (i := 1020) (by decide +kernel)⟩
theorem lw_p31 : lw_okq (⟨"BottleFourModel", "fillsOn", "(II)V"⟩, 36) := ⟨⟨by decide +kernel, by decide +kernel⟩, List.mem_of_getElem? (i := 722) (by decide +kernel), List.mem_of_getElem? (i := 1023) (by decide +kernel), List.mem_of_getElem? (i := 1024) (by decide +kernel)⟩
def lw_privs_2 : List (MethodName × Nat) := [(⟨"BottleFourModel", "hourOn", "(I)I"⟩, 36), (⟨"BottleFourModel", "isOne", "(I)Z"⟩, 36), (⟨"BottleFourModel", "isDown", "(II)Z"⟩, 36), (⟨"BottleFourModel", "wantOf", "(II)I"⟩, 36), (⟨"BottleFourModel", "pourer", "(I)I"⟩, 36), (⟨"BottleFourModel", "isWell", "(I)Z"⟩, 36), (⟨"BottleFourModel", "lossOf", "(IIZ)I"⟩, 36), (⟨"BottleFourModel", "isDay", "(I)Z"⟩, 36), (⟨"BottleFourModel", "sets", "(ZII)I"⟩, 36), (⟨"BottleFourModel", "drinks", "(II)I"⟩, 36), (⟨"BottleFourModel", "goesOn", "(III)V"⟩, 36), (⟨"BottleFourModel", "isWalking", "(II)Z"⟩, 36), (⟨"BottleFourModel", "anHour", "(IZ)V"⟩, 36), (⟨"BottleFourModel", "isOver", "(I)Z"⟩, 36), (⟨"BottleFourModel", "upOn", "(I)I"⟩, 36), (⟨"BottleFourModel", "fillsOn", "(II)V"⟩, 36)]
theorem lw_r2 : ∀ q ∈ lw_privs_2, lw_okq q := List.forall_mem_cons.mpr ⟨lw_p16, List.forall_mem_cons.mpr ⟨lw_p17, List.forall_mem_cons.mpr ⟨lw_p18, List.forall_mem_cons.mpr ⟨lw_p19, List.forall_mem_cons.mpr ⟨lw_p20, List.forall_mem_cons.mpr ⟨lw_p21, List.forall_mem_cons.mpr ⟨lw_p22, List.forall_mem_cons.mpr ⟨lw_p23, List.forall_mem_cons.mpr ⟨lw_p24, List.forall_mem_cons.mpr ⟨lw_p25, List.forall_mem_cons.mpr ⟨lw_p26, List.forall_mem_cons.mpr ⟨lw_p27, List.forall_mem_cons.mpr ⟨lw_p28, List.forall_mem_cons.mpr ⟨lw_p29, List.forall_mem_cons.mpr ⟨lw_p30, List.forall_mem_cons.mpr ⟨lw_p31, fun _ h => absurd h List.not_mem_nil⟩⟩⟩⟩⟩⟩⟩⟩⟩⟩⟩⟩⟩⟩⟩⟩
theorem lw_p32 : lw_okq (⟨"BottleFourModel", "allDrink", "(I)V"⟩, 36) := ⟨⟨by decide +kernel, by decide +kernel⟩, List.mem_of_getElem? (i := 722) (by decide +kernel), List.mem_of_getElem? (i := 1027) (by decide +kernel), List.mem_of_getElem? (i := 1028) (by decide +kernel)⟩
theorem lw_p33 : lw_okq (⟨"BottleFourModel", "givesTo", "(II)I"⟩, 36) := ⟨⟨by decide +kernel, by decide +kernel⟩, List.mem_of_getElem? (i := 722) (by decide +kernel), List.mem_of_getElem? (i := 1031) (by decide +kernel), List.mem_of_getElem? (i := 1032) (by decide +kernel)⟩
theorem lw_p34 : lw_okq (⟨"BottleFourModel", "walksOn", "(I)V"⟩, 36) := ⟨⟨by decide +kernel, by decide +kernel⟩, List.mem_of_getElem? (i := 722) (by decide +kernel), List.mem_of_getElem? (i := 1035) (by decide +kernel), List.mem_of_getElem? (i := 1036) (by decide +kernel)⟩
theorem lw_p35 : lw_okq (⟨"BottleFourModel", "copies", "(II)V"⟩, 36) := ⟨⟨by decide +kernel, by decide +kernel⟩, List.mem_of_getElem? (i := 722) (by decide +kernel), List.mem_of_getElem? (i := 1044) (by decide +kernel), List.mem_of_getElem? (i := 1045) (by decide +kernel)⟩
theorem lw_p36 : lw_okq (⟨"BottleFourModel", "arriveFrom", "(II)I"⟩, 36) := ⟨⟨by decide +kernel, by decide +kernel⟩, List.mem_of_getElem? (i := 722) (by decide +kernel), List.mem_of_getElem? (i := 1056) (by decide +kernel), List.mem_of_getElem? (i := 1057) (by decide +kernel)⟩
theorem lw_p37 : lw_okq (⟨"BottleFourModel", "sumBy", "(II)J"⟩, 36) := ⟨⟨by decide +kernel, by decide +kernel⟩, List.mem_of_getElem? (i := 722) (by decide +kernel), List.mem_of_getElem? (i := 1085) (by decide +kernel), List.mem_of_getElem? (i := 1086) (by decide +kernel)⟩
theorem lw_p38 : lw_okq (⟨"BottleFourModel", "tens", "(I)J"⟩, 36) := ⟨⟨by decide +kernel, by decide +kernel⟩, List.mem_of_getElem? (i := 722) (by decide +kernel), List.mem_of_getElem? (i := 1089) (by decide +kernel), List.mem_of_getElem? (i := 1090) (by decide +kernel)⟩
theorem lw_p39 : lw_okq (⟨"BottleFourModel", "allKinds", "()I"⟩, 36) := ⟨⟨by decide +kernel, by decide +kernel⟩, List.mem_of_getElem? (i := 722) (by decide +kernel), List.mem_of_getElem? (i := 1117) (by decide +kernel), List.mem_of_getElem? (i := 1118) (by decide +kernel)⟩
theorem lw_p40 : lw_okq (⟨"BottleFourModel", "isAsSeen", "(I)Z"⟩, 36) := ⟨⟨by decide +kernel, by decide +kernel⟩, List.mem_of_getElem? (i := 722) (by decide +kernel), List.mem_of_getElem? (i := 1121) (by decide +kernel), List.mem_of_getElem? (i := 1122) (by decide +kernel)⟩
theorem lw_p41 : lw_okq (⟨"BottleFourModel", "kindOf", "(II)I"⟩, 36) := ⟨⟨by decide +kernel, by decide +kernel⟩, List.mem_of_getElem? (i := 722) (by decide +kernel), List.mem_of_getElem? (i := 1125) (by decide +kernel), List.mem_of_getElem? (i := 1126) (by decide +kernel)⟩
def lw_privs_3 : List (MethodName × Nat) := [(⟨"BottleFourModel", "allDrink", "(I)V"⟩, 36), (⟨"BottleFourModel", "givesTo", "(II)I"⟩, 36), (⟨"BottleFourModel", "walksOn", "(I)V"⟩, 36), (⟨"BottleFourModel", "copies", "(II)V"⟩, 36), (⟨"BottleFourModel", "arriveFrom", "(II)I"⟩, 36), (⟨"BottleFourModel", "sumBy", "(II)J"⟩, 36), (⟨"BottleFourModel", "tens", "(I)J"⟩, 36), (⟨"BottleFourModel", "allKinds", "()I"⟩, 36), (⟨"BottleFourModel", "isAsSeen", "(I)Z"⟩, 36), (⟨"BottleFourModel", "kindOf", "(II)I"⟩, 36)]
theorem lw_r3 : ∀ q ∈ lw_privs_3, lw_okq q := List.forall_mem_cons.mpr ⟨lw_p32, List.forall_mem_cons.mpr ⟨lw_p33, List.forall_mem_cons.mpr ⟨lw_p34, List.forall_mem_cons.mpr ⟨lw_p35, List.forall_mem_cons.mpr ⟨lw_p36, List.forall_mem_cons.mpr ⟨lw_p37, List.forall_mem_cons.mpr ⟨lw_p38, List.forall_mem_cons.mpr ⟨lw_p39, List.forall_mem_cons.mpr ⟨lw_p40, List.forall_mem_cons.mpr ⟨lw_p41, fun _ h => absurd h List.not_mem_nil⟩⟩⟩⟩⟩⟩⟩⟩⟩⟩
def lw_privs : List (MethodName × Nat) := lw_privs_1 ++ (lw_privs_2 ++ (lw_privs_3))
def lw_tbl : List Cond := k2_sels lw_privs ++ tables_1
theorem lw_privs_ok : ∀ q ∈ lw_privs, lw_okq q := by
  show ∀ q ∈ lw_privs_1 ++ (lw_privs_2 ++ (lw_privs_3)), lw_okq q
  exact List.forall_mem_append.mpr ⟨lw_r1, List.forall_mem_append.mpr ⟨lw_r2, lw_r3⟩⟩
end
section
def RX0 : String := "BottleFour$Camp"
def TX0 : u_T := fun k => match k with
  | 0 => ("BottleFour$Camp", "people", "I", false)
  | 1 => ("BottleFour$Camp", "kind", "[I", true)
  | 2 => ("BottleFour$Camp", "size", "[I", true)
  | 3 => ("BottleFour$Camp", "level", "[I", true)
  | 4 => ("BottleFour$Camp", "wells", "I", false)
  | 5 => ("BottleFour$Camp", "wellMile", "[I", true)
  | 6 => ("BottleFour$Camp", "wellOdds", "[I", true)
  | 7 => ("BottleFour$Camp", "wellCaps", "[I", true)
  | 8 => ("BottleFour$Camp", "wellWet", "[Z", true)
  | 9 => ("BottleFour$Camp", "bottle", "I", false)
  | 10 => ("BottleFour$Camp", "goal", "I", false)
  | 11 => ("BottleFour$Camp", "mile", "I", false)
  | 12 => ("BottleFour$Camp", "hour", "I", false)
  | 13 => ("BottleFour$Camp", "plan", "I", false)
  | 14 => ("BottleFour$Camp", "cloths", "I", false)
  | _ => ("BottleFour$Camp", "found", "I", false)
def tyX0 : Nat → FieldType := fun k => match k with
  | 0 => .int
  | 1 => .array .int
  | 2 => .array .int
  | 3 => .array .int
  | 4 => .int
  | 5 => .array .int
  | 6 => .array .int
  | 7 => .array .int
  | 8 => .array .boolean
  | 9 => .int
  | 10 => .int
  | 11 => .int
  | 12 => .int
  | 13 => .int
  | 14 => .int
  | _ => .int
abbrev wsX00 : List Cond := u_ws RX0 TX0 16
theorem nmX0 : ∀ a, a < 16 → ∀ b, b < 16 → a ≠ b → (TX0 a).2.1 ≠ (TX0 b).2.1 := by decide +kernel
theorem tyX0_ok : ∀ k, k < 16 → parseFieldDescriptor (TX0 k).2.2.1 = some (tyX0 k) := by decide +kernel
abbrev cX0_init : ByteArray := prog_2_method_1_code
def yX0_init : MethodName := ⟨RX0, "<init>", "()V"⟩
abbrev cX0_clear : ByteArray := prog_2_method_2_code
def yX0_clear : MethodName := ⟨RX0, "clear", "()V"⟩
abbrev cX0_copyFrom : ByteArray := prog_2_method_3_code
def yX0_copyFrom : MethodName := ⟨RX0, "copyFrom", "(LBottleFour$Camp;)V"⟩
abbrev cX0_leaveOnly : ByteArray := prog_2_method_4_code
def yX0_leaveOnly : MethodName := ⟨RX0, "leaveOnly", "(I)V"⟩
abbrev cX0_isDown : ByteArray := prog_2_method_5_code
def yX0_isDown : MethodName := ⟨RX0, "isDown", "(I)Z"⟩
abbrev cX0_standing : ByteArray := prog_2_method_6_code
def yX0_standing : MethodName := ⟨RX0, "standing", "()I"⟩
abbrev cX0_allLevels : ByteArray := prog_2_method_7_code
def yX0_allLevels : MethodName := ⟨RX0, "allLevels", "()I"⟩
abbrev cX0_wetWells : ByteArray := prog_2_method_8_code
def yX0_wetWells : MethodName := ⟨RX0, "wetWells", "()I"⟩
abbrev cX0_isAtGoal : ByteArray := prog_2_method_9_code
def yX0_isAtGoal : MethodName := ⟨RX0, "isAtGoal", "()Z"⟩
abbrev cX0_isDay : ByteArray := prog_2_method_10_code
def yX0_isDay : MethodName := ⟨RX0, "isDay", "()Z"⟩
abbrev cX0_pourer : ByteArray := prog_2_method_11_code
def yX0_pourer : MethodName := ⟨RX0, "pourer", "()I"⟩
abbrev cX0_wanted : ByteArray := prog_2_method_12_code
def yX0_wanted : MethodName := ⟨RX0, "wanted", "(I)I"⟩
abbrev cX0_drinkerFor : ByteArray := prog_2_method_13_code
def yX0_drinkerFor : MethodName := ⟨RX0, "drinkerFor", "(I)I"⟩
abbrev cX0_loss : ByteArray := prog_2_method_14_code
def yX0_loss : MethodName := ⟨RX0, "loss", "(IZ)I"⟩
abbrev cX0_drinkAsAsked : ByteArray := prog_2_method_15_code
def yX0_drinkAsAsked : MethodName := ⟨RX0, "drinkAsAsked", "(II)I"⟩
abbrev cX0_walksBy : ByteArray := prog_2_method_16_code
def yX0_walksBy : MethodName := ⟨RX0, "walksBy", "(I)Z"⟩
abbrev cX0_passHours : ByteArray := prog_2_method_17_code
def yX0_passHours : MethodName := ⟨RX0, "passHours", "(II)V"⟩
abbrev cX0_passHour : ByteArray := prog_2_method_18_code
def yX0_passHour : MethodName := ⟨RX0, "passHour", "(Z)V"⟩
abbrev cX0_pourIn : ByteArray := prog_2_method_19_code
def yX0_pourIn : MethodName := ⟨RX0, "pourIn", "(I)V"⟩
abbrev cX0_drinkRound : ByteArray := prog_2_method_20_code
def yX0_drinkRound : MethodName := ⟨RX0, "drinkRound", "()V"⟩
abbrev cX0_loseWater : ByteArray := prog_2_method_21_code
def yX0_loseWater : MethodName := ⟨RX0, "loseWater", "(Z)V"⟩
abbrev cX0_walkOn : ByteArray := prog_2_method_22_code
def yX0_walkOn : MethodName := ⟨RX0, "walkOn", "()V"⟩
abbrev cX0_isSomeoneWeak : ByteArray := prog_2_method_23_code
def yX0_isSomeoneWeak : MethodName := ⟨RX0, "isSomeoneWeak", "()Z"⟩
abbrev cX0_hoursToGoal : ByteArray := prog_2_method_24_code
def yX0_hoursToGoal : MethodName := ⟨RX0, "hoursToGoal", "(I)I"⟩
abbrev cX0_arrived : ByteArray := prog_2_method_25_code
def yX0_arrived : MethodName := ⟨RX0, "arrived", "()I"⟩
def RX1 : String := "BottleFour$Sheet"
def TX1 : u_T := fun k => match k with
  | 0 => ("BottleFour$Sheet", "cells", "[I", true)
  | 1 => ("BottleFour$Sheet", "lane", "I", false)
  | _ => ("BottleFour$Sheet", "length", "I", false)
def tyX1 : Nat → FieldType := fun k => match k with
  | 0 => .array .int
  | 1 => .int
  | _ => .int
abbrev wsX10 : List Cond := u_ws RX1 TX1 3
theorem nmX1 : ∀ a, a < 3 → ∀ b, b < 3 → a ≠ b → (TX1 a).2.1 ≠ (TX1 b).2.1 := by decide +kernel
theorem tyX1_ok : ∀ k, k < 3 → parseFieldDescriptor (TX1 k).2.2.1 = some (tyX1 k) := by decide +kernel
abbrev cX1_init : ByteArray := prog_3_method_1_code
def yX1_init : MethodName := ⟨RX1, "<init>", "()V"⟩
abbrev cX1_isNothing : ByteArray := prog_3_method_2_code
def yX1_isNothing : MethodName := ⟨RX1, "isNothing", "()Z"⟩
abbrev cX1_renew : ByteArray := prog_3_method_3_code
def yX1_renew : MethodName := ⟨RX1, "renew", "(II)V"⟩
abbrev cX1_faultAt : ByteArray := prog_3_method_4_code
def yX1_faultAt : MethodName := ⟨RX1, "faultAt", "(I)I"⟩
abbrev cX1_faultOfPair : ByteArray := prog_3_method_5_code
def yX1_faultOfPair : MethodName := ⟨RX1, "faultOfPair", "(II)I"⟩
abbrev cX1_write : ByteArray := prog_3_method_6_code
def yX1_write : MethodName := ⟨RX1, "write", "(II)V"⟩
def RX2 : String := "BottleFour$TextReader"
def TX2 : u_T := fun k => match k with
  | 0 => ("BottleFour$TextReader", "bytes", "[B", true)
  | 1 => ("BottleFour$TextReader", "camp", "LBottleFour$Camp;", true)
  | 2 => ("BottleFour$TextReader", "length", "I", false)
  | 3 => ("BottleFour$TextReader", "token", "I", false)
  | 4 => ("BottleFour$TextReader", "tokenPlace", "I", false)
  | 5 => ("BottleFour$TextReader", "nextPlace", "I", false)
  | 6 => ("BottleFour$TextReader", "number", "I", false)
  | 7 => ("BottleFour$TextReader", "toldLines", "I", false)
  | 8 => ("BottleFour$TextReader", "dryWells", "I", false)
  | 9 => ("BottleFour$TextReader", "lines", "I", false)
  | 10 => ("BottleFour$TextReader", "faultFound", "I", false)
  | _ => ("BottleFour$TextReader", "faultPlace", "I", false)
def tyX2 : Nat → FieldType := fun k => match k with
  | 0 => .array .byte
  | 1 => .object "BottleFour$Camp"
  | 2 => .int
  | 3 => .int
  | 4 => .int
  | 5 => .int
  | 6 => .int
  | 7 => .int
  | 8 => .int
  | 9 => .int
  | 10 => .int
  | _ => .int
abbrev wsX20 : List Cond := u_ws RX2 TX2 12
theorem nmX2 : ∀ a, a < 12 → ∀ b, b < 12 → a ≠ b → (TX2 a).2.1 ≠ (TX2 b).2.1 := by decide +kernel
theorem tyX2_ok : ∀ k, k < 12 → parseFieldDescriptor (TX2 k).2.2.1 = some (tyX2 k) := by decide +kernel
abbrev cX2_init : ByteArray := prog_4_method_1_code
def yX2_init : MethodName := ⟨RX2, "<init>", "([BLBottleFour$Camp;)V"⟩
abbrev cX2_readAll : ByteArray := prog_4_method_2_code
def yX2_readAll : MethodName := ⟨RX2, "readAll", "(I)V"⟩
abbrev cX2_fail : ByteArray := prog_4_method_3_code
def yX2_fail : MethodName := ⟨RX2, "fail", "(II)Z"⟩
abbrev cX2_dryUpWells : ByteArray := prog_4_method_4_code
def yX2_dryUpWells : MethodName := ⟨RX2, "dryUpWells", "()V"⟩
abbrev cX2_nextToken : ByteArray := prog_4_method_5_code
def yX2_nextToken : MethodName := ⟨RX2, "nextToken", "()Z"⟩
abbrev cX2_endOfRun : ByteArray := prog_4_method_6_code
def yX2_endOfRun : MethodName := ⟨RX2, "endOfRun", "(III)I"⟩
abbrev cX2_isName : ByteArray := prog_4_method_7_code
def yX2_isName : MethodName := ⟨RX2, "isName", "(Ljava/lang/String;)Z"⟩
abbrev cX2_readLine : ByteArray := prog_4_method_8_code
def yX2_readLine : MethodName := ⟨RX2, "readLine", "()Z"⟩
abbrev cX2_lineByName : ByteArray := prog_4_method_9_code
def yX2_lineByName : MethodName := ⟨RX2, "lineByName", "()I"⟩
abbrev cX2_readStop : ByteArray := prog_4_method_10_code
def yX2_readStop : MethodName := ⟨RX2, "readStop", "()Z"⟩
abbrev cX2_readNumber : ByteArray := prog_4_method_11_code
def yX2_readNumber : MethodName := ⟨RX2, "readNumber", "(II)Z"⟩
abbrev cX2_readOne : ByteArray := prog_4_method_12_code
def yX2_readOne : MethodName := ⟨RX2, "readOne", "()Z"⟩
abbrev cX2_kindByName : ByteArray := prog_4_method_13_code
def yX2_kindByName : MethodName := ⟨RX2, "kindByName", "()I"⟩
abbrev cX2_readWell : ByteArray := prog_4_method_14_code
def yX2_readWell : MethodName := ⟨RX2, "readWell", "()Z"⟩
abbrev cX2_readDry : ByteArray := prog_4_method_15_code
def yX2_readDry : MethodName := ⟨RX2, "readDry", "()Z"⟩
abbrev cX2_readBottle : ByteArray := prog_4_method_16_code
def yX2_readBottle : MethodName := ⟨RX2, "readBottle", "()Z"⟩
abbrev cX2_readGoal : ByteArray := prog_4_method_17_code
def yX2_readGoal : MethodName := ⟨RX2, "readGoal", "()Z"⟩
abbrev cX2_readPlan : ByteArray := prog_4_method_18_code
def yX2_readPlan : MethodName := ⟨RX2, "readPlan", "()Z"⟩
abbrev cX2_planByName : ByteArray := prog_4_method_19_code
def yX2_planByName : MethodName := ⟨RX2, "planByName", "()I"⟩
abbrev cX2_readDew : ByteArray := prog_4_method_20_code
def yX2_readDew : MethodName := ⟨RX2, "readDew", "()Z"⟩
abbrev cX2_readFound : ByteArray := prog_4_method_21_code
def yX2_readFound : MethodName := ⟨RX2, "readFound", "()Z"⟩
def RX3 : String := "BottleFour"
def TX3 : u_T := fun k => match k with
  | 0 => ("BottleFour", "tape", "[B", true)
  | 1 => ("BottleFour", "tapeLength", "I", false)
  | 2 => ("BottleFour", "textFault", "I", false)
  | 3 => ("BottleFour", "now", "LBottleFour$Camp;", true)
  | 4 => ("BottleFour", "trial", "LBottleFour$Camp;", true)
  | 5 => ("BottleFour", "stayed", "LBottleFour$Camp;", true)
  | 6 => ("BottleFour", "reader", "LBottleFour$TextReader;", true)
  | 7 => ("BottleFour", "images", "[LBottleFour$Camp;", true)
  | 8 => ("BottleFour", "kept", "[Z", true)
  | 9 => ("BottleFour", "seenHours", "[I", true)
  | 10 => ("BottleFour", "seenCaps", "[I", true)
  | 11 => ("BottleFour", "seenCount", "I", false)
  | 12 => ("BottleFour", "sheets", "[LBottleFour$Sheet;", true)
  | _ => ("BottleFour", "readFault", "I", false)
def tyX3 : Nat → FieldType := fun k => match k with
  | 0 => .array .byte
  | 1 => .int
  | 2 => .int
  | 3 => .object "BottleFour$Camp"
  | 4 => .object "BottleFour$Camp"
  | 5 => .object "BottleFour$Camp"
  | 6 => .object "BottleFour$TextReader"
  | 7 => .array (.object "BottleFour$Camp")
  | 8 => .array .boolean
  | 9 => .array .int
  | 10 => .array .int
  | 11 => .int
  | 12 => .array (.object "BottleFour$Sheet")
  | _ => .int
abbrev wsX30 : List Cond := u_ws RX3 TX3 14
theorem nmX3 : ∀ a, a < 14 → ∀ b, b < 14 → a ≠ b → (TX3 a).2.1 ≠ (TX3 b).2.1 := by decide +kernel
theorem tyX3_ok : ∀ k, k < 14 → parseFieldDescriptor (TX3 k).2.2.1 = some (tyX3 k) := by decide +kernel
abbrev cX3_init : ByteArray := prog_1_method_1_code
def yX3_init : MethodName := ⟨RX3, "<init>", "()V"⟩
abbrev cX3_feed : ByteArray := prog_1_method_2_code
def yX3_feed : MethodName := ⟨RX3, "feed", "(I)I"⟩
abbrev cX3_end : ByteArray := prog_1_method_3_code
def yX3_end : MethodName := ⟨RX3, "end", "(I)I"⟩
abbrev cX3_text : ByteArray := prog_1_method_4_code
def yX3_text : MethodName := ⟨RX3, "text", "()I"⟩
abbrev cX3_fault : ByteArray := prog_1_method_5_code
def yX3_fault : MethodName := ⟨RX3, "fault", "()I"⟩
abbrev cX3_rule : ByteArray := prog_1_method_6_code
def yX3_rule : MethodName := ⟨RX3, "rule", "(I)I"⟩
abbrev cX3_one : ByteArray := prog_1_method_7_code
def yX3_one : MethodName := ⟨RX3, "one", "(II)I"⟩
abbrev cX3_well : ByteArray := prog_1_method_8_code
def yX3_well : MethodName := ⟨RX3, "well", "(II)I"⟩
abbrev cX3_pours : ByteArray := prog_1_method_9_code
def yX3_pours : MethodName := ⟨RX3, "pours", "()I"⟩
abbrev cX3_loses : ByteArray := prog_1_method_10_code
def yX3_loses : MethodName := ⟨RX3, "loses", "(IZ)I"⟩
abbrev cX3_teach : ByteArray := prog_1_method_11_code
def yX3_teach : MethodName := ⟨RX3, "teach", "(II)I"⟩
abbrev cX3_drink : ByteArray := prog_1_method_12_code
def yX3_drink : MethodName := ⟨RX3, "drink", "(II)I"⟩
abbrev cX3_fill : ByteArray := prog_1_method_13_code
def yX3_fill : MethodName := ⟨RX3, "fill", "(I)I"⟩
abbrev cX3_plan : ByteArray := prog_1_method_14_code
def yX3_plan : MethodName := ⟨RX3, "plan", "(I)I"⟩
abbrev cX3_wet : ByteArray := prog_1_method_15_code
def yX3_wet : MethodName := ⟨RX3, "wet", "(IZ)I"⟩
abbrev cX3_odd : ByteArray := prog_1_method_16_code
def yX3_odd : MethodName := ⟨RX3, "odd", "(II)I"⟩
abbrev cX3_lay : ByteArray := prog_1_method_17_code
def yX3_lay : MethodName := ⟨RX3, "lay", "(II)I"⟩
abbrev cX3_go : ByteArray := prog_1_method_18_code
def yX3_go : MethodName := ⟨RX3, "go", "(I)I"⟩
abbrev cX3_ahead : ByteArray := prog_1_method_19_code
def yX3_ahead : MethodName := ⟨RX3, "ahead", "(II)I"⟩
abbrev cX3_down : ByteArray := prog_1_method_20_code
def yX3_down : MethodName := ⟨RX3, "down", "(I)I"⟩
abbrev cX3_arrive : ByteArray := prog_1_method_21_code
def yX3_arrive : MethodName := ⟨RX3, "arrive", "(II)I"⟩
abbrev cX3_best : ByteArray := prog_1_method_22_code
def yX3_best : MethodName := ⟨RX3, "best", "(I)I"⟩
abbrev cX3_late : ByteArray := prog_1_method_23_code
def yX3_late : MethodName := ⟨RX3, "late", "(I)I"⟩
abbrev cX3_least : ByteArray := prog_1_method_24_code
def yX3_least : MethodName := ⟨RX3, "least", "()I"⟩
abbrev cX3_alike : ByteArray := prog_1_method_25_code
def yX3_alike : MethodName := ⟨RX3, "alike", "(I)I"⟩
abbrev cX3_alone : ByteArray := prog_1_method_26_code
def yX3_alone : MethodName := ⟨RX3, "alone", "(II)I"⟩
abbrev cX3_luck : ByteArray := prog_1_method_27_code
def yX3_luck : MethodName := ⟨RX3, "luck", "(III)J"⟩
abbrev cX3_mean : ByteArray := prog_1_method_28_code
def yX3_mean : MethodName := ⟨RX3, "mean", "(II)J"⟩
abbrev cX3_stay : ByteArray := prog_1_method_29_code
def yX3_stay : MethodName := ⟨RX3, "stay", "(II)J"⟩
abbrev cX3_see : ByteArray := prog_1_method_30_code
def yX3_see : MethodName := ⟨RX3, "see", "(II)I"⟩
abbrev cX3_forget : ByteArray := prog_1_method_31_code
def yX3_forget : MethodName := ⟨RX3, "forget", "(I)I"⟩
abbrev cX3_fits : ByteArray := prog_1_method_32_code
def yX3_fits : MethodName := ⟨RX3, "fits", "(I)I"⟩
abbrev cX3_kinds : ByteArray := prog_1_method_33_code
def yX3_kinds : MethodName := ⟨RX3, "kinds", "(I)I"⟩
abbrev cX3_drift : ByteArray := prog_1_method_34_code
def yX3_drift : MethodName := ⟨RX3, "drift", "(III)I"⟩
abbrev cX3_keep : ByteArray := prog_1_method_35_code
def yX3_keep : MethodName := ⟨RX3, "keep", "(I)I"⟩
abbrev cX3_back : ByteArray := prog_1_method_36_code
def yX3_back : MethodName := ⟨RX3, "back", "(I)I"⟩
abbrev cX3_sheet : ByteArray := prog_1_method_37_code
def yX3_sheet : MethodName := ⟨RX3, "sheet", "(III)I"⟩
abbrev cX3_put : ByteArray := prog_1_method_38_code
def yX3_put : MethodName := ⟨RX3, "put", "(III)I"⟩
abbrev cX3_read : ByteArray := prog_1_method_39_code
def yX3_read : MethodName := ⟨RX3, "read", "(IIII)I"⟩
abbrev cX3_torn : ByteArray := prog_1_method_40_code
def yX3_torn : MethodName := ⟨RX3, "torn", "()I"⟩
abbrev cX3_count : ByteArray := prog_1_method_41_code
def yX3_count : MethodName := ⟨RX3, "count", "(I)I"⟩
abbrev cX3_within : ByteArray := prog_1_method_42_code
def yX3_within : MethodName := ⟨RX3, "within", "(III)Z"⟩
abbrev cX3_asNumber : ByteArray := prog_1_method_43_code
def yX3_asNumber : MethodName := ⟨RX3, "asNumber", "(Z)I"⟩
abbrev cX3_isOne : ByteArray := prog_1_method_44_code
def yX3_isOne : MethodName := ⟨RX3, "isOne", "(I)Z"⟩
abbrev cX3_isWell : ByteArray := prog_1_method_45_code
def yX3_isWell : MethodName := ⟨RX3, "isWell", "(I)Z"⟩
abbrev cX3_isKind : ByteArray := prog_1_method_46_code
def yX3_isKind : MethodName := ⟨RX3, "isKind", "(I)Z"⟩
abbrev cX3_isPlan : ByteArray := prog_1_method_47_code
def yX3_isPlan : MethodName := ⟨RX3, "isPlan", "(I)Z"⟩
abbrev cX3_isImage : ByteArray := prog_1_method_48_code
def yX3_isImage : MethodName := ⟨RX3, "isImage", "(I)Z"⟩
abbrev cX3_isSheet : ByteArray := prog_1_method_49_code
def yX3_isSheet : MethodName := ⟨RX3, "isSheet", "(I)Z"⟩
abbrev cX3_isLane : ByteArray := prog_1_method_50_code
def yX3_isLane : MethodName := ⟨RX3, "isLane", "(I)Z"⟩
abbrev cX3_told : ByteArray := prog_1_method_51_code
def yX3_told : MethodName := ⟨RX3, "told", "(LBottleFour$Camp;I)I"⟩
abbrev cX3_weightOf : ByteArray := prog_1_method_52_code
def yX3_weightOf : MethodName := ⟨RX3, "weightOf", "(I)J"⟩
abbrev cX3_arrivingBy : ByteArray := prog_1_method_53_code
def yX3_arrivingBy : MethodName := ⟨RX3, "arrivingBy", "(II)I"⟩
abbrev cX3_isAsSeen : ByteArray := prog_1_method_54_code
def yX3_isAsSeen : MethodName := ⟨RX3, "isAsSeen", "(I)Z"⟩
abbrev cX3_lastHourSeen : ByteArray := prog_1_method_55_code
def yX3_lastHourSeen : MethodName := ⟨RX3, "lastHourSeen", "()I"⟩
abbrev cX3_isAsSeenBehind : ByteArray := prog_1_method_56_code
def yX3_isAsSeenBehind : MethodName := ⟨RX3, "isAsSeenBehind", "(I)Z"⟩
abbrev cX3_power : ByteArray := prog_1_method_57_code
def yX3_power : MethodName := ⟨RX3, "power", "(II)J"⟩
abbrev cX3_partOfFraction : ByteArray := prog_1_method_58_code
def yX3_partOfFraction : MethodName := ⟨RX3, "partOfFraction", "(JJI)J"⟩
abbrev cX3_commonDivisor : ByteArray := prog_1_method_59_code
def yX3_commonDivisor : MethodName := ⟨RX3, "commonDivisor", "(JJ)J"⟩
def RX4 : String := "BottleFourModel"
def TX4 : u_T := fun k => match k with
  | 0 => ("BottleFourModel", "state", "[I", true)
  | 1 => ("BottleFourModel", "sizes", "[I", true)
  | 2 => ("BottleFourModel", "oneMany", "I", false)
  | 3 => ("BottleFourModel", "wells", "[I", true)
  | 4 => ("BottleFourModel", "wellMany", "I", false)
  | 5 => ("BottleFourModel", "goal", "I", false)
  | 6 => ("BottleFourModel", "from", "I", false)
  | 7 => ("BottleFourModel", "there", "I", false)
  | 8 => ("BottleFourModel", "readPage", "[I", true)
  | 9 => ("BottleFourModel", "readSizes", "[I", true)
  | 10 => ("BottleFourModel", "readWells", "[I", true)
  | 11 => ("BottleFourModel", "readOnes", "I", false)
  | 12 => ("BottleFourModel", "readMany", "I", false)
  | 13 => ("BottleFourModel", "readGoal", "I", false)
  | 14 => ("BottleFourModel", "toldOnce", "I", false)
  | 15 => ("BottleFourModel", "dryTold", "I", false)
  | 16 => ("BottleFourModel", "highWell", "I", false)
  | 17 => ("BottleFourModel", "tape", "[I", true)
  | 18 => ("BottleFourModel", "taped", "I", false)
  | 19 => ("BottleFourModel", "fault", "I", false)
  | 20 => ("BottleFourModel", "broken", "I", false)
  | 21 => ("BottleFourModel", "brokenAt", "I", false)
  | 22 => ("BottleFourModel", "spot", "I", false)
  | 23 => ("BottleFourModel", "here", "I", false)
  | 24 => ("BottleFourModel", "token", "I", false)
  | 25 => ("BottleFourModel", "value", "I", false)
  | 26 => ("BottleFourModel", "cuts", "[I", true)
  | 27 => ("BottleFourModel", "letters", "[I", true)
  | 28 => ("BottleFourModel", "hoursTo", "I", false)
  | 29 => ("BottleFourModel", "seen", "[I", true)
  | 30 => ("BottleFourModel", "seenMany", "I", false)
  | 31 => ("BottleFourModel", "isKept", "[Z", true)
  | 32 => ("BottleFourModel", "lanes", "[I", true)
  | 33 => ("BottleFourModel", "lengths", "[I", true)
  | 34 => ("BottleFourModel", "cells", "[I", true)
  | _ => ("BottleFourModel", "torn", "I", false)
def tyX4 : Nat → FieldType := fun k => match k with
  | 0 => .array .int
  | 1 => .array .int
  | 2 => .int
  | 3 => .array .int
  | 4 => .int
  | 5 => .int
  | 6 => .int
  | 7 => .int
  | 8 => .array .int
  | 9 => .array .int
  | 10 => .array .int
  | 11 => .int
  | 12 => .int
  | 13 => .int
  | 14 => .int
  | 15 => .int
  | 16 => .int
  | 17 => .array .int
  | 18 => .int
  | 19 => .int
  | 20 => .int
  | 21 => .int
  | 22 => .int
  | 23 => .int
  | 24 => .int
  | 25 => .int
  | 26 => .array .int
  | 27 => .array .int
  | 28 => .int
  | 29 => .array .int
  | 30 => .int
  | 31 => .array .boolean
  | 32 => .array .int
  | 33 => .array .int
  | 34 => .array .int
  | _ => .int
abbrev wsX40 : List Cond := u_ws RX4 TX4 36
theorem nmX4 : ∀ a, a < 36 → ∀ b, b < 36 → a ≠ b → (TX4 a).2.1 ≠ (TX4 b).2.1 := by decide +kernel
theorem tyX4_ok : ∀ k, k < 36 → parseFieldDescriptor (TX4 k).2.2.1 = some (tyX4 k) := by decide +kernel
abbrev cX4_init : ByteArray := prog_6_method_1_code
def yX4_init : MethodName := ⟨RX4, "<init>", "()V"⟩
abbrev cX4_in : ByteArray := prog_6_method_3_code
def yX4_in : MethodName := ⟨RX4, "in", "(JJJ)Z"⟩
abbrev cX4_feed : ByteArray := prog_6_method_4_code
def yX4_feed : MethodName := ⟨RX4, "feed", "(I)I"⟩
abbrev cX4_end : ByteArray := prog_6_method_5_code
def yX4_end : MethodName := ⟨RX4, "end", "(I)I"⟩
abbrev cX4_byteAt : ByteArray := prog_6_method_6_code
def yX4_byteAt : MethodName := ⟨RX4, "byteAt", "(I)I"⟩
abbrev cX4_fails : ByteArray := prog_6_method_7_code
def yX4_fails : MethodName := ⟨RX4, "fails", "(I)V"⟩
abbrev cX4_nameHere : ByteArray := prog_6_method_8_code
def yX4_nameHere : MethodName := ⟨RX4, "nameHere", "()I"⟩
abbrev cX4_step : ByteArray := prog_6_method_9_code
def yX4_step : MethodName := ⟨RX4, "step", "()V"⟩
abbrev cX4_number : ByteArray := prog_6_method_10_code
def yX4_number : MethodName := ⟨RX4, "number", "(II)I"⟩
abbrev cX4_named : ByteArray := prog_6_method_11_code
def yX4_named : MethodName := ⟨RX4, "named", "(II)I"⟩
abbrev cX4_readOnce : ByteArray := prog_6_method_12_code
def yX4_readOnce : MethodName := ⟨RX4, "readOnce", "(I)V"⟩
abbrev cX4_readMore : ByteArray := prog_6_method_13_code
def yX4_readMore : MethodName := ⟨RX4, "readMore", "(I)V"⟩
abbrev cX4_readLine : ByteArray := prog_6_method_14_code
def yX4_readLine : MethodName := ⟨RX4, "readLine", "()V"⟩
abbrev cX4_text : ByteArray := prog_6_method_15_code
def yX4_text : MethodName := ⟨RX4, "text", "()I"⟩
abbrev cX4_fault : ByteArray := prog_6_method_16_code
def yX4_fault : MethodName := ⟨RX4, "fault", "()I"⟩
abbrev cX4_isOne : ByteArray := prog_6_method_17_code
def yX4_isOne : MethodName := ⟨RX4, "isOne", "(I)Z"⟩
abbrev cX4_isWell : ByteArray := prog_6_method_18_code
def yX4_isWell : MethodName := ⟨RX4, "isWell", "(I)Z"⟩
abbrev cX4_isPlan : ByteArray := prog_6_method_19_code
def yX4_isPlan : MethodName := ⟨RX4, "isPlan", "(I)Z"⟩
abbrev cX4_hourOn : ByteArray := prog_6_method_20_code
def yX4_hourOn : MethodName := ⟨RX4, "hourOn", "(I)I"⟩
abbrev cX4_isDown : ByteArray := prog_6_method_21_code
def yX4_isDown : MethodName := ⟨RX4, "isDown", "(II)Z"⟩
abbrev cX4_upOn : ByteArray := prog_6_method_22_code
def yX4_upOn : MethodName := ⟨RX4, "upOn", "(I)I"⟩
abbrev cX4_pourer : ByteArray := prog_6_method_23_code
def yX4_pourer : MethodName := ⟨RX4, "pourer", "(I)I"⟩
abbrev cX4_wantOf : ByteArray := prog_6_method_24_code
def yX4_wantOf : MethodName := ⟨RX4, "wantOf", "(II)I"⟩
abbrev cX4_rule : ByteArray := prog_6_method_25_code
def yX4_rule : MethodName := ⟨RX4, "rule", "(I)I"⟩
abbrev cX4_one : ByteArray := prog_6_method_26_code
def yX4_one : MethodName := ⟨RX4, "one", "(II)I"⟩
abbrev cX4_well : ByteArray := prog_6_method_27_code
def yX4_well : MethodName := ⟨RX4, "well", "(II)I"⟩
abbrev cX4_pours : ByteArray := prog_6_method_28_code
def yX4_pours : MethodName := ⟨RX4, "pours", "()I"⟩
abbrev cX4_isDay : ByteArray := prog_6_method_29_code
def yX4_isDay : MethodName := ⟨RX4, "isDay", "(I)Z"⟩
abbrev cX4_lossOf : ByteArray := prog_6_method_30_code
def yX4_lossOf : MethodName := ⟨RX4, "lossOf", "(IIZ)I"⟩
abbrev cX4_loses : ByteArray := prog_6_method_31_code
def yX4_loses : MethodName := ⟨RX4, "loses", "(IZ)I"⟩
abbrev cX4_sets : ByteArray := prog_6_method_32_code
def yX4_sets : MethodName := ⟨RX4, "sets", "(ZII)I"⟩
abbrev cX4_teach : ByteArray := prog_6_method_33_code
def yX4_teach : MethodName := ⟨RX4, "teach", "(II)I"⟩
abbrev cX4_drinks : ByteArray := prog_6_method_34_code
def yX4_drinks : MethodName := ⟨RX4, "drinks", "(II)I"⟩
abbrev cX4_drink : ByteArray := prog_6_method_35_code
def yX4_drink : MethodName := ⟨RX4, "drink", "(II)I"⟩
abbrev cX4_fill : ByteArray := prog_6_method_36_code
def yX4_fill : MethodName := ⟨RX4, "fill", "(I)I"⟩
abbrev cX4_plan : ByteArray := prog_6_method_37_code
def yX4_plan : MethodName := ⟨RX4, "plan", "(I)I"⟩
abbrev cX4_wet : ByteArray := prog_6_method_38_code
def yX4_wet : MethodName := ⟨RX4, "wet", "(IZ)I"⟩
abbrev cX4_odd : ByteArray := prog_6_method_39_code
def yX4_odd : MethodName := ⟨RX4, "odd", "(II)I"⟩
abbrev cX4_lay : ByteArray := prog_6_method_40_code
def yX4_lay : MethodName := ⟨RX4, "lay", "(II)I"⟩
abbrev cX4_isOver : ByteArray := prog_6_method_41_code
def yX4_isOver : MethodName := ⟨RX4, "isOver", "(I)Z"⟩
abbrev cX4_fillsOn : ByteArray := prog_6_method_42_code
def yX4_fillsOn : MethodName := ⟨RX4, "fillsOn", "(II)V"⟩
abbrev cX4_givesTo : ByteArray := prog_6_method_43_code
def yX4_givesTo : MethodName := ⟨RX4, "givesTo", "(II)I"⟩
abbrev cX4_allDrink : ByteArray := prog_6_method_44_code
def yX4_allDrink : MethodName := ⟨RX4, "allDrink", "(I)V"⟩
abbrev cX4_walksOn : ByteArray := prog_6_method_45_code
def yX4_walksOn : MethodName := ⟨RX4, "walksOn", "(I)V"⟩
abbrev cX4_anHour : ByteArray := prog_6_method_46_code
def yX4_anHour : MethodName := ⟨RX4, "anHour", "(IZ)V"⟩
abbrev cX4_isWalking : ByteArray := prog_6_method_47_code
def yX4_isWalking : MethodName := ⟨RX4, "isWalking", "(II)Z"⟩
abbrev cX4_goesOn : ByteArray := prog_6_method_48_code
def yX4_goesOn : MethodName := ⟨RX4, "goesOn", "(III)V"⟩
abbrev cX4_copies : ByteArray := prog_6_method_49_code
def yX4_copies : MethodName := ⟨RX4, "copies", "(II)V"⟩
abbrev cX4_go : ByteArray := prog_6_method_50_code
def yX4_go : MethodName := ⟨RX4, "go", "(I)I"⟩
abbrev cX4_ahead : ByteArray := prog_6_method_51_code
def yX4_ahead : MethodName := ⟨RX4, "ahead", "(II)I"⟩
abbrev cX4_down : ByteArray := prog_6_method_52_code
def yX4_down : MethodName := ⟨RX4, "down", "(I)I"⟩
abbrev cX4_arriveFrom : ByteArray := prog_6_method_53_code
def yX4_arriveFrom : MethodName := ⟨RX4, "arriveFrom", "(II)I"⟩
abbrev cX4_arrive : ByteArray := prog_6_method_54_code
def yX4_arrive : MethodName := ⟨RX4, "arrive", "(II)I"⟩
abbrev cX4_best : ByteArray := prog_6_method_55_code
def yX4_best : MethodName := ⟨RX4, "best", "(I)I"⟩
abbrev cX4_late : ByteArray := prog_6_method_56_code
def yX4_late : MethodName := ⟨RX4, "late", "(I)I"⟩
abbrev cX4_least : ByteArray := prog_6_method_57_code
def yX4_least : MethodName := ⟨RX4, "least", "()I"⟩
abbrev cX4_alike : ByteArray := prog_6_method_58_code
def yX4_alike : MethodName := ⟨RX4, "alike", "(I)I"⟩
abbrev cX4_alone : ByteArray := prog_6_method_59_code
def yX4_alone : MethodName := ⟨RX4, "alone", "(II)I"⟩
abbrev cX4_lowest : ByteArray := prog_6_method_60_code
def yX4_lowest : MethodName := ⟨RX4, "lowest", "(JJI)J"⟩
abbrev cX4_sumBy : ByteArray := prog_6_method_61_code
def yX4_sumBy : MethodName := ⟨RX4, "sumBy", "(II)J"⟩
abbrev cX4_tens : ByteArray := prog_6_method_62_code
def yX4_tens : MethodName := ⟨RX4, "tens", "(I)J"⟩
abbrev cX4_luck : ByteArray := prog_6_method_63_code
def yX4_luck : MethodName := ⟨RX4, "luck", "(III)J"⟩
abbrev cX4_mean : ByteArray := prog_6_method_64_code
def yX4_mean : MethodName := ⟨RX4, "mean", "(II)J"⟩
abbrev cX4_stay : ByteArray := prog_6_method_65_code
def yX4_stay : MethodName := ⟨RX4, "stay", "(II)J"⟩
abbrev cX4_see : ByteArray := prog_6_method_66_code
def yX4_see : MethodName := ⟨RX4, "see", "(II)I"⟩
abbrev cX4_forget : ByteArray := prog_6_method_67_code
def yX4_forget : MethodName := ⟨RX4, "forget", "(I)I"⟩
abbrev cX4_allKinds : ByteArray := prog_6_method_68_code
def yX4_allKinds : MethodName := ⟨RX4, "allKinds", "()I"⟩
abbrev cX4_kindOf : ByteArray := prog_6_method_69_code
def yX4_kindOf : MethodName := ⟨RX4, "kindOf", "(II)I"⟩
abbrev cX4_isAsSeen : ByteArray := prog_6_method_70_code
def yX4_isAsSeen : MethodName := ⟨RX4, "isAsSeen", "(I)Z"⟩
abbrev cX4_fits : ByteArray := prog_6_method_71_code
def yX4_fits : MethodName := ⟨RX4, "fits", "(I)I"⟩
abbrev cX4_kinds : ByteArray := prog_6_method_72_code
def yX4_kinds : MethodName := ⟨RX4, "kinds", "(I)I"⟩
abbrev cX4_drift : ByteArray := prog_6_method_73_code
def yX4_drift : MethodName := ⟨RX4, "drift", "(III)I"⟩
abbrev cX4_keep : ByteArray := prog_6_method_74_code
def yX4_keep : MethodName := ⟨RX4, "keep", "(I)I"⟩
abbrev cX4_back : ByteArray := prog_6_method_75_code
def yX4_back : MethodName := ⟨RX4, "back", "(I)I"⟩
abbrev cX4_sheet : ByteArray := prog_6_method_76_code
def yX4_sheet : MethodName := ⟨RX4, "sheet", "(III)I"⟩
abbrev cX4_put : ByteArray := prog_6_method_77_code
def yX4_put : MethodName := ⟨RX4, "put", "(III)I"⟩
abbrev cX4_read : ByteArray := prog_6_method_78_code
def yX4_read : MethodName := ⟨RX4, "read", "(IIII)I"⟩
abbrev cX4_torn : ByteArray := prog_6_method_79_code
def yX4_torn : MethodName := ⟨RX4, "torn", "()I"⟩
abbrev cX4_count : ByteArray := prog_6_method_80_code
def yX4_count : MethodName := ⟨RX4, "count", "(I)I"⟩
def RJ9 : String := "java/lang/Math"
def TJ9 : u_T := fun k => match k with
  | _ => ("", "", "", false)
def tyJ9 : Nat → FieldType := fun k => match k with
  | _ => .int
abbrev wsJ90 : List Cond := u_ws RJ9 TJ9 0
theorem nmJ9 : ∀ a, a < 0 → ∀ b, b < 0 → a ≠ b → (TJ9 a).2.1 ≠ (TJ9 b).2.1 := by decide +kernel
theorem tyJ9_ok : ∀ k, k < 0 → parseFieldDescriptor (TJ9 k).2.2.1 = some (tyJ9 k) := by decide +kernel
abbrev cJ9_max_7cf53 : ByteArray := prog_7_method_65_code
def yJ9_max_7cf53 : MethodName := ⟨RJ9, "max", "(II)I"⟩
abbrev cJ9_min_7cf53 : ByteArray := prog_7_method_69_code
def yJ9_min_7cf53 : MethodName := ⟨RJ9, "min", "(II)I"⟩
def RJ0 : String := "java/lang/String"
def TJ0 : u_T := fun k => match k with
  | _ => ("", "", "", false)
def tyJ0 : Nat → FieldType := fun k => match k with
  | _ => .int
abbrev wsJ00 : List Cond := u_ws RJ0 TJ0 0
theorem nmJ0 : ∀ a, a < 0 → ∀ b, b < 0 → a ≠ b → (TJ0 a).2.1 ≠ (TJ0 b).2.1 := by decide +kernel
theorem tyJ0_ok : ∀ k, k < 0 → parseFieldDescriptor (TJ0 k).2.2.1 = some (tyJ0 k) := by decide +kernel
abbrev cJ0_length_8abf5 : ByteArray := prog_8_method_54_code
def yJ0_length_8abf5 : MethodName := ⟨RJ0, "length", "()I"⟩
abbrev cJ0_charAt_5068e : ByteArray := prog_8_method_56_code
def yJ0_charAt_5068e : MethodName := ⟨RJ0, "charAt", "(I)C"⟩
abbrev cJ0_coder_7d493 : ByteArray := prog_8_method_152_code
def yJ0_coder_7d493 : MethodName := ⟨RJ0, "coder", "()B"⟩
abbrev cJ0_isLatin1_aae02 : ByteArray := prog_8_method_154_code
def yJ0_isLatin1_aae02 : MethodName := ⟨RJ0, "isLatin1", "()Z"⟩
abbrev cJ0_checkIndex_df160 : ByteArray := prog_8_method_155_code
def yJ0_checkIndex_df160 : MethodName := ⟨RJ0, "checkIndex", "(II)V"⟩
def RJ1 : String := "java/lang/StringLatin1"
def TJ1 : u_T := fun k => match k with
  | _ => ("", "", "", false)
def tyJ1 : Nat → FieldType := fun k => match k with
  | _ => .int
abbrev wsJ10 : List Cond := u_ws RJ1 TJ1 0
theorem nmJ1 : ∀ a, a < 0 → ∀ b, b < 0 → a ≠ b → (TJ1 a).2.1 ≠ (TJ1 b).2.1 := by decide +kernel
theorem tyJ1_ok : ∀ k, k < 0 → parseFieldDescriptor (TJ1 k).2.2.1 = some (tyJ1 k) := by decide +kernel
abbrev cJ1_charAt_3b067 : ByteArray := prog_9_method_2_code
def yJ1_charAt_3b067 : MethodName := ⟨RJ1, "charAt", "([BI)C"⟩
def RJ2 : String := "java/lang/StringUTF16"
def TJ2 : u_T := fun k => match k with
  | _ => ("", "", "", false)
def tyJ2 : Nat → FieldType := fun k => match k with
  | _ => .int
abbrev wsJ20 : List Cond := u_ws RJ2 TJ2 0
theorem nmJ2 : ∀ a, a < 0 → ∀ b, b < 0 → a ≠ b → (TJ2 a).2.1 ≠ (TJ2 b).2.1 := by decide +kernel
theorem tyJ2_ok : ∀ k, k < 0 → parseFieldDescriptor (TJ2 k).2.2.1 = some (tyJ2 k) := by decide +kernel
abbrev cJ2_getChar_3b067 : ByteArray := prog_10_method_5_code
def yJ2_getChar_3b067 : MethodName := ⟨RJ2, "getChar", "([BI)C"⟩
abbrev cJ2_length_9d52b : ByteArray := prog_10_method_6_code
def yJ2_length_9d52b : MethodName := ⟨RJ2, "length", "([B)I"⟩
abbrev cJ2_charAt_3b067 : ByteArray := prog_10_method_83_code
def yJ2_charAt_3b067 : MethodName := ⟨RJ2, "charAt", "([BI)C"⟩
abbrev cJ2_checkIndex_2214a : ByteArray := prog_10_method_91_code
def yJ2_checkIndex_2214a : MethodName := ⟨RJ2, "checkIndex", "(I[B)V"⟩
def RJ3 : String := "jdk/internal/util/Preconditions"
def TJ3 : u_T := fun k => match k with
  | _ => ("", "", "", false)
def tyJ3 : Nat → FieldType := fun k => match k with
  | _ => .int
abbrev wsJ30 : List Cond := u_ws RJ3 TJ3 0
theorem nmJ3 : ∀ a, a < 0 → ∀ b, b < 0 → a ≠ b → (TJ3 a).2.1 ≠ (TJ3 b).2.1 := by decide +kernel
theorem tyJ3_ok : ∀ k, k < 0 → parseFieldDescriptor (TJ3 k).2.2.1 = some (tyJ3 k) := by decide +kernel
abbrev cJ3_checkIndex_8e157 : ByteArray := prog_11_method_11_code
def yJ3_checkIndex_8e157 : MethodName := ⟨RJ3, "checkIndex", "(IILjava/util/function/BiFunction;)I"⟩
def RL : String := "BottleFourLaw"
abbrev cL_law : ByteArray := code
def yL_law : MethodName := ⟨RL, "law", "([I)Z"⟩
abbrev vwCl : List vw_C := [(RX0, TX0, 16), (RX1, TX1, 3), (RX2, TX2, 12), (RX3, TX3, 14), (RX4, TX4, 36)]
end
section
theorem dJ0_length_8abf5_0 : decode cJ0_length_8abf5 0 = .ok (.aload_n 0, 1) := by decide +kernel
theorem dJ0_length_8abf5_1 : decode cJ0_length_8abf5 1 = .ok (.getfield 9, 3) := by decide +kernel
theorem dJ0_length_8abf5_4 : decode cJ0_length_8abf5 4 = .ok (.arraylength, 1) := by decide +kernel
theorem dJ0_length_8abf5_5 : decode cJ0_length_8abf5 5 = .ok (.aload_n 0, 1) := by decide +kernel
theorem dJ0_length_8abf5_6 : decode cJ0_length_8abf5 6 = .ok (.invokevirtual 335, 3) := by decide +kernel
theorem dJ0_length_8abf5_9 : decode cJ0_length_8abf5 9 = .ok (.ishr, 1) := by decide +kernel
theorem dJ0_length_8abf5_10 : decode cJ0_length_8abf5 10 = .ok (.ireturn, 1) := by decide +kernel
theorem dJ0_charAt_5068e_0 : decode cJ0_charAt_5068e 0 = .ok (.aload_n 0, 1) := by decide +kernel
theorem dJ0_charAt_5068e_1 : decode cJ0_charAt_5068e 1 = .ok (.invokevirtual 492, 3) := by decide +kernel
theorem dJ0_charAt_5068e_4 : decode cJ0_charAt_5068e 4 = .ok (.ifCond .eq 12, 3) := by decide +kernel
theorem dJ0_charAt_5068e_7 : decode cJ0_charAt_5068e 7 = .ok (.aload_n 0, 1) := by decide +kernel
theorem dJ0_charAt_5068e_8 : decode cJ0_charAt_5068e 8 = .ok (.getfield 9, 3) := by decide +kernel
theorem dJ0_charAt_5068e_11 : decode cJ0_charAt_5068e 11 = .ok (.iload_n 1, 1) := by decide +kernel
theorem dJ0_charAt_5068e_12 : decode cJ0_charAt_5068e 12 = .ok (.invokestatic 495, 3) := by decide +kernel
theorem dJ0_charAt_5068e_15 : decode cJ0_charAt_5068e 15 = .ok (.ireturn, 1) := by decide +kernel
theorem dJ0_charAt_5068e_16 : decode cJ0_charAt_5068e 16 = .ok (.aload_n 0, 1) := by decide +kernel
theorem dJ0_charAt_5068e_17 : decode cJ0_charAt_5068e 17 = .ok (.getfield 9, 3) := by decide +kernel
theorem dJ0_charAt_5068e_20 : decode cJ0_charAt_5068e 20 = .ok (.iload_n 1, 1) := by decide +kernel
theorem dJ0_charAt_5068e_21 : decode cJ0_charAt_5068e 21 = .ok (.invokestatic 498, 3) := by decide +kernel
theorem dJ0_charAt_5068e_24 : decode cJ0_charAt_5068e 24 = .ok (.ireturn, 1) := by decide +kernel
theorem dJ0_coder_7d493_0 : decode cJ0_coder_7d493 0 = .ok (.getstatic 38, 3) := by decide +kernel
theorem dJ0_coder_7d493_3 : decode cJ0_coder_7d493 3 = .ok (.ifCond .eq 10, 3) := by decide +kernel
theorem dJ0_coder_7d493_6 : decode cJ0_coder_7d493 6 = .ok (.aload_n 0, 1) := by decide +kernel
theorem dJ0_coder_7d493_7 : decode cJ0_coder_7d493 7 = .ok (.getfield 15, 3) := by decide +kernel
theorem dJ0_coder_7d493_10 : decode cJ0_coder_7d493 10 = .ok (.goto 4, 3) := by decide +kernel
theorem dJ0_coder_7d493_13 : decode cJ0_coder_7d493 13 = .ok (.iconst 1, 1) := by decide +kernel
theorem dJ0_coder_7d493_14 : decode cJ0_coder_7d493 14 = .ok (.ireturn, 1) := by decide +kernel
theorem dJ0_isLatin1_aae02_0 : decode cJ0_isLatin1_aae02 0 = .ok (.getstatic 38, 3) := by decide +kernel
theorem dJ0_isLatin1_aae02_3 : decode cJ0_isLatin1_aae02 3 = .ok (.ifCond .eq 14, 3) := by decide +kernel
theorem dJ0_isLatin1_aae02_6 : decode cJ0_isLatin1_aae02 6 = .ok (.aload_n 0, 1) := by decide +kernel
theorem dJ0_isLatin1_aae02_7 : decode cJ0_isLatin1_aae02 7 = .ok (.getfield 15, 3) := by decide +kernel
theorem dJ0_isLatin1_aae02_10 : decode cJ0_isLatin1_aae02 10 = .ok (.ifCond .ne 7, 3) := by decide +kernel
theorem dJ0_isLatin1_aae02_13 : decode cJ0_isLatin1_aae02 13 = .ok (.iconst 1, 1) := by decide +kernel
theorem dJ0_isLatin1_aae02_14 : decode cJ0_isLatin1_aae02 14 = .ok (.goto 4, 3) := by decide +kernel
theorem dJ0_isLatin1_aae02_17 : decode cJ0_isLatin1_aae02 17 = .ok (.iconst 0, 1) := by decide +kernel
theorem dJ0_isLatin1_aae02_18 : decode cJ0_isLatin1_aae02 18 = .ok (.ireturn, 1) := by decide +kernel
theorem dJ0_checkIndex_df160_0 : decode cJ0_checkIndex_df160 0 = .ok (.iload_n 0, 1) := by decide +kernel
theorem dJ0_checkIndex_df160_1 : decode cJ0_checkIndex_df160 1 = .ok (.iload_n 1, 1) := by decide +kernel
theorem dJ0_checkIndex_df160_2 : decode cJ0_checkIndex_df160 2 = .ok (.getstatic 1053, 3) := by decide +kernel
theorem dJ0_checkIndex_df160_5 : decode cJ0_checkIndex_df160 5 = .ok (.invokestatic 1059, 3) := by decide +kernel
theorem dJ0_checkIndex_df160_8 : decode cJ0_checkIndex_df160 8 = .ok (.pop, 1) := by decide +kernel
theorem dJ0_checkIndex_df160_9 : decode cJ0_checkIndex_df160 9 = .ok (.return_, 1) := by decide +kernel
end
section
theorem dJ1_charAt_3b067_0 : decode cJ1_charAt_3b067 0 = .ok (.iload_n 1, 1) := by decide +kernel
theorem dJ1_charAt_3b067_1 : decode cJ1_charAt_3b067 1 = .ok (.aload_n 0, 1) := by decide +kernel
theorem dJ1_charAt_3b067_2 : decode cJ1_charAt_3b067 2 = .ok (.arraylength, 1) := by decide +kernel
theorem dJ1_charAt_3b067_3 : decode cJ1_charAt_3b067 3 = .ok (.invokestatic 9, 3) := by decide +kernel
theorem dJ1_charAt_3b067_6 : decode cJ1_charAt_3b067 6 = .ok (.aload_n 0, 1) := by decide +kernel
theorem dJ1_charAt_3b067_7 : decode cJ1_charAt_3b067 7 = .ok (.iload_n 1, 1) := by decide +kernel
theorem dJ1_charAt_3b067_8 : decode cJ1_charAt_3b067 8 = .ok (.baload, 1) := by decide +kernel
theorem dJ1_charAt_3b067_9 : decode cJ1_charAt_3b067 9 = .ok (.sipush 255, 3) := by decide +kernel
theorem dJ1_charAt_3b067_12 : decode cJ1_charAt_3b067 12 = .ok (.iand, 1) := by decide +kernel
theorem dJ1_charAt_3b067_13 : decode cJ1_charAt_3b067 13 = .ok (.i2c, 1) := by decide +kernel
theorem dJ1_charAt_3b067_14 : decode cJ1_charAt_3b067 14 = .ok (.ireturn, 1) := by decide +kernel
end
section
theorem dJ2_getChar_3b067_0 : decode cJ2_getChar_3b067 0 = .ok (.getstatic 44, 3) := by decide +kernel
theorem dJ2_getChar_3b067_3 : decode cJ2_getChar_3b067 3 = .ok (.ifCond .ne 25, 3) := by decide +kernel
theorem dJ2_getChar_3b067_6 : decode cJ2_getChar_3b067 6 = .ok (.iload_n 1, 1) := by decide +kernel
theorem dJ2_getChar_3b067_7 : decode cJ2_getChar_3b067 7 = .ok (.ifCond .lt 11, 3) := by decide +kernel
theorem dJ2_getChar_3b067_10 : decode cJ2_getChar_3b067 10 = .ok (.iload_n 1, 1) := by decide +kernel
theorem dJ2_getChar_3b067_11 : decode cJ2_getChar_3b067 11 = .ok (.aload_n 0, 1) := by decide +kernel
theorem dJ2_getChar_3b067_12 : decode cJ2_getChar_3b067 12 = .ok (.invokestatic 48, 3) := by decide +kernel
theorem dJ2_getChar_3b067_15 : decode cJ2_getChar_3b067 15 = .ok (.if_icmp .lt 13, 3) := by decide +kernel
theorem dJ2_getChar_3b067_18 : decode cJ2_getChar_3b067 18 = .ok (.new 52, 3) := by decide +kernel
theorem dJ2_getChar_3b067_21 : decode cJ2_getChar_3b067 21 = .ok (.dup, 1) := by decide +kernel
theorem dJ2_getChar_3b067_22 : decode cJ2_getChar_3b067 22 = .ok (.ldc 54, 2) := by decide +kernel
theorem dJ2_getChar_3b067_24 : decode cJ2_getChar_3b067 24 = .ok (.invokespecial 56, 3) := by decide +kernel
theorem dJ2_getChar_3b067_27 : decode cJ2_getChar_3b067 27 = .ok (.athrow, 1) := by decide +kernel
theorem dJ2_getChar_3b067_28 : decode cJ2_getChar_3b067 28 = .ok (.iload_n 1, 1) := by decide +kernel
theorem dJ2_getChar_3b067_29 : decode cJ2_getChar_3b067 29 = .ok (.iconst 1, 1) := by decide +kernel
theorem dJ2_getChar_3b067_30 : decode cJ2_getChar_3b067 30 = .ok (.ishl, 1) := by decide +kernel
theorem dJ2_getChar_3b067_31 : decode cJ2_getChar_3b067 31 = .ok (.istore_n 1, 1) := by decide +kernel
theorem dJ2_getChar_3b067_32 : decode cJ2_getChar_3b067 32 = .ok (.aload_n 0, 1) := by decide +kernel
theorem dJ2_getChar_3b067_33 : decode cJ2_getChar_3b067 33 = .ok (.iload_n 1, 1) := by decide +kernel
theorem dJ2_getChar_3b067_34 : decode cJ2_getChar_3b067 34 = .ok (.iinc 1 1, 3) := by decide +kernel
theorem dJ2_getChar_3b067_37 : decode cJ2_getChar_3b067 37 = .ok (.baload, 1) := by decide +kernel
theorem dJ2_getChar_3b067_38 : decode cJ2_getChar_3b067 38 = .ok (.sipush 255, 3) := by decide +kernel
theorem dJ2_getChar_3b067_41 : decode cJ2_getChar_3b067 41 = .ok (.iand, 1) := by decide +kernel
theorem dJ2_getChar_3b067_42 : decode cJ2_getChar_3b067 42 = .ok (.getstatic 59, 3) := by decide +kernel
theorem dJ2_getChar_3b067_45 : decode cJ2_getChar_3b067 45 = .ok (.ishl, 1) := by decide +kernel
theorem dJ2_getChar_3b067_46 : decode cJ2_getChar_3b067 46 = .ok (.aload_n 0, 1) := by decide +kernel
theorem dJ2_getChar_3b067_47 : decode cJ2_getChar_3b067 47 = .ok (.iload_n 1, 1) := by decide +kernel
theorem dJ2_getChar_3b067_48 : decode cJ2_getChar_3b067 48 = .ok (.baload, 1) := by decide +kernel
theorem dJ2_getChar_3b067_49 : decode cJ2_getChar_3b067 49 = .ok (.sipush 255, 3) := by decide +kernel
theorem dJ2_getChar_3b067_52 : decode cJ2_getChar_3b067 52 = .ok (.iand, 1) := by decide +kernel
theorem dJ2_getChar_3b067_53 : decode cJ2_getChar_3b067 53 = .ok (.getstatic 63, 3) := by decide +kernel
theorem dJ2_getChar_3b067_56 : decode cJ2_getChar_3b067 56 = .ok (.ishl, 1) := by decide +kernel
theorem dJ2_getChar_3b067_57 : decode cJ2_getChar_3b067 57 = .ok (.ior, 1) := by decide +kernel
theorem dJ2_getChar_3b067_58 : decode cJ2_getChar_3b067 58 = .ok (.i2c, 1) := by decide +kernel
theorem dJ2_getChar_3b067_59 : decode cJ2_getChar_3b067 59 = .ok (.ireturn, 1) := by decide +kernel
theorem dJ2_length_9d52b_0 : decode cJ2_length_9d52b 0 = .ok (.aload_n 0, 1) := by decide +kernel
theorem dJ2_length_9d52b_1 : decode cJ2_length_9d52b 1 = .ok (.arraylength, 1) := by decide +kernel
theorem dJ2_length_9d52b_2 : decode cJ2_length_9d52b 2 = .ok (.iconst 1, 1) := by decide +kernel
theorem dJ2_length_9d52b_3 : decode cJ2_length_9d52b 3 = .ok (.ishr, 1) := by decide +kernel
theorem dJ2_length_9d52b_4 : decode cJ2_length_9d52b 4 = .ok (.ireturn, 1) := by decide +kernel
theorem dJ2_charAt_3b067_0 : decode cJ2_charAt_3b067 0 = .ok (.iload_n 1, 1) := by decide +kernel
theorem dJ2_charAt_3b067_1 : decode cJ2_charAt_3b067 1 = .ok (.aload_n 0, 1) := by decide +kernel
theorem dJ2_charAt_3b067_2 : decode cJ2_charAt_3b067 2 = .ok (.invokestatic 67, 3) := by decide +kernel
theorem dJ2_charAt_3b067_5 : decode cJ2_charAt_3b067 5 = .ok (.aload_n 0, 1) := by decide +kernel
theorem dJ2_charAt_3b067_6 : decode cJ2_charAt_3b067 6 = .ok (.iload_n 1, 1) := by decide +kernel
theorem dJ2_charAt_3b067_7 : decode cJ2_charAt_3b067 7 = .ok (.invokestatic 71, 3) := by decide +kernel
theorem dJ2_charAt_3b067_10 : decode cJ2_charAt_3b067 10 = .ok (.ireturn, 1) := by decide +kernel
theorem dJ2_checkIndex_2214a_0 : decode cJ2_checkIndex_2214a 0 = .ok (.iload_n 0, 1) := by decide +kernel
theorem dJ2_checkIndex_2214a_1 : decode cJ2_checkIndex_2214a 1 = .ok (.aload_n 1, 1) := by decide +kernel
theorem dJ2_checkIndex_2214a_2 : decode cJ2_checkIndex_2214a 2 = .ok (.invokestatic 48, 3) := by decide +kernel
theorem dJ2_checkIndex_2214a_5 : decode cJ2_checkIndex_2214a 5 = .ok (.invokestatic 414, 3) := by decide +kernel
theorem dJ2_checkIndex_2214a_8 : decode cJ2_checkIndex_2214a 8 = .ok (.return_, 1) := by decide +kernel
end
section
theorem dJ3_checkIndex_8e157_0 : decode cJ3_checkIndex_8e157 0 = .ok (.iload_n 0, 1) := by decide +kernel
theorem dJ3_checkIndex_8e157_1 : decode cJ3_checkIndex_8e157 1 = .ok (.ifCond .lt 8, 3) := by decide +kernel
theorem dJ3_checkIndex_8e157_4 : decode cJ3_checkIndex_8e157 4 = .ok (.iload_n 0, 1) := by decide +kernel
theorem dJ3_checkIndex_8e157_5 : decode cJ3_checkIndex_8e157 5 = .ok (.iload_n 1, 1) := by decide +kernel
theorem dJ3_checkIndex_8e157_6 : decode cJ3_checkIndex_8e157 6 = .ok (.if_icmp .lt 10, 3) := by decide +kernel
theorem dJ3_checkIndex_8e157_9 : decode cJ3_checkIndex_8e157 9 = .ok (.aload_n 2, 1) := by decide +kernel
theorem dJ3_checkIndex_8e157_10 : decode cJ3_checkIndex_8e157 10 = .ok (.iload_n 0, 1) := by decide +kernel
theorem dJ3_checkIndex_8e157_11 : decode cJ3_checkIndex_8e157 11 = .ok (.iload_n 1, 1) := by decide +kernel
theorem dJ3_checkIndex_8e157_12 : decode cJ3_checkIndex_8e157 12 = .ok (.invokestatic 95, 3) := by decide +kernel
theorem dJ3_checkIndex_8e157_15 : decode cJ3_checkIndex_8e157 15 = .ok (.athrow, 1) := by decide +kernel
theorem dJ3_checkIndex_8e157_16 : decode cJ3_checkIndex_8e157 16 = .ok (.iload_n 0, 1) := by decide +kernel
theorem dJ3_checkIndex_8e157_17 : decode cJ3_checkIndex_8e157 17 = .ok (.ireturn, 1) := by decide +kernel
end
section
theorem dJ9_max_7cf53_0 : decode cJ9_max_7cf53 0 = .ok (.iload_n 0, 1) := by decide +kernel
theorem dJ9_max_7cf53_1 : decode cJ9_max_7cf53 1 = .ok (.iload_n 1, 1) := by decide +kernel
theorem dJ9_max_7cf53_2 : decode cJ9_max_7cf53 2 = .ok (.if_icmp .lt 7, 3) := by decide +kernel
theorem dJ9_max_7cf53_5 : decode cJ9_max_7cf53 5 = .ok (.iload_n 0, 1) := by decide +kernel
theorem dJ9_max_7cf53_6 : decode cJ9_max_7cf53 6 = .ok (.goto 4, 3) := by decide +kernel
theorem dJ9_max_7cf53_9 : decode cJ9_max_7cf53 9 = .ok (.iload_n 1, 1) := by decide +kernel
theorem dJ9_max_7cf53_10 : decode cJ9_max_7cf53 10 = .ok (.ireturn, 1) := by decide +kernel
theorem dJ9_min_7cf53_0 : decode cJ9_min_7cf53 0 = .ok (.iload_n 0, 1) := by decide +kernel
theorem dJ9_min_7cf53_1 : decode cJ9_min_7cf53 1 = .ok (.iload_n 1, 1) := by decide +kernel
theorem dJ9_min_7cf53_2 : decode cJ9_min_7cf53 2 = .ok (.if_icmp .gt 7, 3) := by decide +kernel
theorem dJ9_min_7cf53_5 : decode cJ9_min_7cf53 5 = .ok (.iload_n 0, 1) := by decide +kernel
theorem dJ9_min_7cf53_6 : decode cJ9_min_7cf53 6 = .ok (.goto 4, 3) := by decide +kernel
theorem dJ9_min_7cf53_9 : decode cJ9_min_7cf53 9 = .ok (.iload_n 1, 1) := by decide +kernel
theorem dJ9_min_7cf53_10 : decode cJ9_min_7cf53 10 = .ok (.ireturn, 1) := by decide +kernel
end
section
theorem dL_law_0 : decode cL_law 0 = .ok (.new 7, 3) := by decide +kernel
theorem dL_law_3 : decode cL_law 3 = .ok (.dup, 1) := by decide +kernel
theorem dL_law_4 : decode cL_law 4 = .ok (.invokespecial 9, 3) := by decide +kernel
theorem dL_law_7 : decode cL_law 7 = .ok (.astore_n 1, 1) := by decide +kernel
theorem dL_law_8 : decode cL_law 8 = .ok (.new 10, 3) := by decide +kernel
theorem dL_law_11 : decode cL_law 11 = .ok (.dup, 1) := by decide +kernel
theorem dL_law_12 : decode cL_law 12 = .ok (.invokespecial 12, 3) := by decide +kernel
theorem dL_law_15 : decode cL_law 15 = .ok (.astore_n 2, 1) := by decide +kernel
theorem dL_law_16 : decode cL_law 16 = .ok (.iconst 0, 1) := by decide +kernel
theorem dL_law_17 : decode cL_law 17 = .ok (.istore_n 3, 1) := by decide +kernel
theorem dL_law_18 : decode cL_law 18 = .ok (.iload_n 3, 1) := by decide +kernel
theorem dL_law_19 : decode cL_law 19 = .ok (.aload_n 0, 1) := by decide +kernel
theorem dL_law_20 : decode cL_law 20 = .ok (.arraylength, 1) := by decide +kernel
theorem dL_law_21 : decode cL_law 21 = .ok (.iconst 5, 1) := by decide +kernel
theorem dL_law_22 : decode cL_law 22 = .ok (.isub, 1) := by decide +kernel
theorem dL_law_23 : decode cL_law 23 = .ok (.if_icmp .gt 1346, 3) := by decide +kernel
theorem dL_law_26 : decode cL_law 26 = .ok (.aload_n 0, 1) := by decide +kernel
theorem dL_law_27 : decode cL_law 27 = .ok (.iload_n 3, 1) := by decide +kernel
theorem dL_law_28 : decode cL_law 28 = .ok (.iaload, 1) := by decide +kernel
theorem dL_law_29 : decode cL_law 29 = .ok (.bipush 63, 2) := by decide +kernel
theorem dL_law_31 : decode cL_law 31 = .ok (.iand, 1) := by decide +kernel
theorem dL_law_32 : decode cL_law 32 = .ok (.tableswitch 1331 0 39 #[176, 199, 222, 235, 248, 271, 304, 337, 350, 399, 432, 465, 488, 511, 560, 593, 626, 649, 682, 705, 738, 761, 784, 797, 820, 853, 897, 931, 965, 998, 1021, 1044, 1067, 1110, 1133, 1156, 1199, 1242, 1295, 1308], 176) := by decide +kernel
theorem dL_law_208 : decode cL_law 208 = .ok (.aload_n 1, 1) := by decide +kernel
theorem dL_law_209 : decode cL_law 209 = .ok (.aload_n 0, 1) := by decide +kernel
theorem dL_law_210 : decode cL_law 210 = .ok (.iload_n 3, 1) := by decide +kernel
theorem dL_law_211 : decode cL_law 211 = .ok (.iconst 1, 1) := by decide +kernel
theorem dL_law_212 : decode cL_law 212 = .ok (.iadd, 1) := by decide +kernel
theorem dL_law_213 : decode cL_law 213 = .ok (.iaload, 1) := by decide +kernel
theorem dL_law_214 : decode cL_law 214 = .ok (.invokevirtual 13, 3) := by decide +kernel
theorem dL_law_217 : decode cL_law 217 = .ok (.aload_n 2, 1) := by decide +kernel
theorem dL_law_218 : decode cL_law 218 = .ok (.aload_n 0, 1) := by decide +kernel
theorem dL_law_219 : decode cL_law 219 = .ok (.iload_n 3, 1) := by decide +kernel
theorem dL_law_220 : decode cL_law 220 = .ok (.iconst 1, 1) := by decide +kernel
theorem dL_law_221 : decode cL_law 221 = .ok (.iadd, 1) := by decide +kernel
theorem dL_law_222 : decode cL_law 222 = .ok (.iaload, 1) := by decide +kernel
theorem dL_law_223 : decode cL_law 223 = .ok (.invokevirtual 17, 3) := by decide +kernel
theorem dL_law_226 : decode cL_law 226 = .ok (.if_icmp .eq 1137, 3) := by decide +kernel
theorem dL_law_229 : decode cL_law 229 = .ok (.iconst 0, 1) := by decide +kernel
theorem dL_law_230 : decode cL_law 230 = .ok (.ireturn, 1) := by decide +kernel
theorem dL_law_231 : decode cL_law 231 = .ok (.aload_n 1, 1) := by decide +kernel
theorem dL_law_232 : decode cL_law 232 = .ok (.aload_n 0, 1) := by decide +kernel
theorem dL_law_233 : decode cL_law 233 = .ok (.iload_n 3, 1) := by decide +kernel
theorem dL_law_234 : decode cL_law 234 = .ok (.iconst 1, 1) := by decide +kernel
theorem dL_law_235 : decode cL_law 235 = .ok (.iadd, 1) := by decide +kernel
theorem dL_law_236 : decode cL_law 236 = .ok (.iaload, 1) := by decide +kernel
theorem dL_law_237 : decode cL_law 237 = .ok (.invokevirtual 18, 3) := by decide +kernel
theorem dL_law_240 : decode cL_law 240 = .ok (.aload_n 2, 1) := by decide +kernel
theorem dL_law_241 : decode cL_law 241 = .ok (.aload_n 0, 1) := by decide +kernel
theorem dL_law_242 : decode cL_law 242 = .ok (.iload_n 3, 1) := by decide +kernel
theorem dL_law_243 : decode cL_law 243 = .ok (.iconst 1, 1) := by decide +kernel
theorem dL_law_244 : decode cL_law 244 = .ok (.iadd, 1) := by decide +kernel
theorem dL_law_245 : decode cL_law 245 = .ok (.iaload, 1) := by decide +kernel
theorem dL_law_246 : decode cL_law 246 = .ok (.invokevirtual 21, 3) := by decide +kernel
theorem dL_law_249 : decode cL_law 249 = .ok (.if_icmp .eq 1114, 3) := by decide +kernel
theorem dL_law_252 : decode cL_law 252 = .ok (.iconst 0, 1) := by decide +kernel
theorem dL_law_253 : decode cL_law 253 = .ok (.ireturn, 1) := by decide +kernel
theorem dL_law_254 : decode cL_law 254 = .ok (.aload_n 1, 1) := by decide +kernel
theorem dL_law_255 : decode cL_law 255 = .ok (.invokevirtual 22, 3) := by decide +kernel
theorem dL_law_258 : decode cL_law 258 = .ok (.aload_n 2, 1) := by decide +kernel
theorem dL_law_259 : decode cL_law 259 = .ok (.invokevirtual 26, 3) := by decide +kernel
theorem dL_law_262 : decode cL_law 262 = .ok (.if_icmp .eq 1101, 3) := by decide +kernel
theorem dL_law_265 : decode cL_law 265 = .ok (.iconst 0, 1) := by decide +kernel
theorem dL_law_266 : decode cL_law 266 = .ok (.ireturn, 1) := by decide +kernel
theorem dL_law_267 : decode cL_law 267 = .ok (.aload_n 1, 1) := by decide +kernel
theorem dL_law_268 : decode cL_law 268 = .ok (.invokevirtual 27, 3) := by decide +kernel
theorem dL_law_271 : decode cL_law 271 = .ok (.aload_n 2, 1) := by decide +kernel
theorem dL_law_272 : decode cL_law 272 = .ok (.invokevirtual 30, 3) := by decide +kernel
theorem dL_law_275 : decode cL_law 275 = .ok (.if_icmp .eq 1088, 3) := by decide +kernel
theorem dL_law_278 : decode cL_law 278 = .ok (.iconst 0, 1) := by decide +kernel
theorem dL_law_279 : decode cL_law 279 = .ok (.ireturn, 1) := by decide +kernel
theorem dL_law_280 : decode cL_law 280 = .ok (.aload_n 1, 1) := by decide +kernel
theorem dL_law_281 : decode cL_law 281 = .ok (.aload_n 0, 1) := by decide +kernel
theorem dL_law_282 : decode cL_law 282 = .ok (.iload_n 3, 1) := by decide +kernel
theorem dL_law_283 : decode cL_law 283 = .ok (.iconst 1, 1) := by decide +kernel
theorem dL_law_284 : decode cL_law 284 = .ok (.iadd, 1) := by decide +kernel
theorem dL_law_285 : decode cL_law 285 = .ok (.iaload, 1) := by decide +kernel
theorem dL_law_286 : decode cL_law 286 = .ok (.invokevirtual 31, 3) := by decide +kernel
theorem dL_law_289 : decode cL_law 289 = .ok (.aload_n 2, 1) := by decide +kernel
theorem dL_law_290 : decode cL_law 290 = .ok (.aload_n 0, 1) := by decide +kernel
theorem dL_law_291 : decode cL_law 291 = .ok (.iload_n 3, 1) := by decide +kernel
theorem dL_law_292 : decode cL_law 292 = .ok (.iconst 1, 1) := by decide +kernel
theorem dL_law_293 : decode cL_law 293 = .ok (.iadd, 1) := by decide +kernel
theorem dL_law_294 : decode cL_law 294 = .ok (.iaload, 1) := by decide +kernel
theorem dL_law_295 : decode cL_law 295 = .ok (.invokevirtual 34, 3) := by decide +kernel
theorem dL_law_298 : decode cL_law 298 = .ok (.if_icmp .eq 1065, 3) := by decide +kernel
theorem dL_law_301 : decode cL_law 301 = .ok (.iconst 0, 1) := by decide +kernel
theorem dL_law_302 : decode cL_law 302 = .ok (.ireturn, 1) := by decide +kernel
theorem dL_law_303 : decode cL_law 303 = .ok (.aload_n 1, 1) := by decide +kernel
theorem dL_law_304 : decode cL_law 304 = .ok (.aload_n 0, 1) := by decide +kernel
theorem dL_law_305 : decode cL_law 305 = .ok (.iload_n 3, 1) := by decide +kernel
theorem dL_law_306 : decode cL_law 306 = .ok (.iconst 1, 1) := by decide +kernel
theorem dL_law_307 : decode cL_law 307 = .ok (.iadd, 1) := by decide +kernel
theorem dL_law_308 : decode cL_law 308 = .ok (.iaload, 1) := by decide +kernel
theorem dL_law_309 : decode cL_law 309 = .ok (.aload_n 0, 1) := by decide +kernel
theorem dL_law_310 : decode cL_law 310 = .ok (.iload_n 3, 1) := by decide +kernel
theorem dL_law_311 : decode cL_law 311 = .ok (.iconst 2, 1) := by decide +kernel
theorem dL_law_312 : decode cL_law 312 = .ok (.iadd, 1) := by decide +kernel
theorem dL_law_313 : decode cL_law 313 = .ok (.iaload, 1) := by decide +kernel
theorem dL_law_314 : decode cL_law 314 = .ok (.invokevirtual 35, 3) := by decide +kernel
theorem dL_law_317 : decode cL_law 317 = .ok (.aload_n 2, 1) := by decide +kernel
theorem dL_law_318 : decode cL_law 318 = .ok (.aload_n 0, 1) := by decide +kernel
theorem dL_law_319 : decode cL_law 319 = .ok (.iload_n 3, 1) := by decide +kernel
theorem dL_law_320 : decode cL_law 320 = .ok (.iconst 1, 1) := by decide +kernel
theorem dL_law_321 : decode cL_law 321 = .ok (.iadd, 1) := by decide +kernel
theorem dL_law_322 : decode cL_law 322 = .ok (.iaload, 1) := by decide +kernel
theorem dL_law_323 : decode cL_law 323 = .ok (.aload_n 0, 1) := by decide +kernel
theorem dL_law_324 : decode cL_law 324 = .ok (.iload_n 3, 1) := by decide +kernel
theorem dL_law_325 : decode cL_law 325 = .ok (.iconst 2, 1) := by decide +kernel
theorem dL_law_326 : decode cL_law 326 = .ok (.iadd, 1) := by decide +kernel
theorem dL_law_327 : decode cL_law 327 = .ok (.iaload, 1) := by decide +kernel
theorem dL_law_328 : decode cL_law 328 = .ok (.invokevirtual 39, 3) := by decide +kernel
theorem dL_law_331 : decode cL_law 331 = .ok (.if_icmp .eq 1032, 3) := by decide +kernel
theorem dL_law_334 : decode cL_law 334 = .ok (.iconst 0, 1) := by decide +kernel
theorem dL_law_335 : decode cL_law 335 = .ok (.ireturn, 1) := by decide +kernel
theorem dL_law_336 : decode cL_law 336 = .ok (.aload_n 1, 1) := by decide +kernel
theorem dL_law_337 : decode cL_law 337 = .ok (.aload_n 0, 1) := by decide +kernel
theorem dL_law_338 : decode cL_law 338 = .ok (.iload_n 3, 1) := by decide +kernel
theorem dL_law_339 : decode cL_law 339 = .ok (.iconst 1, 1) := by decide +kernel
theorem dL_law_340 : decode cL_law 340 = .ok (.iadd, 1) := by decide +kernel
theorem dL_law_341 : decode cL_law 341 = .ok (.iaload, 1) := by decide +kernel
theorem dL_law_342 : decode cL_law 342 = .ok (.aload_n 0, 1) := by decide +kernel
theorem dL_law_343 : decode cL_law 343 = .ok (.iload_n 3, 1) := by decide +kernel
theorem dL_law_344 : decode cL_law 344 = .ok (.iconst 2, 1) := by decide +kernel
theorem dL_law_345 : decode cL_law 345 = .ok (.iadd, 1) := by decide +kernel
theorem dL_law_346 : decode cL_law 346 = .ok (.iaload, 1) := by decide +kernel
theorem dL_law_347 : decode cL_law 347 = .ok (.invokevirtual 40, 3) := by decide +kernel
theorem dL_law_350 : decode cL_law 350 = .ok (.aload_n 2, 1) := by decide +kernel
theorem dL_law_351 : decode cL_law 351 = .ok (.aload_n 0, 1) := by decide +kernel
theorem dL_law_352 : decode cL_law 352 = .ok (.iload_n 3, 1) := by decide +kernel
theorem dL_law_353 : decode cL_law 353 = .ok (.iconst 1, 1) := by decide +kernel
theorem dL_law_354 : decode cL_law 354 = .ok (.iadd, 1) := by decide +kernel
theorem dL_law_355 : decode cL_law 355 = .ok (.iaload, 1) := by decide +kernel
theorem dL_law_356 : decode cL_law 356 = .ok (.aload_n 0, 1) := by decide +kernel
theorem dL_law_357 : decode cL_law 357 = .ok (.iload_n 3, 1) := by decide +kernel
theorem dL_law_358 : decode cL_law 358 = .ok (.iconst 2, 1) := by decide +kernel
theorem dL_law_359 : decode cL_law 359 = .ok (.iadd, 1) := by decide +kernel
theorem dL_law_360 : decode cL_law 360 = .ok (.iaload, 1) := by decide +kernel
theorem dL_law_361 : decode cL_law 361 = .ok (.invokevirtual 43, 3) := by decide +kernel
theorem dL_law_364 : decode cL_law 364 = .ok (.if_icmp .eq 999, 3) := by decide +kernel
theorem dL_law_367 : decode cL_law 367 = .ok (.iconst 0, 1) := by decide +kernel
theorem dL_law_368 : decode cL_law 368 = .ok (.ireturn, 1) := by decide +kernel
theorem dL_law_369 : decode cL_law 369 = .ok (.aload_n 1, 1) := by decide +kernel
theorem dL_law_370 : decode cL_law 370 = .ok (.invokevirtual 44, 3) := by decide +kernel
theorem dL_law_373 : decode cL_law 373 = .ok (.aload_n 2, 1) := by decide +kernel
theorem dL_law_374 : decode cL_law 374 = .ok (.invokevirtual 47, 3) := by decide +kernel
theorem dL_law_377 : decode cL_law 377 = .ok (.if_icmp .eq 986, 3) := by decide +kernel
theorem dL_law_380 : decode cL_law 380 = .ok (.iconst 0, 1) := by decide +kernel
theorem dL_law_381 : decode cL_law 381 = .ok (.ireturn, 1) := by decide +kernel
theorem dL_law_382 : decode cL_law 382 = .ok (.aload_n 1, 1) := by decide +kernel
theorem dL_law_383 : decode cL_law 383 = .ok (.aload_n 0, 1) := by decide +kernel
theorem dL_law_384 : decode cL_law 384 = .ok (.iload_n 3, 1) := by decide +kernel
theorem dL_law_385 : decode cL_law 385 = .ok (.iconst 1, 1) := by decide +kernel
theorem dL_law_386 : decode cL_law 386 = .ok (.iadd, 1) := by decide +kernel
theorem dL_law_387 : decode cL_law 387 = .ok (.iaload, 1) := by decide +kernel
theorem dL_law_388 : decode cL_law 388 = .ok (.aload_n 0, 1) := by decide +kernel
theorem dL_law_389 : decode cL_law 389 = .ok (.iload_n 3, 1) := by decide +kernel
theorem dL_law_390 : decode cL_law 390 = .ok (.iconst 2, 1) := by decide +kernel
theorem dL_law_391 : decode cL_law 391 = .ok (.iadd, 1) := by decide +kernel
theorem dL_law_392 : decode cL_law 392 = .ok (.iaload, 1) := by decide +kernel
theorem dL_law_393 : decode cL_law 393 = .ok (.ifCond .eq 7, 3) := by decide +kernel
theorem dL_law_396 : decode cL_law 396 = .ok (.iconst 1, 1) := by decide +kernel
theorem dL_law_397 : decode cL_law 397 = .ok (.goto 4, 3) := by decide +kernel
theorem dL_law_400 : decode cL_law 400 = .ok (.iconst 0, 1) := by decide +kernel
theorem dL_law_401 : decode cL_law 401 = .ok (.invokevirtual 48, 3) := by decide +kernel
theorem dL_law_404 : decode cL_law 404 = .ok (.aload_n 2, 1) := by decide +kernel
theorem dL_law_405 : decode cL_law 405 = .ok (.aload_n 0, 1) := by decide +kernel
theorem dL_law_406 : decode cL_law 406 = .ok (.iload_n 3, 1) := by decide +kernel
theorem dL_law_407 : decode cL_law 407 = .ok (.iconst 1, 1) := by decide +kernel
theorem dL_law_408 : decode cL_law 408 = .ok (.iadd, 1) := by decide +kernel
theorem dL_law_409 : decode cL_law 409 = .ok (.iaload, 1) := by decide +kernel
theorem dL_law_410 : decode cL_law 410 = .ok (.aload_n 0, 1) := by decide +kernel
theorem dL_law_411 : decode cL_law 411 = .ok (.iload_n 3, 1) := by decide +kernel
theorem dL_law_412 : decode cL_law 412 = .ok (.iconst 2, 1) := by decide +kernel
theorem dL_law_413 : decode cL_law 413 = .ok (.iadd, 1) := by decide +kernel
theorem dL_law_414 : decode cL_law 414 = .ok (.iaload, 1) := by decide +kernel
theorem dL_law_415 : decode cL_law 415 = .ok (.ifCond .eq 7, 3) := by decide +kernel
theorem dL_law_418 : decode cL_law 418 = .ok (.iconst 1, 1) := by decide +kernel
theorem dL_law_419 : decode cL_law 419 = .ok (.goto 4, 3) := by decide +kernel
theorem dL_law_422 : decode cL_law 422 = .ok (.iconst 0, 1) := by decide +kernel
theorem dL_law_423 : decode cL_law 423 = .ok (.invokevirtual 52, 3) := by decide +kernel
theorem dL_law_426 : decode cL_law 426 = .ok (.if_icmp .eq 937, 3) := by decide +kernel
theorem dL_law_429 : decode cL_law 429 = .ok (.iconst 0, 1) := by decide +kernel
theorem dL_law_430 : decode cL_law 430 = .ok (.ireturn, 1) := by decide +kernel
theorem dL_law_431 : decode cL_law 431 = .ok (.aload_n 1, 1) := by decide +kernel
theorem dL_law_432 : decode cL_law 432 = .ok (.aload_n 0, 1) := by decide +kernel
theorem dL_law_433 : decode cL_law 433 = .ok (.iload_n 3, 1) := by decide +kernel
theorem dL_law_434 : decode cL_law 434 = .ok (.iconst 1, 1) := by decide +kernel
theorem dL_law_435 : decode cL_law 435 = .ok (.iadd, 1) := by decide +kernel
theorem dL_law_436 : decode cL_law 436 = .ok (.iaload, 1) := by decide +kernel
theorem dL_law_437 : decode cL_law 437 = .ok (.aload_n 0, 1) := by decide +kernel
theorem dL_law_438 : decode cL_law 438 = .ok (.iload_n 3, 1) := by decide +kernel
theorem dL_law_439 : decode cL_law 439 = .ok (.iconst 2, 1) := by decide +kernel
theorem dL_law_440 : decode cL_law 440 = .ok (.iadd, 1) := by decide +kernel
theorem dL_law_441 : decode cL_law 441 = .ok (.iaload, 1) := by decide +kernel
theorem dL_law_442 : decode cL_law 442 = .ok (.invokevirtual 53, 3) := by decide +kernel
theorem dL_law_445 : decode cL_law 445 = .ok (.aload_n 2, 1) := by decide +kernel
theorem dL_law_446 : decode cL_law 446 = .ok (.aload_n 0, 1) := by decide +kernel
theorem dL_law_447 : decode cL_law 447 = .ok (.iload_n 3, 1) := by decide +kernel
theorem dL_law_448 : decode cL_law 448 = .ok (.iconst 1, 1) := by decide +kernel
theorem dL_law_449 : decode cL_law 449 = .ok (.iadd, 1) := by decide +kernel
theorem dL_law_450 : decode cL_law 450 = .ok (.iaload, 1) := by decide +kernel
theorem dL_law_451 : decode cL_law 451 = .ok (.aload_n 0, 1) := by decide +kernel
theorem dL_law_452 : decode cL_law 452 = .ok (.iload_n 3, 1) := by decide +kernel
theorem dL_law_453 : decode cL_law 453 = .ok (.iconst 2, 1) := by decide +kernel
theorem dL_law_454 : decode cL_law 454 = .ok (.iadd, 1) := by decide +kernel
theorem dL_law_455 : decode cL_law 455 = .ok (.iaload, 1) := by decide +kernel
theorem dL_law_456 : decode cL_law 456 = .ok (.invokevirtual 56, 3) := by decide +kernel
theorem dL_law_459 : decode cL_law 459 = .ok (.if_icmp .eq 904, 3) := by decide +kernel
theorem dL_law_462 : decode cL_law 462 = .ok (.iconst 0, 1) := by decide +kernel
theorem dL_law_463 : decode cL_law 463 = .ok (.ireturn, 1) := by decide +kernel
theorem dL_law_464 : decode cL_law 464 = .ok (.aload_n 1, 1) := by decide +kernel
theorem dL_law_465 : decode cL_law 465 = .ok (.aload_n 0, 1) := by decide +kernel
theorem dL_law_466 : decode cL_law 466 = .ok (.iload_n 3, 1) := by decide +kernel
theorem dL_law_467 : decode cL_law 467 = .ok (.iconst 1, 1) := by decide +kernel
theorem dL_law_468 : decode cL_law 468 = .ok (.iadd, 1) := by decide +kernel
theorem dL_law_469 : decode cL_law 469 = .ok (.iaload, 1) := by decide +kernel
theorem dL_law_470 : decode cL_law 470 = .ok (.aload_n 0, 1) := by decide +kernel
theorem dL_law_471 : decode cL_law 471 = .ok (.iload_n 3, 1) := by decide +kernel
theorem dL_law_472 : decode cL_law 472 = .ok (.iconst 2, 1) := by decide +kernel
theorem dL_law_473 : decode cL_law 473 = .ok (.iadd, 1) := by decide +kernel
theorem dL_law_474 : decode cL_law 474 = .ok (.iaload, 1) := by decide +kernel
theorem dL_law_475 : decode cL_law 475 = .ok (.invokevirtual 57, 3) := by decide +kernel
theorem dL_law_478 : decode cL_law 478 = .ok (.aload_n 2, 1) := by decide +kernel
theorem dL_law_479 : decode cL_law 479 = .ok (.aload_n 0, 1) := by decide +kernel
theorem dL_law_480 : decode cL_law 480 = .ok (.iload_n 3, 1) := by decide +kernel
theorem dL_law_481 : decode cL_law 481 = .ok (.iconst 1, 1) := by decide +kernel
theorem dL_law_482 : decode cL_law 482 = .ok (.iadd, 1) := by decide +kernel
theorem dL_law_483 : decode cL_law 483 = .ok (.iaload, 1) := by decide +kernel
theorem dL_law_484 : decode cL_law 484 = .ok (.aload_n 0, 1) := by decide +kernel
theorem dL_law_485 : decode cL_law 485 = .ok (.iload_n 3, 1) := by decide +kernel
theorem dL_law_486 : decode cL_law 486 = .ok (.iconst 2, 1) := by decide +kernel
theorem dL_law_487 : decode cL_law 487 = .ok (.iadd, 1) := by decide +kernel
theorem dL_law_488 : decode cL_law 488 = .ok (.iaload, 1) := by decide +kernel
theorem dL_law_489 : decode cL_law 489 = .ok (.invokevirtual 60, 3) := by decide +kernel
theorem dL_law_492 : decode cL_law 492 = .ok (.if_icmp .eq 871, 3) := by decide +kernel
theorem dL_law_495 : decode cL_law 495 = .ok (.iconst 0, 1) := by decide +kernel
theorem dL_law_496 : decode cL_law 496 = .ok (.ireturn, 1) := by decide +kernel
theorem dL_law_497 : decode cL_law 497 = .ok (.aload_n 1, 1) := by decide +kernel
theorem dL_law_498 : decode cL_law 498 = .ok (.aload_n 0, 1) := by decide +kernel
theorem dL_law_499 : decode cL_law 499 = .ok (.iload_n 3, 1) := by decide +kernel
theorem dL_law_500 : decode cL_law 500 = .ok (.iconst 1, 1) := by decide +kernel
theorem dL_law_501 : decode cL_law 501 = .ok (.iadd, 1) := by decide +kernel
theorem dL_law_502 : decode cL_law 502 = .ok (.iaload, 1) := by decide +kernel
theorem dL_law_503 : decode cL_law 503 = .ok (.invokevirtual 61, 3) := by decide +kernel
theorem dL_law_506 : decode cL_law 506 = .ok (.aload_n 2, 1) := by decide +kernel
theorem dL_law_507 : decode cL_law 507 = .ok (.aload_n 0, 1) := by decide +kernel
theorem dL_law_508 : decode cL_law 508 = .ok (.iload_n 3, 1) := by decide +kernel
theorem dL_law_509 : decode cL_law 509 = .ok (.iconst 1, 1) := by decide +kernel
theorem dL_law_510 : decode cL_law 510 = .ok (.iadd, 1) := by decide +kernel
theorem dL_law_511 : decode cL_law 511 = .ok (.iaload, 1) := by decide +kernel
theorem dL_law_512 : decode cL_law 512 = .ok (.invokevirtual 64, 3) := by decide +kernel
theorem dL_law_515 : decode cL_law 515 = .ok (.if_icmp .eq 848, 3) := by decide +kernel
theorem dL_law_518 : decode cL_law 518 = .ok (.iconst 0, 1) := by decide +kernel
theorem dL_law_519 : decode cL_law 519 = .ok (.ireturn, 1) := by decide +kernel
theorem dL_law_520 : decode cL_law 520 = .ok (.aload_n 1, 1) := by decide +kernel
theorem dL_law_521 : decode cL_law 521 = .ok (.aload_n 0, 1) := by decide +kernel
theorem dL_law_522 : decode cL_law 522 = .ok (.iload_n 3, 1) := by decide +kernel
theorem dL_law_523 : decode cL_law 523 = .ok (.iconst 1, 1) := by decide +kernel
theorem dL_law_524 : decode cL_law 524 = .ok (.iadd, 1) := by decide +kernel
theorem dL_law_525 : decode cL_law 525 = .ok (.iaload, 1) := by decide +kernel
theorem dL_law_526 : decode cL_law 526 = .ok (.invokevirtual 65, 3) := by decide +kernel
theorem dL_law_529 : decode cL_law 529 = .ok (.aload_n 2, 1) := by decide +kernel
theorem dL_law_530 : decode cL_law 530 = .ok (.aload_n 0, 1) := by decide +kernel
theorem dL_law_531 : decode cL_law 531 = .ok (.iload_n 3, 1) := by decide +kernel
theorem dL_law_532 : decode cL_law 532 = .ok (.iconst 1, 1) := by decide +kernel
theorem dL_law_533 : decode cL_law 533 = .ok (.iadd, 1) := by decide +kernel
theorem dL_law_534 : decode cL_law 534 = .ok (.iaload, 1) := by decide +kernel
theorem dL_law_535 : decode cL_law 535 = .ok (.invokevirtual 68, 3) := by decide +kernel
theorem dL_law_538 : decode cL_law 538 = .ok (.if_icmp .eq 825, 3) := by decide +kernel
theorem dL_law_541 : decode cL_law 541 = .ok (.iconst 0, 1) := by decide +kernel
theorem dL_law_542 : decode cL_law 542 = .ok (.ireturn, 1) := by decide +kernel
theorem dL_law_543 : decode cL_law 543 = .ok (.aload_n 1, 1) := by decide +kernel
theorem dL_law_544 : decode cL_law 544 = .ok (.aload_n 0, 1) := by decide +kernel
theorem dL_law_545 : decode cL_law 545 = .ok (.iload_n 3, 1) := by decide +kernel
theorem dL_law_546 : decode cL_law 546 = .ok (.iconst 1, 1) := by decide +kernel
theorem dL_law_547 : decode cL_law 547 = .ok (.iadd, 1) := by decide +kernel
theorem dL_law_548 : decode cL_law 548 = .ok (.iaload, 1) := by decide +kernel
theorem dL_law_549 : decode cL_law 549 = .ok (.aload_n 0, 1) := by decide +kernel
theorem dL_law_550 : decode cL_law 550 = .ok (.iload_n 3, 1) := by decide +kernel
theorem dL_law_551 : decode cL_law 551 = .ok (.iconst 2, 1) := by decide +kernel
theorem dL_law_552 : decode cL_law 552 = .ok (.iadd, 1) := by decide +kernel
theorem dL_law_553 : decode cL_law 553 = .ok (.iaload, 1) := by decide +kernel
theorem dL_law_554 : decode cL_law 554 = .ok (.ifCond .eq 7, 3) := by decide +kernel
theorem dL_law_557 : decode cL_law 557 = .ok (.iconst 1, 1) := by decide +kernel
theorem dL_law_558 : decode cL_law 558 = .ok (.goto 4, 3) := by decide +kernel
theorem dL_law_561 : decode cL_law 561 = .ok (.iconst 0, 1) := by decide +kernel
theorem dL_law_562 : decode cL_law 562 = .ok (.invokevirtual 69, 3) := by decide +kernel
theorem dL_law_565 : decode cL_law 565 = .ok (.aload_n 2, 1) := by decide +kernel
theorem dL_law_566 : decode cL_law 566 = .ok (.aload_n 0, 1) := by decide +kernel
theorem dL_law_567 : decode cL_law 567 = .ok (.iload_n 3, 1) := by decide +kernel
theorem dL_law_568 : decode cL_law 568 = .ok (.iconst 1, 1) := by decide +kernel
theorem dL_law_569 : decode cL_law 569 = .ok (.iadd, 1) := by decide +kernel
theorem dL_law_570 : decode cL_law 570 = .ok (.iaload, 1) := by decide +kernel
theorem dL_law_571 : decode cL_law 571 = .ok (.aload_n 0, 1) := by decide +kernel
theorem dL_law_572 : decode cL_law 572 = .ok (.iload_n 3, 1) := by decide +kernel
theorem dL_law_573 : decode cL_law 573 = .ok (.iconst 2, 1) := by decide +kernel
theorem dL_law_574 : decode cL_law 574 = .ok (.iadd, 1) := by decide +kernel
theorem dL_law_575 : decode cL_law 575 = .ok (.iaload, 1) := by decide +kernel
theorem dL_law_576 : decode cL_law 576 = .ok (.ifCond .eq 7, 3) := by decide +kernel
theorem dL_law_579 : decode cL_law 579 = .ok (.iconst 1, 1) := by decide +kernel
theorem dL_law_580 : decode cL_law 580 = .ok (.goto 4, 3) := by decide +kernel
theorem dL_law_583 : decode cL_law 583 = .ok (.iconst 0, 1) := by decide +kernel
theorem dL_law_584 : decode cL_law 584 = .ok (.invokevirtual 72, 3) := by decide +kernel
theorem dL_law_587 : decode cL_law 587 = .ok (.if_icmp .eq 776, 3) := by decide +kernel
theorem dL_law_590 : decode cL_law 590 = .ok (.iconst 0, 1) := by decide +kernel
theorem dL_law_591 : decode cL_law 591 = .ok (.ireturn, 1) := by decide +kernel
theorem dL_law_592 : decode cL_law 592 = .ok (.aload_n 1, 1) := by decide +kernel
theorem dL_law_593 : decode cL_law 593 = .ok (.aload_n 0, 1) := by decide +kernel
theorem dL_law_594 : decode cL_law 594 = .ok (.iload_n 3, 1) := by decide +kernel
theorem dL_law_595 : decode cL_law 595 = .ok (.iconst 1, 1) := by decide +kernel
theorem dL_law_596 : decode cL_law 596 = .ok (.iadd, 1) := by decide +kernel
theorem dL_law_597 : decode cL_law 597 = .ok (.iaload, 1) := by decide +kernel
theorem dL_law_598 : decode cL_law 598 = .ok (.aload_n 0, 1) := by decide +kernel
theorem dL_law_599 : decode cL_law 599 = .ok (.iload_n 3, 1) := by decide +kernel
theorem dL_law_600 : decode cL_law 600 = .ok (.iconst 2, 1) := by decide +kernel
theorem dL_law_601 : decode cL_law 601 = .ok (.iadd, 1) := by decide +kernel
theorem dL_law_602 : decode cL_law 602 = .ok (.iaload, 1) := by decide +kernel
theorem dL_law_603 : decode cL_law 603 = .ok (.invokevirtual 73, 3) := by decide +kernel
theorem dL_law_606 : decode cL_law 606 = .ok (.aload_n 2, 1) := by decide +kernel
theorem dL_law_607 : decode cL_law 607 = .ok (.aload_n 0, 1) := by decide +kernel
theorem dL_law_608 : decode cL_law 608 = .ok (.iload_n 3, 1) := by decide +kernel
theorem dL_law_609 : decode cL_law 609 = .ok (.iconst 1, 1) := by decide +kernel
theorem dL_law_610 : decode cL_law 610 = .ok (.iadd, 1) := by decide +kernel
theorem dL_law_611 : decode cL_law 611 = .ok (.iaload, 1) := by decide +kernel
theorem dL_law_612 : decode cL_law 612 = .ok (.aload_n 0, 1) := by decide +kernel
theorem dL_law_613 : decode cL_law 613 = .ok (.iload_n 3, 1) := by decide +kernel
theorem dL_law_614 : decode cL_law 614 = .ok (.iconst 2, 1) := by decide +kernel
theorem dL_law_615 : decode cL_law 615 = .ok (.iadd, 1) := by decide +kernel
theorem dL_law_616 : decode cL_law 616 = .ok (.iaload, 1) := by decide +kernel
theorem dL_law_617 : decode cL_law 617 = .ok (.invokevirtual 76, 3) := by decide +kernel
theorem dL_law_620 : decode cL_law 620 = .ok (.if_icmp .eq 743, 3) := by decide +kernel
theorem dL_law_623 : decode cL_law 623 = .ok (.iconst 0, 1) := by decide +kernel
theorem dL_law_624 : decode cL_law 624 = .ok (.ireturn, 1) := by decide +kernel
theorem dL_law_625 : decode cL_law 625 = .ok (.aload_n 1, 1) := by decide +kernel
theorem dL_law_626 : decode cL_law 626 = .ok (.aload_n 0, 1) := by decide +kernel
theorem dL_law_627 : decode cL_law 627 = .ok (.iload_n 3, 1) := by decide +kernel
theorem dL_law_628 : decode cL_law 628 = .ok (.iconst 1, 1) := by decide +kernel
theorem dL_law_629 : decode cL_law 629 = .ok (.iadd, 1) := by decide +kernel
theorem dL_law_630 : decode cL_law 630 = .ok (.iaload, 1) := by decide +kernel
theorem dL_law_631 : decode cL_law 631 = .ok (.aload_n 0, 1) := by decide +kernel
theorem dL_law_632 : decode cL_law 632 = .ok (.iload_n 3, 1) := by decide +kernel
theorem dL_law_633 : decode cL_law 633 = .ok (.iconst 2, 1) := by decide +kernel
theorem dL_law_634 : decode cL_law 634 = .ok (.iadd, 1) := by decide +kernel
theorem dL_law_635 : decode cL_law 635 = .ok (.iaload, 1) := by decide +kernel
theorem dL_law_636 : decode cL_law 636 = .ok (.invokevirtual 77, 3) := by decide +kernel
theorem dL_law_639 : decode cL_law 639 = .ok (.aload_n 2, 1) := by decide +kernel
theorem dL_law_640 : decode cL_law 640 = .ok (.aload_n 0, 1) := by decide +kernel
theorem dL_law_641 : decode cL_law 641 = .ok (.iload_n 3, 1) := by decide +kernel
theorem dL_law_642 : decode cL_law 642 = .ok (.iconst 1, 1) := by decide +kernel
theorem dL_law_643 : decode cL_law 643 = .ok (.iadd, 1) := by decide +kernel
theorem dL_law_644 : decode cL_law 644 = .ok (.iaload, 1) := by decide +kernel
theorem dL_law_645 : decode cL_law 645 = .ok (.aload_n 0, 1) := by decide +kernel
theorem dL_law_646 : decode cL_law 646 = .ok (.iload_n 3, 1) := by decide +kernel
theorem dL_law_647 : decode cL_law 647 = .ok (.iconst 2, 1) := by decide +kernel
theorem dL_law_648 : decode cL_law 648 = .ok (.iadd, 1) := by decide +kernel
theorem dL_law_649 : decode cL_law 649 = .ok (.iaload, 1) := by decide +kernel
theorem dL_law_650 : decode cL_law 650 = .ok (.invokevirtual 80, 3) := by decide +kernel
theorem dL_law_653 : decode cL_law 653 = .ok (.if_icmp .eq 710, 3) := by decide +kernel
theorem dL_law_656 : decode cL_law 656 = .ok (.iconst 0, 1) := by decide +kernel
theorem dL_law_657 : decode cL_law 657 = .ok (.ireturn, 1) := by decide +kernel
theorem dL_law_658 : decode cL_law 658 = .ok (.aload_n 1, 1) := by decide +kernel
theorem dL_law_659 : decode cL_law 659 = .ok (.aload_n 0, 1) := by decide +kernel
theorem dL_law_660 : decode cL_law 660 = .ok (.iload_n 3, 1) := by decide +kernel
theorem dL_law_661 : decode cL_law 661 = .ok (.iconst 1, 1) := by decide +kernel
theorem dL_law_662 : decode cL_law 662 = .ok (.iadd, 1) := by decide +kernel
theorem dL_law_663 : decode cL_law 663 = .ok (.iaload, 1) := by decide +kernel
theorem dL_law_664 : decode cL_law 664 = .ok (.invokevirtual 81, 3) := by decide +kernel
theorem dL_law_667 : decode cL_law 667 = .ok (.aload_n 2, 1) := by decide +kernel
theorem dL_law_668 : decode cL_law 668 = .ok (.aload_n 0, 1) := by decide +kernel
theorem dL_law_669 : decode cL_law 669 = .ok (.iload_n 3, 1) := by decide +kernel
theorem dL_law_670 : decode cL_law 670 = .ok (.iconst 1, 1) := by decide +kernel
theorem dL_law_671 : decode cL_law 671 = .ok (.iadd, 1) := by decide +kernel
theorem dL_law_672 : decode cL_law 672 = .ok (.iaload, 1) := by decide +kernel
theorem dL_law_673 : decode cL_law 673 = .ok (.invokevirtual 84, 3) := by decide +kernel
theorem dL_law_676 : decode cL_law 676 = .ok (.if_icmp .eq 687, 3) := by decide +kernel
theorem dL_law_679 : decode cL_law 679 = .ok (.iconst 0, 1) := by decide +kernel
theorem dL_law_680 : decode cL_law 680 = .ok (.ireturn, 1) := by decide +kernel
theorem dL_law_681 : decode cL_law 681 = .ok (.aload_n 1, 1) := by decide +kernel
theorem dL_law_682 : decode cL_law 682 = .ok (.aload_n 0, 1) := by decide +kernel
theorem dL_law_683 : decode cL_law 683 = .ok (.iload_n 3, 1) := by decide +kernel
theorem dL_law_684 : decode cL_law 684 = .ok (.iconst 1, 1) := by decide +kernel
theorem dL_law_685 : decode cL_law 685 = .ok (.iadd, 1) := by decide +kernel
theorem dL_law_686 : decode cL_law 686 = .ok (.iaload, 1) := by decide +kernel
theorem dL_law_687 : decode cL_law 687 = .ok (.aload_n 0, 1) := by decide +kernel
theorem dL_law_688 : decode cL_law 688 = .ok (.iload_n 3, 1) := by decide +kernel
theorem dL_law_689 : decode cL_law 689 = .ok (.iconst 2, 1) := by decide +kernel
theorem dL_law_690 : decode cL_law 690 = .ok (.iadd, 1) := by decide +kernel
theorem dL_law_691 : decode cL_law 691 = .ok (.iaload, 1) := by decide +kernel
theorem dL_law_692 : decode cL_law 692 = .ok (.invokevirtual 85, 3) := by decide +kernel
theorem dL_law_695 : decode cL_law 695 = .ok (.aload_n 2, 1) := by decide +kernel
theorem dL_law_696 : decode cL_law 696 = .ok (.aload_n 0, 1) := by decide +kernel
theorem dL_law_697 : decode cL_law 697 = .ok (.iload_n 3, 1) := by decide +kernel
theorem dL_law_698 : decode cL_law 698 = .ok (.iconst 1, 1) := by decide +kernel
theorem dL_law_699 : decode cL_law 699 = .ok (.iadd, 1) := by decide +kernel
theorem dL_law_700 : decode cL_law 700 = .ok (.iaload, 1) := by decide +kernel
theorem dL_law_701 : decode cL_law 701 = .ok (.aload_n 0, 1) := by decide +kernel
theorem dL_law_702 : decode cL_law 702 = .ok (.iload_n 3, 1) := by decide +kernel
theorem dL_law_703 : decode cL_law 703 = .ok (.iconst 2, 1) := by decide +kernel
theorem dL_law_704 : decode cL_law 704 = .ok (.iadd, 1) := by decide +kernel
theorem dL_law_705 : decode cL_law 705 = .ok (.iaload, 1) := by decide +kernel
theorem dL_law_706 : decode cL_law 706 = .ok (.invokevirtual 88, 3) := by decide +kernel
theorem dL_law_709 : decode cL_law 709 = .ok (.if_icmp .eq 654, 3) := by decide +kernel
theorem dL_law_712 : decode cL_law 712 = .ok (.iconst 0, 1) := by decide +kernel
theorem dL_law_713 : decode cL_law 713 = .ok (.ireturn, 1) := by decide +kernel
theorem dL_law_714 : decode cL_law 714 = .ok (.aload_n 1, 1) := by decide +kernel
theorem dL_law_715 : decode cL_law 715 = .ok (.aload_n 0, 1) := by decide +kernel
theorem dL_law_716 : decode cL_law 716 = .ok (.iload_n 3, 1) := by decide +kernel
theorem dL_law_717 : decode cL_law 717 = .ok (.iconst 1, 1) := by decide +kernel
theorem dL_law_718 : decode cL_law 718 = .ok (.iadd, 1) := by decide +kernel
theorem dL_law_719 : decode cL_law 719 = .ok (.iaload, 1) := by decide +kernel
theorem dL_law_720 : decode cL_law 720 = .ok (.invokevirtual 89, 3) := by decide +kernel
theorem dL_law_723 : decode cL_law 723 = .ok (.aload_n 2, 1) := by decide +kernel
theorem dL_law_724 : decode cL_law 724 = .ok (.aload_n 0, 1) := by decide +kernel
theorem dL_law_725 : decode cL_law 725 = .ok (.iload_n 3, 1) := by decide +kernel
theorem dL_law_726 : decode cL_law 726 = .ok (.iconst 1, 1) := by decide +kernel
theorem dL_law_727 : decode cL_law 727 = .ok (.iadd, 1) := by decide +kernel
theorem dL_law_728 : decode cL_law 728 = .ok (.iaload, 1) := by decide +kernel
theorem dL_law_729 : decode cL_law 729 = .ok (.invokevirtual 92, 3) := by decide +kernel
theorem dL_law_732 : decode cL_law 732 = .ok (.if_icmp .eq 631, 3) := by decide +kernel
theorem dL_law_735 : decode cL_law 735 = .ok (.iconst 0, 1) := by decide +kernel
theorem dL_law_736 : decode cL_law 736 = .ok (.ireturn, 1) := by decide +kernel
theorem dL_law_737 : decode cL_law 737 = .ok (.aload_n 1, 1) := by decide +kernel
theorem dL_law_738 : decode cL_law 738 = .ok (.aload_n 0, 1) := by decide +kernel
theorem dL_law_739 : decode cL_law 739 = .ok (.iload_n 3, 1) := by decide +kernel
theorem dL_law_740 : decode cL_law 740 = .ok (.iconst 1, 1) := by decide +kernel
theorem dL_law_741 : decode cL_law 741 = .ok (.iadd, 1) := by decide +kernel
theorem dL_law_742 : decode cL_law 742 = .ok (.iaload, 1) := by decide +kernel
theorem dL_law_743 : decode cL_law 743 = .ok (.aload_n 0, 1) := by decide +kernel
theorem dL_law_744 : decode cL_law 744 = .ok (.iload_n 3, 1) := by decide +kernel
theorem dL_law_745 : decode cL_law 745 = .ok (.iconst 2, 1) := by decide +kernel
theorem dL_law_746 : decode cL_law 746 = .ok (.iadd, 1) := by decide +kernel
theorem dL_law_747 : decode cL_law 747 = .ok (.iaload, 1) := by decide +kernel
theorem dL_law_748 : decode cL_law 748 = .ok (.invokevirtual 93, 3) := by decide +kernel
theorem dL_law_751 : decode cL_law 751 = .ok (.aload_n 2, 1) := by decide +kernel
theorem dL_law_752 : decode cL_law 752 = .ok (.aload_n 0, 1) := by decide +kernel
theorem dL_law_753 : decode cL_law 753 = .ok (.iload_n 3, 1) := by decide +kernel
theorem dL_law_754 : decode cL_law 754 = .ok (.iconst 1, 1) := by decide +kernel
theorem dL_law_755 : decode cL_law 755 = .ok (.iadd, 1) := by decide +kernel
theorem dL_law_756 : decode cL_law 756 = .ok (.iaload, 1) := by decide +kernel
theorem dL_law_757 : decode cL_law 757 = .ok (.aload_n 0, 1) := by decide +kernel
theorem dL_law_758 : decode cL_law 758 = .ok (.iload_n 3, 1) := by decide +kernel
theorem dL_law_759 : decode cL_law 759 = .ok (.iconst 2, 1) := by decide +kernel
theorem dL_law_760 : decode cL_law 760 = .ok (.iadd, 1) := by decide +kernel
theorem dL_law_761 : decode cL_law 761 = .ok (.iaload, 1) := by decide +kernel
theorem dL_law_762 : decode cL_law 762 = .ok (.invokevirtual 96, 3) := by decide +kernel
theorem dL_law_765 : decode cL_law 765 = .ok (.if_icmp .eq 598, 3) := by decide +kernel
theorem dL_law_768 : decode cL_law 768 = .ok (.iconst 0, 1) := by decide +kernel
theorem dL_law_769 : decode cL_law 769 = .ok (.ireturn, 1) := by decide +kernel
theorem dL_law_770 : decode cL_law 770 = .ok (.aload_n 1, 1) := by decide +kernel
theorem dL_law_771 : decode cL_law 771 = .ok (.aload_n 0, 1) := by decide +kernel
theorem dL_law_772 : decode cL_law 772 = .ok (.iload_n 3, 1) := by decide +kernel
theorem dL_law_773 : decode cL_law 773 = .ok (.iconst 1, 1) := by decide +kernel
theorem dL_law_774 : decode cL_law 774 = .ok (.iadd, 1) := by decide +kernel
theorem dL_law_775 : decode cL_law 775 = .ok (.iaload, 1) := by decide +kernel
theorem dL_law_776 : decode cL_law 776 = .ok (.invokevirtual 97, 3) := by decide +kernel
theorem dL_law_779 : decode cL_law 779 = .ok (.aload_n 2, 1) := by decide +kernel
theorem dL_law_780 : decode cL_law 780 = .ok (.aload_n 0, 1) := by decide +kernel
theorem dL_law_781 : decode cL_law 781 = .ok (.iload_n 3, 1) := by decide +kernel
theorem dL_law_782 : decode cL_law 782 = .ok (.iconst 1, 1) := by decide +kernel
theorem dL_law_783 : decode cL_law 783 = .ok (.iadd, 1) := by decide +kernel
theorem dL_law_784 : decode cL_law 784 = .ok (.iaload, 1) := by decide +kernel
theorem dL_law_785 : decode cL_law 785 = .ok (.invokevirtual 100, 3) := by decide +kernel
theorem dL_law_788 : decode cL_law 788 = .ok (.if_icmp .eq 575, 3) := by decide +kernel
theorem dL_law_791 : decode cL_law 791 = .ok (.iconst 0, 1) := by decide +kernel
theorem dL_law_792 : decode cL_law 792 = .ok (.ireturn, 1) := by decide +kernel
theorem dL_law_793 : decode cL_law 793 = .ok (.aload_n 1, 1) := by decide +kernel
theorem dL_law_794 : decode cL_law 794 = .ok (.aload_n 0, 1) := by decide +kernel
theorem dL_law_795 : decode cL_law 795 = .ok (.iload_n 3, 1) := by decide +kernel
theorem dL_law_796 : decode cL_law 796 = .ok (.iconst 1, 1) := by decide +kernel
theorem dL_law_797 : decode cL_law 797 = .ok (.iadd, 1) := by decide +kernel
theorem dL_law_798 : decode cL_law 798 = .ok (.iaload, 1) := by decide +kernel
theorem dL_law_799 : decode cL_law 799 = .ok (.invokevirtual 101, 3) := by decide +kernel
theorem dL_law_802 : decode cL_law 802 = .ok (.aload_n 2, 1) := by decide +kernel
theorem dL_law_803 : decode cL_law 803 = .ok (.aload_n 0, 1) := by decide +kernel
theorem dL_law_804 : decode cL_law 804 = .ok (.iload_n 3, 1) := by decide +kernel
theorem dL_law_805 : decode cL_law 805 = .ok (.iconst 1, 1) := by decide +kernel
theorem dL_law_806 : decode cL_law 806 = .ok (.iadd, 1) := by decide +kernel
theorem dL_law_807 : decode cL_law 807 = .ok (.iaload, 1) := by decide +kernel
theorem dL_law_808 : decode cL_law 808 = .ok (.invokevirtual 104, 3) := by decide +kernel
theorem dL_law_811 : decode cL_law 811 = .ok (.if_icmp .eq 552, 3) := by decide +kernel
theorem dL_law_814 : decode cL_law 814 = .ok (.iconst 0, 1) := by decide +kernel
theorem dL_law_815 : decode cL_law 815 = .ok (.ireturn, 1) := by decide +kernel
theorem dL_law_816 : decode cL_law 816 = .ok (.aload_n 1, 1) := by decide +kernel
theorem dL_law_817 : decode cL_law 817 = .ok (.invokevirtual 105, 3) := by decide +kernel
theorem dL_law_820 : decode cL_law 820 = .ok (.aload_n 2, 1) := by decide +kernel
theorem dL_law_821 : decode cL_law 821 = .ok (.invokevirtual 108, 3) := by decide +kernel
theorem dL_law_824 : decode cL_law 824 = .ok (.if_icmp .eq 539, 3) := by decide +kernel
theorem dL_law_827 : decode cL_law 827 = .ok (.iconst 0, 1) := by decide +kernel
theorem dL_law_828 : decode cL_law 828 = .ok (.ireturn, 1) := by decide +kernel
theorem dL_law_829 : decode cL_law 829 = .ok (.aload_n 1, 1) := by decide +kernel
theorem dL_law_830 : decode cL_law 830 = .ok (.aload_n 0, 1) := by decide +kernel
theorem dL_law_831 : decode cL_law 831 = .ok (.iload_n 3, 1) := by decide +kernel
theorem dL_law_832 : decode cL_law 832 = .ok (.iconst 1, 1) := by decide +kernel
theorem dL_law_833 : decode cL_law 833 = .ok (.iadd, 1) := by decide +kernel
theorem dL_law_834 : decode cL_law 834 = .ok (.iaload, 1) := by decide +kernel
theorem dL_law_835 : decode cL_law 835 = .ok (.invokevirtual 109, 3) := by decide +kernel
theorem dL_law_838 : decode cL_law 838 = .ok (.aload_n 2, 1) := by decide +kernel
theorem dL_law_839 : decode cL_law 839 = .ok (.aload_n 0, 1) := by decide +kernel
theorem dL_law_840 : decode cL_law 840 = .ok (.iload_n 3, 1) := by decide +kernel
theorem dL_law_841 : decode cL_law 841 = .ok (.iconst 1, 1) := by decide +kernel
theorem dL_law_842 : decode cL_law 842 = .ok (.iadd, 1) := by decide +kernel
theorem dL_law_843 : decode cL_law 843 = .ok (.iaload, 1) := by decide +kernel
theorem dL_law_844 : decode cL_law 844 = .ok (.invokevirtual 112, 3) := by decide +kernel
theorem dL_law_847 : decode cL_law 847 = .ok (.if_icmp .eq 516, 3) := by decide +kernel
theorem dL_law_850 : decode cL_law 850 = .ok (.iconst 0, 1) := by decide +kernel
theorem dL_law_851 : decode cL_law 851 = .ok (.ireturn, 1) := by decide +kernel
theorem dL_law_852 : decode cL_law 852 = .ok (.aload_n 1, 1) := by decide +kernel
theorem dL_law_853 : decode cL_law 853 = .ok (.aload_n 0, 1) := by decide +kernel
theorem dL_law_854 : decode cL_law 854 = .ok (.iload_n 3, 1) := by decide +kernel
theorem dL_law_855 : decode cL_law 855 = .ok (.iconst 1, 1) := by decide +kernel
theorem dL_law_856 : decode cL_law 856 = .ok (.iadd, 1) := by decide +kernel
theorem dL_law_857 : decode cL_law 857 = .ok (.iaload, 1) := by decide +kernel
theorem dL_law_858 : decode cL_law 858 = .ok (.aload_n 0, 1) := by decide +kernel
theorem dL_law_859 : decode cL_law 859 = .ok (.iload_n 3, 1) := by decide +kernel
theorem dL_law_860 : decode cL_law 860 = .ok (.iconst 2, 1) := by decide +kernel
theorem dL_law_861 : decode cL_law 861 = .ok (.iadd, 1) := by decide +kernel
theorem dL_law_862 : decode cL_law 862 = .ok (.iaload, 1) := by decide +kernel
theorem dL_law_863 : decode cL_law 863 = .ok (.invokevirtual 113, 3) := by decide +kernel
theorem dL_law_866 : decode cL_law 866 = .ok (.aload_n 2, 1) := by decide +kernel
theorem dL_law_867 : decode cL_law 867 = .ok (.aload_n 0, 1) := by decide +kernel
theorem dL_law_868 : decode cL_law 868 = .ok (.iload_n 3, 1) := by decide +kernel
theorem dL_law_869 : decode cL_law 869 = .ok (.iconst 1, 1) := by decide +kernel
theorem dL_law_870 : decode cL_law 870 = .ok (.iadd, 1) := by decide +kernel
theorem dL_law_871 : decode cL_law 871 = .ok (.iaload, 1) := by decide +kernel
theorem dL_law_872 : decode cL_law 872 = .ok (.aload_n 0, 1) := by decide +kernel
theorem dL_law_873 : decode cL_law 873 = .ok (.iload_n 3, 1) := by decide +kernel
theorem dL_law_874 : decode cL_law 874 = .ok (.iconst 2, 1) := by decide +kernel
theorem dL_law_875 : decode cL_law 875 = .ok (.iadd, 1) := by decide +kernel
theorem dL_law_876 : decode cL_law 876 = .ok (.iaload, 1) := by decide +kernel
theorem dL_law_877 : decode cL_law 877 = .ok (.invokevirtual 116, 3) := by decide +kernel
theorem dL_law_880 : decode cL_law 880 = .ok (.if_icmp .eq 483, 3) := by decide +kernel
theorem dL_law_883 : decode cL_law 883 = .ok (.iconst 0, 1) := by decide +kernel
theorem dL_law_884 : decode cL_law 884 = .ok (.ireturn, 1) := by decide +kernel
theorem dL_law_885 : decode cL_law 885 = .ok (.aload_n 1, 1) := by decide +kernel
theorem dL_law_886 : decode cL_law 886 = .ok (.aload_n 0, 1) := by decide +kernel
theorem dL_law_887 : decode cL_law 887 = .ok (.iload_n 3, 1) := by decide +kernel
theorem dL_law_888 : decode cL_law 888 = .ok (.iconst 1, 1) := by decide +kernel
theorem dL_law_889 : decode cL_law 889 = .ok (.iadd, 1) := by decide +kernel
theorem dL_law_890 : decode cL_law 890 = .ok (.iaload, 1) := by decide +kernel
theorem dL_law_891 : decode cL_law 891 = .ok (.aload_n 0, 1) := by decide +kernel
theorem dL_law_892 : decode cL_law 892 = .ok (.iload_n 3, 1) := by decide +kernel
theorem dL_law_893 : decode cL_law 893 = .ok (.iconst 2, 1) := by decide +kernel
theorem dL_law_894 : decode cL_law 894 = .ok (.iadd, 1) := by decide +kernel
theorem dL_law_895 : decode cL_law 895 = .ok (.iaload, 1) := by decide +kernel
theorem dL_law_896 : decode cL_law 896 = .ok (.aload_n 0, 1) := by decide +kernel
theorem dL_law_897 : decode cL_law 897 = .ok (.iload_n 3, 1) := by decide +kernel
theorem dL_law_898 : decode cL_law 898 = .ok (.iconst 3, 1) := by decide +kernel
theorem dL_law_899 : decode cL_law 899 = .ok (.iadd, 1) := by decide +kernel
theorem dL_law_900 : decode cL_law 900 = .ok (.iaload, 1) := by decide +kernel
theorem dL_law_901 : decode cL_law 901 = .ok (.invokevirtual 117, 3) := by decide +kernel
theorem dL_law_904 : decode cL_law 904 = .ok (.aload_n 2, 1) := by decide +kernel
theorem dL_law_905 : decode cL_law 905 = .ok (.aload_n 0, 1) := by decide +kernel
theorem dL_law_906 : decode cL_law 906 = .ok (.iload_n 3, 1) := by decide +kernel
theorem dL_law_907 : decode cL_law 907 = .ok (.iconst 1, 1) := by decide +kernel
theorem dL_law_908 : decode cL_law 908 = .ok (.iadd, 1) := by decide +kernel
theorem dL_law_909 : decode cL_law 909 = .ok (.iaload, 1) := by decide +kernel
theorem dL_law_910 : decode cL_law 910 = .ok (.aload_n 0, 1) := by decide +kernel
theorem dL_law_911 : decode cL_law 911 = .ok (.iload_n 3, 1) := by decide +kernel
theorem dL_law_912 : decode cL_law 912 = .ok (.iconst 2, 1) := by decide +kernel
theorem dL_law_913 : decode cL_law 913 = .ok (.iadd, 1) := by decide +kernel
theorem dL_law_914 : decode cL_law 914 = .ok (.iaload, 1) := by decide +kernel
theorem dL_law_915 : decode cL_law 915 = .ok (.aload_n 0, 1) := by decide +kernel
theorem dL_law_916 : decode cL_law 916 = .ok (.iload_n 3, 1) := by decide +kernel
theorem dL_law_917 : decode cL_law 917 = .ok (.iconst 3, 1) := by decide +kernel
theorem dL_law_918 : decode cL_law 918 = .ok (.iadd, 1) := by decide +kernel
theorem dL_law_919 : decode cL_law 919 = .ok (.iaload, 1) := by decide +kernel
theorem dL_law_920 : decode cL_law 920 = .ok (.invokevirtual 121, 3) := by decide +kernel
theorem dL_law_923 : decode cL_law 923 = .ok (.lcmp, 1) := by decide +kernel
theorem dL_law_924 : decode cL_law 924 = .ok (.ifCond .eq 439, 3) := by decide +kernel
theorem dL_law_927 : decode cL_law 927 = .ok (.iconst 0, 1) := by decide +kernel
theorem dL_law_928 : decode cL_law 928 = .ok (.ireturn, 1) := by decide +kernel
theorem dL_law_929 : decode cL_law 929 = .ok (.aload_n 1, 1) := by decide +kernel
theorem dL_law_930 : decode cL_law 930 = .ok (.aload_n 0, 1) := by decide +kernel
theorem dL_law_931 : decode cL_law 931 = .ok (.iload_n 3, 1) := by decide +kernel
theorem dL_law_932 : decode cL_law 932 = .ok (.iconst 1, 1) := by decide +kernel
theorem dL_law_933 : decode cL_law 933 = .ok (.iadd, 1) := by decide +kernel
theorem dL_law_934 : decode cL_law 934 = .ok (.iaload, 1) := by decide +kernel
theorem dL_law_935 : decode cL_law 935 = .ok (.aload_n 0, 1) := by decide +kernel
theorem dL_law_936 : decode cL_law 936 = .ok (.iload_n 3, 1) := by decide +kernel
theorem dL_law_937 : decode cL_law 937 = .ok (.iconst 2, 1) := by decide +kernel
theorem dL_law_938 : decode cL_law 938 = .ok (.iadd, 1) := by decide +kernel
theorem dL_law_939 : decode cL_law 939 = .ok (.iaload, 1) := by decide +kernel
theorem dL_law_940 : decode cL_law 940 = .ok (.invokevirtual 122, 3) := by decide +kernel
theorem dL_law_943 : decode cL_law 943 = .ok (.aload_n 2, 1) := by decide +kernel
theorem dL_law_944 : decode cL_law 944 = .ok (.aload_n 0, 1) := by decide +kernel
theorem dL_law_945 : decode cL_law 945 = .ok (.iload_n 3, 1) := by decide +kernel
theorem dL_law_946 : decode cL_law 946 = .ok (.iconst 1, 1) := by decide +kernel
theorem dL_law_947 : decode cL_law 947 = .ok (.iadd, 1) := by decide +kernel
theorem dL_law_948 : decode cL_law 948 = .ok (.iaload, 1) := by decide +kernel
theorem dL_law_949 : decode cL_law 949 = .ok (.aload_n 0, 1) := by decide +kernel
theorem dL_law_950 : decode cL_law 950 = .ok (.iload_n 3, 1) := by decide +kernel
theorem dL_law_951 : decode cL_law 951 = .ok (.iconst 2, 1) := by decide +kernel
theorem dL_law_952 : decode cL_law 952 = .ok (.iadd, 1) := by decide +kernel
theorem dL_law_953 : decode cL_law 953 = .ok (.iaload, 1) := by decide +kernel
theorem dL_law_954 : decode cL_law 954 = .ok (.invokevirtual 126, 3) := by decide +kernel
theorem dL_law_957 : decode cL_law 957 = .ok (.lcmp, 1) := by decide +kernel
theorem dL_law_958 : decode cL_law 958 = .ok (.ifCond .eq 405, 3) := by decide +kernel
theorem dL_law_961 : decode cL_law 961 = .ok (.iconst 0, 1) := by decide +kernel
theorem dL_law_962 : decode cL_law 962 = .ok (.ireturn, 1) := by decide +kernel
theorem dL_law_963 : decode cL_law 963 = .ok (.aload_n 1, 1) := by decide +kernel
theorem dL_law_964 : decode cL_law 964 = .ok (.aload_n 0, 1) := by decide +kernel
theorem dL_law_965 : decode cL_law 965 = .ok (.iload_n 3, 1) := by decide +kernel
theorem dL_law_966 : decode cL_law 966 = .ok (.iconst 1, 1) := by decide +kernel
theorem dL_law_967 : decode cL_law 967 = .ok (.iadd, 1) := by decide +kernel
theorem dL_law_968 : decode cL_law 968 = .ok (.iaload, 1) := by decide +kernel
theorem dL_law_969 : decode cL_law 969 = .ok (.aload_n 0, 1) := by decide +kernel
theorem dL_law_970 : decode cL_law 970 = .ok (.iload_n 3, 1) := by decide +kernel
theorem dL_law_971 : decode cL_law 971 = .ok (.iconst 2, 1) := by decide +kernel
theorem dL_law_972 : decode cL_law 972 = .ok (.iadd, 1) := by decide +kernel
theorem dL_law_973 : decode cL_law 973 = .ok (.iaload, 1) := by decide +kernel
theorem dL_law_974 : decode cL_law 974 = .ok (.invokevirtual 127, 3) := by decide +kernel
theorem dL_law_977 : decode cL_law 977 = .ok (.aload_n 2, 1) := by decide +kernel
theorem dL_law_978 : decode cL_law 978 = .ok (.aload_n 0, 1) := by decide +kernel
theorem dL_law_979 : decode cL_law 979 = .ok (.iload_n 3, 1) := by decide +kernel
theorem dL_law_980 : decode cL_law 980 = .ok (.iconst 1, 1) := by decide +kernel
theorem dL_law_981 : decode cL_law 981 = .ok (.iadd, 1) := by decide +kernel
theorem dL_law_982 : decode cL_law 982 = .ok (.iaload, 1) := by decide +kernel
theorem dL_law_983 : decode cL_law 983 = .ok (.aload_n 0, 1) := by decide +kernel
theorem dL_law_984 : decode cL_law 984 = .ok (.iload_n 3, 1) := by decide +kernel
theorem dL_law_985 : decode cL_law 985 = .ok (.iconst 2, 1) := by decide +kernel
theorem dL_law_986 : decode cL_law 986 = .ok (.iadd, 1) := by decide +kernel
theorem dL_law_987 : decode cL_law 987 = .ok (.iaload, 1) := by decide +kernel
theorem dL_law_988 : decode cL_law 988 = .ok (.invokevirtual 130, 3) := by decide +kernel
theorem dL_law_991 : decode cL_law 991 = .ok (.lcmp, 1) := by decide +kernel
theorem dL_law_992 : decode cL_law 992 = .ok (.ifCond .eq 371, 3) := by decide +kernel
theorem dL_law_995 : decode cL_law 995 = .ok (.iconst 0, 1) := by decide +kernel
theorem dL_law_996 : decode cL_law 996 = .ok (.ireturn, 1) := by decide +kernel
theorem dL_law_997 : decode cL_law 997 = .ok (.aload_n 1, 1) := by decide +kernel
theorem dL_law_998 : decode cL_law 998 = .ok (.aload_n 0, 1) := by decide +kernel
theorem dL_law_999 : decode cL_law 999 = .ok (.iload_n 3, 1) := by decide +kernel
theorem dL_law_1000 : decode cL_law 1000 = .ok (.iconst 1, 1) := by decide +kernel
theorem dL_law_1001 : decode cL_law 1001 = .ok (.iadd, 1) := by decide +kernel
theorem dL_law_1002 : decode cL_law 1002 = .ok (.iaload, 1) := by decide +kernel
theorem dL_law_1003 : decode cL_law 1003 = .ok (.aload_n 0, 1) := by decide +kernel
theorem dL_law_1004 : decode cL_law 1004 = .ok (.iload_n 3, 1) := by decide +kernel
theorem dL_law_1005 : decode cL_law 1005 = .ok (.iconst 2, 1) := by decide +kernel
theorem dL_law_1006 : decode cL_law 1006 = .ok (.iadd, 1) := by decide +kernel
theorem dL_law_1007 : decode cL_law 1007 = .ok (.iaload, 1) := by decide +kernel
theorem dL_law_1008 : decode cL_law 1008 = .ok (.invokevirtual 131, 3) := by decide +kernel
theorem dL_law_1011 : decode cL_law 1011 = .ok (.aload_n 2, 1) := by decide +kernel
theorem dL_law_1012 : decode cL_law 1012 = .ok (.aload_n 0, 1) := by decide +kernel
theorem dL_law_1013 : decode cL_law 1013 = .ok (.iload_n 3, 1) := by decide +kernel
theorem dL_law_1014 : decode cL_law 1014 = .ok (.iconst 1, 1) := by decide +kernel
theorem dL_law_1015 : decode cL_law 1015 = .ok (.iadd, 1) := by decide +kernel
theorem dL_law_1016 : decode cL_law 1016 = .ok (.iaload, 1) := by decide +kernel
theorem dL_law_1017 : decode cL_law 1017 = .ok (.aload_n 0, 1) := by decide +kernel
theorem dL_law_1018 : decode cL_law 1018 = .ok (.iload_n 3, 1) := by decide +kernel
theorem dL_law_1019 : decode cL_law 1019 = .ok (.iconst 2, 1) := by decide +kernel
theorem dL_law_1020 : decode cL_law 1020 = .ok (.iadd, 1) := by decide +kernel
theorem dL_law_1021 : decode cL_law 1021 = .ok (.iaload, 1) := by decide +kernel
theorem dL_law_1022 : decode cL_law 1022 = .ok (.invokevirtual 134, 3) := by decide +kernel
theorem dL_law_1025 : decode cL_law 1025 = .ok (.if_icmp .eq 338, 3) := by decide +kernel
theorem dL_law_1028 : decode cL_law 1028 = .ok (.iconst 0, 1) := by decide +kernel
theorem dL_law_1029 : decode cL_law 1029 = .ok (.ireturn, 1) := by decide +kernel
theorem dL_law_1030 : decode cL_law 1030 = .ok (.aload_n 1, 1) := by decide +kernel
theorem dL_law_1031 : decode cL_law 1031 = .ok (.aload_n 0, 1) := by decide +kernel
theorem dL_law_1032 : decode cL_law 1032 = .ok (.iload_n 3, 1) := by decide +kernel
theorem dL_law_1033 : decode cL_law 1033 = .ok (.iconst 1, 1) := by decide +kernel
theorem dL_law_1034 : decode cL_law 1034 = .ok (.iadd, 1) := by decide +kernel
theorem dL_law_1035 : decode cL_law 1035 = .ok (.iaload, 1) := by decide +kernel
theorem dL_law_1036 : decode cL_law 1036 = .ok (.invokevirtual 135, 3) := by decide +kernel
theorem dL_law_1039 : decode cL_law 1039 = .ok (.aload_n 2, 1) := by decide +kernel
theorem dL_law_1040 : decode cL_law 1040 = .ok (.aload_n 0, 1) := by decide +kernel
theorem dL_law_1041 : decode cL_law 1041 = .ok (.iload_n 3, 1) := by decide +kernel
theorem dL_law_1042 : decode cL_law 1042 = .ok (.iconst 1, 1) := by decide +kernel
theorem dL_law_1043 : decode cL_law 1043 = .ok (.iadd, 1) := by decide +kernel
theorem dL_law_1044 : decode cL_law 1044 = .ok (.iaload, 1) := by decide +kernel
theorem dL_law_1045 : decode cL_law 1045 = .ok (.invokevirtual 138, 3) := by decide +kernel
theorem dL_law_1048 : decode cL_law 1048 = .ok (.if_icmp .eq 315, 3) := by decide +kernel
theorem dL_law_1051 : decode cL_law 1051 = .ok (.iconst 0, 1) := by decide +kernel
theorem dL_law_1052 : decode cL_law 1052 = .ok (.ireturn, 1) := by decide +kernel
theorem dL_law_1053 : decode cL_law 1053 = .ok (.aload_n 1, 1) := by decide +kernel
theorem dL_law_1054 : decode cL_law 1054 = .ok (.aload_n 0, 1) := by decide +kernel
theorem dL_law_1055 : decode cL_law 1055 = .ok (.iload_n 3, 1) := by decide +kernel
theorem dL_law_1056 : decode cL_law 1056 = .ok (.iconst 1, 1) := by decide +kernel
theorem dL_law_1057 : decode cL_law 1057 = .ok (.iadd, 1) := by decide +kernel
theorem dL_law_1058 : decode cL_law 1058 = .ok (.iaload, 1) := by decide +kernel
theorem dL_law_1059 : decode cL_law 1059 = .ok (.invokevirtual 139, 3) := by decide +kernel
theorem dL_law_1062 : decode cL_law 1062 = .ok (.aload_n 2, 1) := by decide +kernel
theorem dL_law_1063 : decode cL_law 1063 = .ok (.aload_n 0, 1) := by decide +kernel
theorem dL_law_1064 : decode cL_law 1064 = .ok (.iload_n 3, 1) := by decide +kernel
theorem dL_law_1065 : decode cL_law 1065 = .ok (.iconst 1, 1) := by decide +kernel
theorem dL_law_1066 : decode cL_law 1066 = .ok (.iadd, 1) := by decide +kernel
theorem dL_law_1067 : decode cL_law 1067 = .ok (.iaload, 1) := by decide +kernel
theorem dL_law_1068 : decode cL_law 1068 = .ok (.invokevirtual 142, 3) := by decide +kernel
theorem dL_law_1071 : decode cL_law 1071 = .ok (.if_icmp .eq 292, 3) := by decide +kernel
theorem dL_law_1074 : decode cL_law 1074 = .ok (.iconst 0, 1) := by decide +kernel
theorem dL_law_1075 : decode cL_law 1075 = .ok (.ireturn, 1) := by decide +kernel
theorem dL_law_1076 : decode cL_law 1076 = .ok (.aload_n 1, 1) := by decide +kernel
theorem dL_law_1077 : decode cL_law 1077 = .ok (.aload_n 0, 1) := by decide +kernel
theorem dL_law_1078 : decode cL_law 1078 = .ok (.iload_n 3, 1) := by decide +kernel
theorem dL_law_1079 : decode cL_law 1079 = .ok (.iconst 1, 1) := by decide +kernel
theorem dL_law_1080 : decode cL_law 1080 = .ok (.iadd, 1) := by decide +kernel
theorem dL_law_1081 : decode cL_law 1081 = .ok (.iaload, 1) := by decide +kernel
theorem dL_law_1082 : decode cL_law 1082 = .ok (.invokevirtual 143, 3) := by decide +kernel
theorem dL_law_1085 : decode cL_law 1085 = .ok (.aload_n 2, 1) := by decide +kernel
theorem dL_law_1086 : decode cL_law 1086 = .ok (.aload_n 0, 1) := by decide +kernel
theorem dL_law_1087 : decode cL_law 1087 = .ok (.iload_n 3, 1) := by decide +kernel
theorem dL_law_1088 : decode cL_law 1088 = .ok (.iconst 1, 1) := by decide +kernel
theorem dL_law_1089 : decode cL_law 1089 = .ok (.iadd, 1) := by decide +kernel
theorem dL_law_1090 : decode cL_law 1090 = .ok (.iaload, 1) := by decide +kernel
theorem dL_law_1091 : decode cL_law 1091 = .ok (.invokevirtual 146, 3) := by decide +kernel
theorem dL_law_1094 : decode cL_law 1094 = .ok (.if_icmp .eq 269, 3) := by decide +kernel
theorem dL_law_1097 : decode cL_law 1097 = .ok (.iconst 0, 1) := by decide +kernel
theorem dL_law_1098 : decode cL_law 1098 = .ok (.ireturn, 1) := by decide +kernel
theorem dL_law_1099 : decode cL_law 1099 = .ok (.aload_n 1, 1) := by decide +kernel
theorem dL_law_1100 : decode cL_law 1100 = .ok (.aload_n 0, 1) := by decide +kernel
theorem dL_law_1101 : decode cL_law 1101 = .ok (.iload_n 3, 1) := by decide +kernel
theorem dL_law_1102 : decode cL_law 1102 = .ok (.iconst 1, 1) := by decide +kernel
theorem dL_law_1103 : decode cL_law 1103 = .ok (.iadd, 1) := by decide +kernel
theorem dL_law_1104 : decode cL_law 1104 = .ok (.iaload, 1) := by decide +kernel
theorem dL_law_1105 : decode cL_law 1105 = .ok (.aload_n 0, 1) := by decide +kernel
theorem dL_law_1106 : decode cL_law 1106 = .ok (.iload_n 3, 1) := by decide +kernel
theorem dL_law_1107 : decode cL_law 1107 = .ok (.iconst 2, 1) := by decide +kernel
theorem dL_law_1108 : decode cL_law 1108 = .ok (.iadd, 1) := by decide +kernel
theorem dL_law_1109 : decode cL_law 1109 = .ok (.iaload, 1) := by decide +kernel
theorem dL_law_1110 : decode cL_law 1110 = .ok (.aload_n 0, 1) := by decide +kernel
theorem dL_law_1111 : decode cL_law 1111 = .ok (.iload_n 3, 1) := by decide +kernel
theorem dL_law_1112 : decode cL_law 1112 = .ok (.iconst 3, 1) := by decide +kernel
theorem dL_law_1113 : decode cL_law 1113 = .ok (.iadd, 1) := by decide +kernel
theorem dL_law_1114 : decode cL_law 1114 = .ok (.iaload, 1) := by decide +kernel
theorem dL_law_1115 : decode cL_law 1115 = .ok (.invokevirtual 147, 3) := by decide +kernel
theorem dL_law_1118 : decode cL_law 1118 = .ok (.aload_n 2, 1) := by decide +kernel
theorem dL_law_1119 : decode cL_law 1119 = .ok (.aload_n 0, 1) := by decide +kernel
theorem dL_law_1120 : decode cL_law 1120 = .ok (.iload_n 3, 1) := by decide +kernel
theorem dL_law_1121 : decode cL_law 1121 = .ok (.iconst 1, 1) := by decide +kernel
theorem dL_law_1122 : decode cL_law 1122 = .ok (.iadd, 1) := by decide +kernel
theorem dL_law_1123 : decode cL_law 1123 = .ok (.iaload, 1) := by decide +kernel
theorem dL_law_1124 : decode cL_law 1124 = .ok (.aload_n 0, 1) := by decide +kernel
theorem dL_law_1125 : decode cL_law 1125 = .ok (.iload_n 3, 1) := by decide +kernel
theorem dL_law_1126 : decode cL_law 1126 = .ok (.iconst 2, 1) := by decide +kernel
theorem dL_law_1127 : decode cL_law 1127 = .ok (.iadd, 1) := by decide +kernel
theorem dL_law_1128 : decode cL_law 1128 = .ok (.iaload, 1) := by decide +kernel
theorem dL_law_1129 : decode cL_law 1129 = .ok (.aload_n 0, 1) := by decide +kernel
theorem dL_law_1130 : decode cL_law 1130 = .ok (.iload_n 3, 1) := by decide +kernel
theorem dL_law_1131 : decode cL_law 1131 = .ok (.iconst 3, 1) := by decide +kernel
theorem dL_law_1132 : decode cL_law 1132 = .ok (.iadd, 1) := by decide +kernel
theorem dL_law_1133 : decode cL_law 1133 = .ok (.iaload, 1) := by decide +kernel
theorem dL_law_1134 : decode cL_law 1134 = .ok (.invokevirtual 151, 3) := by decide +kernel
theorem dL_law_1137 : decode cL_law 1137 = .ok (.if_icmp .eq 226, 3) := by decide +kernel
theorem dL_law_1140 : decode cL_law 1140 = .ok (.iconst 0, 1) := by decide +kernel
theorem dL_law_1141 : decode cL_law 1141 = .ok (.ireturn, 1) := by decide +kernel
theorem dL_law_1142 : decode cL_law 1142 = .ok (.aload_n 1, 1) := by decide +kernel
theorem dL_law_1143 : decode cL_law 1143 = .ok (.aload_n 0, 1) := by decide +kernel
theorem dL_law_1144 : decode cL_law 1144 = .ok (.iload_n 3, 1) := by decide +kernel
theorem dL_law_1145 : decode cL_law 1145 = .ok (.iconst 1, 1) := by decide +kernel
theorem dL_law_1146 : decode cL_law 1146 = .ok (.iadd, 1) := by decide +kernel
theorem dL_law_1147 : decode cL_law 1147 = .ok (.iaload, 1) := by decide +kernel
theorem dL_law_1148 : decode cL_law 1148 = .ok (.invokevirtual 152, 3) := by decide +kernel
theorem dL_law_1151 : decode cL_law 1151 = .ok (.aload_n 2, 1) := by decide +kernel
theorem dL_law_1152 : decode cL_law 1152 = .ok (.aload_n 0, 1) := by decide +kernel
theorem dL_law_1153 : decode cL_law 1153 = .ok (.iload_n 3, 1) := by decide +kernel
theorem dL_law_1154 : decode cL_law 1154 = .ok (.iconst 1, 1) := by decide +kernel
theorem dL_law_1155 : decode cL_law 1155 = .ok (.iadd, 1) := by decide +kernel
theorem dL_law_1156 : decode cL_law 1156 = .ok (.iaload, 1) := by decide +kernel
theorem dL_law_1157 : decode cL_law 1157 = .ok (.invokevirtual 155, 3) := by decide +kernel
theorem dL_law_1160 : decode cL_law 1160 = .ok (.if_icmp .eq 203, 3) := by decide +kernel
theorem dL_law_1163 : decode cL_law 1163 = .ok (.iconst 0, 1) := by decide +kernel
theorem dL_law_1164 : decode cL_law 1164 = .ok (.ireturn, 1) := by decide +kernel
theorem dL_law_1165 : decode cL_law 1165 = .ok (.aload_n 1, 1) := by decide +kernel
theorem dL_law_1166 : decode cL_law 1166 = .ok (.aload_n 0, 1) := by decide +kernel
theorem dL_law_1167 : decode cL_law 1167 = .ok (.iload_n 3, 1) := by decide +kernel
theorem dL_law_1168 : decode cL_law 1168 = .ok (.iconst 1, 1) := by decide +kernel
theorem dL_law_1169 : decode cL_law 1169 = .ok (.iadd, 1) := by decide +kernel
theorem dL_law_1170 : decode cL_law 1170 = .ok (.iaload, 1) := by decide +kernel
theorem dL_law_1171 : decode cL_law 1171 = .ok (.invokevirtual 156, 3) := by decide +kernel
theorem dL_law_1174 : decode cL_law 1174 = .ok (.aload_n 2, 1) := by decide +kernel
theorem dL_law_1175 : decode cL_law 1175 = .ok (.aload_n 0, 1) := by decide +kernel
theorem dL_law_1176 : decode cL_law 1176 = .ok (.iload_n 3, 1) := by decide +kernel
theorem dL_law_1177 : decode cL_law 1177 = .ok (.iconst 1, 1) := by decide +kernel
theorem dL_law_1178 : decode cL_law 1178 = .ok (.iadd, 1) := by decide +kernel
theorem dL_law_1179 : decode cL_law 1179 = .ok (.iaload, 1) := by decide +kernel
theorem dL_law_1180 : decode cL_law 1180 = .ok (.invokevirtual 159, 3) := by decide +kernel
theorem dL_law_1183 : decode cL_law 1183 = .ok (.if_icmp .eq 180, 3) := by decide +kernel
theorem dL_law_1186 : decode cL_law 1186 = .ok (.iconst 0, 1) := by decide +kernel
theorem dL_law_1187 : decode cL_law 1187 = .ok (.ireturn, 1) := by decide +kernel
theorem dL_law_1188 : decode cL_law 1188 = .ok (.aload_n 1, 1) := by decide +kernel
theorem dL_law_1189 : decode cL_law 1189 = .ok (.aload_n 0, 1) := by decide +kernel
theorem dL_law_1190 : decode cL_law 1190 = .ok (.iload_n 3, 1) := by decide +kernel
theorem dL_law_1191 : decode cL_law 1191 = .ok (.iconst 1, 1) := by decide +kernel
theorem dL_law_1192 : decode cL_law 1192 = .ok (.iadd, 1) := by decide +kernel
theorem dL_law_1193 : decode cL_law 1193 = .ok (.iaload, 1) := by decide +kernel
theorem dL_law_1194 : decode cL_law 1194 = .ok (.aload_n 0, 1) := by decide +kernel
theorem dL_law_1195 : decode cL_law 1195 = .ok (.iload_n 3, 1) := by decide +kernel
theorem dL_law_1196 : decode cL_law 1196 = .ok (.iconst 2, 1) := by decide +kernel
theorem dL_law_1197 : decode cL_law 1197 = .ok (.iadd, 1) := by decide +kernel
theorem dL_law_1198 : decode cL_law 1198 = .ok (.iaload, 1) := by decide +kernel
theorem dL_law_1199 : decode cL_law 1199 = .ok (.aload_n 0, 1) := by decide +kernel
theorem dL_law_1200 : decode cL_law 1200 = .ok (.iload_n 3, 1) := by decide +kernel
theorem dL_law_1201 : decode cL_law 1201 = .ok (.iconst 3, 1) := by decide +kernel
theorem dL_law_1202 : decode cL_law 1202 = .ok (.iadd, 1) := by decide +kernel
theorem dL_law_1203 : decode cL_law 1203 = .ok (.iaload, 1) := by decide +kernel
theorem dL_law_1204 : decode cL_law 1204 = .ok (.invokevirtual 160, 3) := by decide +kernel
theorem dL_law_1207 : decode cL_law 1207 = .ok (.aload_n 2, 1) := by decide +kernel
theorem dL_law_1208 : decode cL_law 1208 = .ok (.aload_n 0, 1) := by decide +kernel
theorem dL_law_1209 : decode cL_law 1209 = .ok (.iload_n 3, 1) := by decide +kernel
theorem dL_law_1210 : decode cL_law 1210 = .ok (.iconst 1, 1) := by decide +kernel
theorem dL_law_1211 : decode cL_law 1211 = .ok (.iadd, 1) := by decide +kernel
theorem dL_law_1212 : decode cL_law 1212 = .ok (.iaload, 1) := by decide +kernel
theorem dL_law_1213 : decode cL_law 1213 = .ok (.aload_n 0, 1) := by decide +kernel
theorem dL_law_1214 : decode cL_law 1214 = .ok (.iload_n 3, 1) := by decide +kernel
theorem dL_law_1215 : decode cL_law 1215 = .ok (.iconst 2, 1) := by decide +kernel
theorem dL_law_1216 : decode cL_law 1216 = .ok (.iadd, 1) := by decide +kernel
theorem dL_law_1217 : decode cL_law 1217 = .ok (.iaload, 1) := by decide +kernel
theorem dL_law_1218 : decode cL_law 1218 = .ok (.aload_n 0, 1) := by decide +kernel
theorem dL_law_1219 : decode cL_law 1219 = .ok (.iload_n 3, 1) := by decide +kernel
theorem dL_law_1220 : decode cL_law 1220 = .ok (.iconst 3, 1) := by decide +kernel
theorem dL_law_1221 : decode cL_law 1221 = .ok (.iadd, 1) := by decide +kernel
theorem dL_law_1222 : decode cL_law 1222 = .ok (.iaload, 1) := by decide +kernel
theorem dL_law_1223 : decode cL_law 1223 = .ok (.invokevirtual 163, 3) := by decide +kernel
theorem dL_law_1226 : decode cL_law 1226 = .ok (.if_icmp .eq 137, 3) := by decide +kernel
theorem dL_law_1229 : decode cL_law 1229 = .ok (.iconst 0, 1) := by decide +kernel
theorem dL_law_1230 : decode cL_law 1230 = .ok (.ireturn, 1) := by decide +kernel
theorem dL_law_1231 : decode cL_law 1231 = .ok (.aload_n 1, 1) := by decide +kernel
theorem dL_law_1232 : decode cL_law 1232 = .ok (.aload_n 0, 1) := by decide +kernel
theorem dL_law_1233 : decode cL_law 1233 = .ok (.iload_n 3, 1) := by decide +kernel
theorem dL_law_1234 : decode cL_law 1234 = .ok (.iconst 1, 1) := by decide +kernel
theorem dL_law_1235 : decode cL_law 1235 = .ok (.iadd, 1) := by decide +kernel
theorem dL_law_1236 : decode cL_law 1236 = .ok (.iaload, 1) := by decide +kernel
theorem dL_law_1237 : decode cL_law 1237 = .ok (.aload_n 0, 1) := by decide +kernel
theorem dL_law_1238 : decode cL_law 1238 = .ok (.iload_n 3, 1) := by decide +kernel
theorem dL_law_1239 : decode cL_law 1239 = .ok (.iconst 2, 1) := by decide +kernel
theorem dL_law_1240 : decode cL_law 1240 = .ok (.iadd, 1) := by decide +kernel
theorem dL_law_1241 : decode cL_law 1241 = .ok (.iaload, 1) := by decide +kernel
theorem dL_law_1242 : decode cL_law 1242 = .ok (.aload_n 0, 1) := by decide +kernel
theorem dL_law_1243 : decode cL_law 1243 = .ok (.iload_n 3, 1) := by decide +kernel
theorem dL_law_1244 : decode cL_law 1244 = .ok (.iconst 3, 1) := by decide +kernel
theorem dL_law_1245 : decode cL_law 1245 = .ok (.iadd, 1) := by decide +kernel
theorem dL_law_1246 : decode cL_law 1246 = .ok (.iaload, 1) := by decide +kernel
theorem dL_law_1247 : decode cL_law 1247 = .ok (.invokevirtual 164, 3) := by decide +kernel
theorem dL_law_1250 : decode cL_law 1250 = .ok (.aload_n 2, 1) := by decide +kernel
theorem dL_law_1251 : decode cL_law 1251 = .ok (.aload_n 0, 1) := by decide +kernel
theorem dL_law_1252 : decode cL_law 1252 = .ok (.iload_n 3, 1) := by decide +kernel
theorem dL_law_1253 : decode cL_law 1253 = .ok (.iconst 1, 1) := by decide +kernel
theorem dL_law_1254 : decode cL_law 1254 = .ok (.iadd, 1) := by decide +kernel
theorem dL_law_1255 : decode cL_law 1255 = .ok (.iaload, 1) := by decide +kernel
theorem dL_law_1256 : decode cL_law 1256 = .ok (.aload_n 0, 1) := by decide +kernel
theorem dL_law_1257 : decode cL_law 1257 = .ok (.iload_n 3, 1) := by decide +kernel
theorem dL_law_1258 : decode cL_law 1258 = .ok (.iconst 2, 1) := by decide +kernel
theorem dL_law_1259 : decode cL_law 1259 = .ok (.iadd, 1) := by decide +kernel
theorem dL_law_1260 : decode cL_law 1260 = .ok (.iaload, 1) := by decide +kernel
theorem dL_law_1261 : decode cL_law 1261 = .ok (.aload_n 0, 1) := by decide +kernel
theorem dL_law_1262 : decode cL_law 1262 = .ok (.iload_n 3, 1) := by decide +kernel
theorem dL_law_1263 : decode cL_law 1263 = .ok (.iconst 3, 1) := by decide +kernel
theorem dL_law_1264 : decode cL_law 1264 = .ok (.iadd, 1) := by decide +kernel
theorem dL_law_1265 : decode cL_law 1265 = .ok (.iaload, 1) := by decide +kernel
theorem dL_law_1266 : decode cL_law 1266 = .ok (.invokevirtual 167, 3) := by decide +kernel
theorem dL_law_1269 : decode cL_law 1269 = .ok (.if_icmp .eq 94, 3) := by decide +kernel
theorem dL_law_1272 : decode cL_law 1272 = .ok (.iconst 0, 1) := by decide +kernel
theorem dL_law_1273 : decode cL_law 1273 = .ok (.ireturn, 1) := by decide +kernel
theorem dL_law_1274 : decode cL_law 1274 = .ok (.aload_n 1, 1) := by decide +kernel
theorem dL_law_1275 : decode cL_law 1275 = .ok (.aload_n 0, 1) := by decide +kernel
theorem dL_law_1276 : decode cL_law 1276 = .ok (.iload_n 3, 1) := by decide +kernel
theorem dL_law_1277 : decode cL_law 1277 = .ok (.iconst 1, 1) := by decide +kernel
theorem dL_law_1278 : decode cL_law 1278 = .ok (.iadd, 1) := by decide +kernel
theorem dL_law_1279 : decode cL_law 1279 = .ok (.iaload, 1) := by decide +kernel
theorem dL_law_1280 : decode cL_law 1280 = .ok (.aload_n 0, 1) := by decide +kernel
theorem dL_law_1281 : decode cL_law 1281 = .ok (.iload_n 3, 1) := by decide +kernel
theorem dL_law_1282 : decode cL_law 1282 = .ok (.iconst 2, 1) := by decide +kernel
theorem dL_law_1283 : decode cL_law 1283 = .ok (.iadd, 1) := by decide +kernel
theorem dL_law_1284 : decode cL_law 1284 = .ok (.iaload, 1) := by decide +kernel
theorem dL_law_1285 : decode cL_law 1285 = .ok (.aload_n 0, 1) := by decide +kernel
theorem dL_law_1286 : decode cL_law 1286 = .ok (.iload_n 3, 1) := by decide +kernel
theorem dL_law_1287 : decode cL_law 1287 = .ok (.iconst 3, 1) := by decide +kernel
theorem dL_law_1288 : decode cL_law 1288 = .ok (.iadd, 1) := by decide +kernel
theorem dL_law_1289 : decode cL_law 1289 = .ok (.iaload, 1) := by decide +kernel
theorem dL_law_1290 : decode cL_law 1290 = .ok (.aload_n 0, 1) := by decide +kernel
theorem dL_law_1291 : decode cL_law 1291 = .ok (.iload_n 3, 1) := by decide +kernel
theorem dL_law_1292 : decode cL_law 1292 = .ok (.iconst 4, 1) := by decide +kernel
theorem dL_law_1293 : decode cL_law 1293 = .ok (.iadd, 1) := by decide +kernel
theorem dL_law_1294 : decode cL_law 1294 = .ok (.iaload, 1) := by decide +kernel
theorem dL_law_1295 : decode cL_law 1295 = .ok (.invokevirtual 168, 3) := by decide +kernel
theorem dL_law_1298 : decode cL_law 1298 = .ok (.aload_n 2, 1) := by decide +kernel
theorem dL_law_1299 : decode cL_law 1299 = .ok (.aload_n 0, 1) := by decide +kernel
theorem dL_law_1300 : decode cL_law 1300 = .ok (.iload_n 3, 1) := by decide +kernel
theorem dL_law_1301 : decode cL_law 1301 = .ok (.iconst 1, 1) := by decide +kernel
theorem dL_law_1302 : decode cL_law 1302 = .ok (.iadd, 1) := by decide +kernel
theorem dL_law_1303 : decode cL_law 1303 = .ok (.iaload, 1) := by decide +kernel
theorem dL_law_1304 : decode cL_law 1304 = .ok (.aload_n 0, 1) := by decide +kernel
theorem dL_law_1305 : decode cL_law 1305 = .ok (.iload_n 3, 1) := by decide +kernel
theorem dL_law_1306 : decode cL_law 1306 = .ok (.iconst 2, 1) := by decide +kernel
theorem dL_law_1307 : decode cL_law 1307 = .ok (.iadd, 1) := by decide +kernel
theorem dL_law_1308 : decode cL_law 1308 = .ok (.iaload, 1) := by decide +kernel
theorem dL_law_1309 : decode cL_law 1309 = .ok (.aload_n 0, 1) := by decide +kernel
theorem dL_law_1310 : decode cL_law 1310 = .ok (.iload_n 3, 1) := by decide +kernel
theorem dL_law_1311 : decode cL_law 1311 = .ok (.iconst 3, 1) := by decide +kernel
theorem dL_law_1312 : decode cL_law 1312 = .ok (.iadd, 1) := by decide +kernel
theorem dL_law_1313 : decode cL_law 1313 = .ok (.iaload, 1) := by decide +kernel
theorem dL_law_1314 : decode cL_law 1314 = .ok (.aload_n 0, 1) := by decide +kernel
theorem dL_law_1315 : decode cL_law 1315 = .ok (.iload_n 3, 1) := by decide +kernel
theorem dL_law_1316 : decode cL_law 1316 = .ok (.iconst 4, 1) := by decide +kernel
theorem dL_law_1317 : decode cL_law 1317 = .ok (.iadd, 1) := by decide +kernel
theorem dL_law_1318 : decode cL_law 1318 = .ok (.iaload, 1) := by decide +kernel
theorem dL_law_1319 : decode cL_law 1319 = .ok (.invokevirtual 172, 3) := by decide +kernel
theorem dL_law_1322 : decode cL_law 1322 = .ok (.if_icmp .eq 41, 3) := by decide +kernel
theorem dL_law_1325 : decode cL_law 1325 = .ok (.iconst 0, 1) := by decide +kernel
theorem dL_law_1326 : decode cL_law 1326 = .ok (.ireturn, 1) := by decide +kernel
theorem dL_law_1327 : decode cL_law 1327 = .ok (.aload_n 1, 1) := by decide +kernel
theorem dL_law_1328 : decode cL_law 1328 = .ok (.invokevirtual 173, 3) := by decide +kernel
theorem dL_law_1331 : decode cL_law 1331 = .ok (.aload_n 2, 1) := by decide +kernel
theorem dL_law_1332 : decode cL_law 1332 = .ok (.invokevirtual 176, 3) := by decide +kernel
theorem dL_law_1335 : decode cL_law 1335 = .ok (.if_icmp .eq 28, 3) := by decide +kernel
theorem dL_law_1338 : decode cL_law 1338 = .ok (.iconst 0, 1) := by decide +kernel
theorem dL_law_1339 : decode cL_law 1339 = .ok (.ireturn, 1) := by decide +kernel
theorem dL_law_1340 : decode cL_law 1340 = .ok (.aload_n 1, 1) := by decide +kernel
theorem dL_law_1341 : decode cL_law 1341 = .ok (.aload_n 0, 1) := by decide +kernel
theorem dL_law_1342 : decode cL_law 1342 = .ok (.iload_n 3, 1) := by decide +kernel
theorem dL_law_1343 : decode cL_law 1343 = .ok (.iconst 1, 1) := by decide +kernel
theorem dL_law_1344 : decode cL_law 1344 = .ok (.iadd, 1) := by decide +kernel
theorem dL_law_1345 : decode cL_law 1345 = .ok (.iaload, 1) := by decide +kernel
theorem dL_law_1346 : decode cL_law 1346 = .ok (.invokevirtual 177, 3) := by decide +kernel
theorem dL_law_1349 : decode cL_law 1349 = .ok (.aload_n 2, 1) := by decide +kernel
theorem dL_law_1350 : decode cL_law 1350 = .ok (.aload_n 0, 1) := by decide +kernel
theorem dL_law_1351 : decode cL_law 1351 = .ok (.iload_n 3, 1) := by decide +kernel
theorem dL_law_1352 : decode cL_law 1352 = .ok (.iconst 1, 1) := by decide +kernel
theorem dL_law_1353 : decode cL_law 1353 = .ok (.iadd, 1) := by decide +kernel
theorem dL_law_1354 : decode cL_law 1354 = .ok (.iaload, 1) := by decide +kernel
theorem dL_law_1355 : decode cL_law 1355 = .ok (.invokevirtual 180, 3) := by decide +kernel
theorem dL_law_1358 : decode cL_law 1358 = .ok (.if_icmp .eq 5, 3) := by decide +kernel
theorem dL_law_1361 : decode cL_law 1361 = .ok (.iconst 0, 1) := by decide +kernel
theorem dL_law_1362 : decode cL_law 1362 = .ok (.ireturn, 1) := by decide +kernel
theorem dL_law_1363 : decode cL_law 1363 = .ok (.iinc 3 5, 3) := by decide +kernel
theorem dL_law_1366 : decode cL_law 1366 = .ok (.goto (-1348), 3) := by decide +kernel
theorem dL_law_1369 : decode cL_law 1369 = .ok (.iconst 1, 1) := by decide +kernel
theorem dL_law_1370 : decode cL_law 1370 = .ok (.ireturn, 1) := by decide +kernel
end
section
theorem dX0_init_0 : decode cX0_init 0 = .ok (.aload_n 0, 1) := by decide +kernel
theorem dX0_init_1 : decode cX0_init 1 = .ok (.invokespecial 3, 3) := by decide +kernel
theorem dX0_init_4 : decode cX0_init 4 = .ok (.aload_n 0, 1) := by decide +kernel
theorem dX0_init_5 : decode cX0_init 5 = .ok (.iconst 0, 1) := by decide +kernel
theorem dX0_init_6 : decode cX0_init 6 = .ok (.putfield 9, 3) := by decide +kernel
theorem dX0_init_9 : decode cX0_init 9 = .ok (.aload_n 0, 1) := by decide +kernel
theorem dX0_init_10 : decode cX0_init 10 = .ok (.iconst 4, 1) := by decide +kernel
theorem dX0_init_11 : decode cX0_init 11 = .ok (.newarray .int, 2) := by decide +kernel
theorem dX0_init_13 : decode cX0_init 13 = .ok (.putfield 15, 3) := by decide +kernel
theorem dX0_init_16 : decode cX0_init 16 = .ok (.aload_n 0, 1) := by decide +kernel
theorem dX0_init_17 : decode cX0_init 17 = .ok (.iconst 4, 1) := by decide +kernel
theorem dX0_init_18 : decode cX0_init 18 = .ok (.newarray .int, 2) := by decide +kernel
theorem dX0_init_20 : decode cX0_init 20 = .ok (.putfield 19, 3) := by decide +kernel
theorem dX0_init_23 : decode cX0_init 23 = .ok (.aload_n 0, 1) := by decide +kernel
theorem dX0_init_24 : decode cX0_init 24 = .ok (.iconst 4, 1) := by decide +kernel
theorem dX0_init_25 : decode cX0_init 25 = .ok (.newarray .int, 2) := by decide +kernel
theorem dX0_init_27 : decode cX0_init 27 = .ok (.putfield 22, 3) := by decide +kernel
theorem dX0_init_30 : decode cX0_init 30 = .ok (.aload_n 0, 1) := by decide +kernel
theorem dX0_init_31 : decode cX0_init 31 = .ok (.iconst 0, 1) := by decide +kernel
theorem dX0_init_32 : decode cX0_init 32 = .ok (.putfield 25, 3) := by decide +kernel
theorem dX0_init_35 : decode cX0_init 35 = .ok (.aload_n 0, 1) := by decide +kernel
theorem dX0_init_36 : decode cX0_init 36 = .ok (.iconst 3, 1) := by decide +kernel
theorem dX0_init_37 : decode cX0_init 37 = .ok (.newarray .int, 2) := by decide +kernel
theorem dX0_init_39 : decode cX0_init 39 = .ok (.putfield 28, 3) := by decide +kernel
theorem dX0_init_42 : decode cX0_init 42 = .ok (.aload_n 0, 1) := by decide +kernel
theorem dX0_init_43 : decode cX0_init 43 = .ok (.iconst 3, 1) := by decide +kernel
theorem dX0_init_44 : decode cX0_init 44 = .ok (.newarray .int, 2) := by decide +kernel
theorem dX0_init_46 : decode cX0_init 46 = .ok (.putfield 31, 3) := by decide +kernel
theorem dX0_init_49 : decode cX0_init 49 = .ok (.aload_n 0, 1) := by decide +kernel
theorem dX0_init_50 : decode cX0_init 50 = .ok (.iconst 3, 1) := by decide +kernel
theorem dX0_init_51 : decode cX0_init 51 = .ok (.newarray .int, 2) := by decide +kernel
theorem dX0_init_53 : decode cX0_init 53 = .ok (.putfield 34, 3) := by decide +kernel
theorem dX0_init_56 : decode cX0_init 56 = .ok (.aload_n 0, 1) := by decide +kernel
theorem dX0_init_57 : decode cX0_init 57 = .ok (.iconst 3, 1) := by decide +kernel
theorem dX0_init_58 : decode cX0_init 58 = .ok (.newarray .boolean, 2) := by decide +kernel
theorem dX0_init_60 : decode cX0_init 60 = .ok (.putfield 37, 3) := by decide +kernel
theorem dX0_init_63 : decode cX0_init 63 = .ok (.aload_n 0, 1) := by decide +kernel
theorem dX0_init_64 : decode cX0_init 64 = .ok (.iconst 0, 1) := by decide +kernel
theorem dX0_init_65 : decode cX0_init 65 = .ok (.putfield 41, 3) := by decide +kernel
theorem dX0_init_68 : decode cX0_init 68 = .ok (.aload_n 0, 1) := by decide +kernel
theorem dX0_init_69 : decode cX0_init 69 = .ok (.bipush 20, 2) := by decide +kernel
theorem dX0_init_71 : decode cX0_init 71 = .ok (.putfield 44, 3) := by decide +kernel
theorem dX0_init_74 : decode cX0_init 74 = .ok (.aload_n 0, 1) := by decide +kernel
theorem dX0_init_75 : decode cX0_init 75 = .ok (.iconst 0, 1) := by decide +kernel
theorem dX0_init_76 : decode cX0_init 76 = .ok (.putfield 47, 3) := by decide +kernel
theorem dX0_init_79 : decode cX0_init 79 = .ok (.aload_n 0, 1) := by decide +kernel
theorem dX0_init_80 : decode cX0_init 80 = .ok (.bipush 18, 2) := by decide +kernel
theorem dX0_init_82 : decode cX0_init 82 = .ok (.putfield 50, 3) := by decide +kernel
theorem dX0_init_85 : decode cX0_init 85 = .ok (.aload_n 0, 1) := by decide +kernel
theorem dX0_init_86 : decode cX0_init 86 = .ok (.iconst 0, 1) := by decide +kernel
theorem dX0_init_87 : decode cX0_init 87 = .ok (.putfield 53, 3) := by decide +kernel
theorem dX0_init_90 : decode cX0_init 90 = .ok (.aload_n 0, 1) := by decide +kernel
theorem dX0_init_91 : decode cX0_init 91 = .ok (.iconst 0, 1) := by decide +kernel
theorem dX0_init_92 : decode cX0_init 92 = .ok (.putfield 56, 3) := by decide +kernel
theorem dX0_init_95 : decode cX0_init 95 = .ok (.aload_n 0, 1) := by decide +kernel
theorem dX0_init_96 : decode cX0_init 96 = .ok (.iconst 0, 1) := by decide +kernel
theorem dX0_init_97 : decode cX0_init 97 = .ok (.putfield 59, 3) := by decide +kernel
theorem dX0_init_100 : decode cX0_init 100 = .ok (.return_, 1) := by decide +kernel
theorem dX0_clear_0 : decode cX0_clear 0 = .ok (.aload_n 0, 1) := by decide +kernel
theorem dX0_clear_1 : decode cX0_clear 1 = .ok (.iconst 0, 1) := by decide +kernel
theorem dX0_clear_2 : decode cX0_clear 2 = .ok (.putfield 9, 3) := by decide +kernel
theorem dX0_clear_5 : decode cX0_clear 5 = .ok (.aload_n 0, 1) := by decide +kernel
theorem dX0_clear_6 : decode cX0_clear 6 = .ok (.iconst 0, 1) := by decide +kernel
theorem dX0_clear_7 : decode cX0_clear 7 = .ok (.putfield 25, 3) := by decide +kernel
theorem dX0_clear_10 : decode cX0_clear 10 = .ok (.aload_n 0, 1) := by decide +kernel
theorem dX0_clear_11 : decode cX0_clear 11 = .ok (.iconst 0, 1) := by decide +kernel
theorem dX0_clear_12 : decode cX0_clear 12 = .ok (.putfield 41, 3) := by decide +kernel
theorem dX0_clear_15 : decode cX0_clear 15 = .ok (.aload_n 0, 1) := by decide +kernel
theorem dX0_clear_16 : decode cX0_clear 16 = .ok (.bipush 20, 2) := by decide +kernel
theorem dX0_clear_18 : decode cX0_clear 18 = .ok (.putfield 44, 3) := by decide +kernel
theorem dX0_clear_21 : decode cX0_clear 21 = .ok (.aload_n 0, 1) := by decide +kernel
theorem dX0_clear_22 : decode cX0_clear 22 = .ok (.iconst 0, 1) := by decide +kernel
theorem dX0_clear_23 : decode cX0_clear 23 = .ok (.putfield 47, 3) := by decide +kernel
theorem dX0_clear_26 : decode cX0_clear 26 = .ok (.aload_n 0, 1) := by decide +kernel
theorem dX0_clear_27 : decode cX0_clear 27 = .ok (.bipush 18, 2) := by decide +kernel
theorem dX0_clear_29 : decode cX0_clear 29 = .ok (.putfield 50, 3) := by decide +kernel
theorem dX0_clear_32 : decode cX0_clear 32 = .ok (.aload_n 0, 1) := by decide +kernel
theorem dX0_clear_33 : decode cX0_clear 33 = .ok (.iconst 0, 1) := by decide +kernel
theorem dX0_clear_34 : decode cX0_clear 34 = .ok (.putfield 53, 3) := by decide +kernel
theorem dX0_clear_37 : decode cX0_clear 37 = .ok (.aload_n 0, 1) := by decide +kernel
theorem dX0_clear_38 : decode cX0_clear 38 = .ok (.iconst 0, 1) := by decide +kernel
theorem dX0_clear_39 : decode cX0_clear 39 = .ok (.putfield 56, 3) := by decide +kernel
theorem dX0_clear_42 : decode cX0_clear 42 = .ok (.aload_n 0, 1) := by decide +kernel
theorem dX0_clear_43 : decode cX0_clear 43 = .ok (.iconst 0, 1) := by decide +kernel
theorem dX0_clear_44 : decode cX0_clear 44 = .ok (.putfield 59, 3) := by decide +kernel
theorem dX0_clear_47 : decode cX0_clear 47 = .ok (.return_, 1) := by decide +kernel
theorem dX0_copyFrom_0 : decode cX0_copyFrom 0 = .ok (.aload_n 0, 1) := by decide +kernel
theorem dX0_copyFrom_1 : decode cX0_copyFrom 1 = .ok (.aload_n 1, 1) := by decide +kernel
theorem dX0_copyFrom_2 : decode cX0_copyFrom 2 = .ok (.getfield 9, 3) := by decide +kernel
theorem dX0_copyFrom_5 : decode cX0_copyFrom 5 = .ok (.putfield 9, 3) := by decide +kernel
theorem dX0_copyFrom_8 : decode cX0_copyFrom 8 = .ok (.aload_n 0, 1) := by decide +kernel
theorem dX0_copyFrom_9 : decode cX0_copyFrom 9 = .ok (.aload_n 1, 1) := by decide +kernel
theorem dX0_copyFrom_10 : decode cX0_copyFrom 10 = .ok (.getfield 25, 3) := by decide +kernel
theorem dX0_copyFrom_13 : decode cX0_copyFrom 13 = .ok (.putfield 25, 3) := by decide +kernel
theorem dX0_copyFrom_16 : decode cX0_copyFrom 16 = .ok (.aload_n 0, 1) := by decide +kernel
theorem dX0_copyFrom_17 : decode cX0_copyFrom 17 = .ok (.aload_n 1, 1) := by decide +kernel
theorem dX0_copyFrom_18 : decode cX0_copyFrom 18 = .ok (.getfield 41, 3) := by decide +kernel
theorem dX0_copyFrom_21 : decode cX0_copyFrom 21 = .ok (.putfield 41, 3) := by decide +kernel
theorem dX0_copyFrom_24 : decode cX0_copyFrom 24 = .ok (.aload_n 0, 1) := by decide +kernel
theorem dX0_copyFrom_25 : decode cX0_copyFrom 25 = .ok (.aload_n 1, 1) := by decide +kernel
theorem dX0_copyFrom_26 : decode cX0_copyFrom 26 = .ok (.getfield 44, 3) := by decide +kernel
theorem dX0_copyFrom_29 : decode cX0_copyFrom 29 = .ok (.putfield 44, 3) := by decide +kernel
theorem dX0_copyFrom_32 : decode cX0_copyFrom 32 = .ok (.aload_n 0, 1) := by decide +kernel
theorem dX0_copyFrom_33 : decode cX0_copyFrom 33 = .ok (.aload_n 1, 1) := by decide +kernel
theorem dX0_copyFrom_34 : decode cX0_copyFrom 34 = .ok (.getfield 47, 3) := by decide +kernel
theorem dX0_copyFrom_37 : decode cX0_copyFrom 37 = .ok (.putfield 47, 3) := by decide +kernel
theorem dX0_copyFrom_40 : decode cX0_copyFrom 40 = .ok (.aload_n 0, 1) := by decide +kernel
theorem dX0_copyFrom_41 : decode cX0_copyFrom 41 = .ok (.aload_n 1, 1) := by decide +kernel
theorem dX0_copyFrom_42 : decode cX0_copyFrom 42 = .ok (.getfield 50, 3) := by decide +kernel
theorem dX0_copyFrom_45 : decode cX0_copyFrom 45 = .ok (.putfield 50, 3) := by decide +kernel
theorem dX0_copyFrom_48 : decode cX0_copyFrom 48 = .ok (.aload_n 0, 1) := by decide +kernel
theorem dX0_copyFrom_49 : decode cX0_copyFrom 49 = .ok (.aload_n 1, 1) := by decide +kernel
theorem dX0_copyFrom_50 : decode cX0_copyFrom 50 = .ok (.getfield 53, 3) := by decide +kernel
theorem dX0_copyFrom_53 : decode cX0_copyFrom 53 = .ok (.putfield 53, 3) := by decide +kernel
theorem dX0_copyFrom_56 : decode cX0_copyFrom 56 = .ok (.aload_n 0, 1) := by decide +kernel
theorem dX0_copyFrom_57 : decode cX0_copyFrom 57 = .ok (.aload_n 1, 1) := by decide +kernel
theorem dX0_copyFrom_58 : decode cX0_copyFrom 58 = .ok (.getfield 56, 3) := by decide +kernel
theorem dX0_copyFrom_61 : decode cX0_copyFrom 61 = .ok (.putfield 56, 3) := by decide +kernel
theorem dX0_copyFrom_64 : decode cX0_copyFrom 64 = .ok (.aload_n 0, 1) := by decide +kernel
theorem dX0_copyFrom_65 : decode cX0_copyFrom 65 = .ok (.aload_n 1, 1) := by decide +kernel
theorem dX0_copyFrom_66 : decode cX0_copyFrom 66 = .ok (.getfield 59, 3) := by decide +kernel
theorem dX0_copyFrom_69 : decode cX0_copyFrom 69 = .ok (.putfield 59, 3) := by decide +kernel
theorem dX0_copyFrom_72 : decode cX0_copyFrom 72 = .ok (.iconst 0, 1) := by decide +kernel
theorem dX0_copyFrom_73 : decode cX0_copyFrom 73 = .ok (.istore_n 2, 1) := by decide +kernel
theorem dX0_copyFrom_74 : decode cX0_copyFrom 74 = .ok (.iload_n 2, 1) := by decide +kernel
theorem dX0_copyFrom_75 : decode cX0_copyFrom 75 = .ok (.aload_n 0, 1) := by decide +kernel
theorem dX0_copyFrom_76 : decode cX0_copyFrom 76 = .ok (.getfield 9, 3) := by decide +kernel
theorem dX0_copyFrom_79 : decode cX0_copyFrom 79 = .ok (.if_icmp .ge 45, 3) := by decide +kernel
theorem dX0_copyFrom_82 : decode cX0_copyFrom 82 = .ok (.aload_n 0, 1) := by decide +kernel
theorem dX0_copyFrom_83 : decode cX0_copyFrom 83 = .ok (.getfield 15, 3) := by decide +kernel
theorem dX0_copyFrom_86 : decode cX0_copyFrom 86 = .ok (.iload_n 2, 1) := by decide +kernel
theorem dX0_copyFrom_87 : decode cX0_copyFrom 87 = .ok (.aload_n 1, 1) := by decide +kernel
theorem dX0_copyFrom_88 : decode cX0_copyFrom 88 = .ok (.getfield 15, 3) := by decide +kernel
theorem dX0_copyFrom_91 : decode cX0_copyFrom 91 = .ok (.iload_n 2, 1) := by decide +kernel
theorem dX0_copyFrom_92 : decode cX0_copyFrom 92 = .ok (.iaload, 1) := by decide +kernel
theorem dX0_copyFrom_93 : decode cX0_copyFrom 93 = .ok (.iastore, 1) := by decide +kernel
theorem dX0_copyFrom_94 : decode cX0_copyFrom 94 = .ok (.aload_n 0, 1) := by decide +kernel
theorem dX0_copyFrom_95 : decode cX0_copyFrom 95 = .ok (.getfield 19, 3) := by decide +kernel
theorem dX0_copyFrom_98 : decode cX0_copyFrom 98 = .ok (.iload_n 2, 1) := by decide +kernel
theorem dX0_copyFrom_99 : decode cX0_copyFrom 99 = .ok (.aload_n 1, 1) := by decide +kernel
theorem dX0_copyFrom_100 : decode cX0_copyFrom 100 = .ok (.getfield 19, 3) := by decide +kernel
theorem dX0_copyFrom_103 : decode cX0_copyFrom 103 = .ok (.iload_n 2, 1) := by decide +kernel
theorem dX0_copyFrom_104 : decode cX0_copyFrom 104 = .ok (.iaload, 1) := by decide +kernel
theorem dX0_copyFrom_105 : decode cX0_copyFrom 105 = .ok (.iastore, 1) := by decide +kernel
theorem dX0_copyFrom_106 : decode cX0_copyFrom 106 = .ok (.aload_n 0, 1) := by decide +kernel
theorem dX0_copyFrom_107 : decode cX0_copyFrom 107 = .ok (.getfield 22, 3) := by decide +kernel
theorem dX0_copyFrom_110 : decode cX0_copyFrom 110 = .ok (.iload_n 2, 1) := by decide +kernel
theorem dX0_copyFrom_111 : decode cX0_copyFrom 111 = .ok (.aload_n 1, 1) := by decide +kernel
theorem dX0_copyFrom_112 : decode cX0_copyFrom 112 = .ok (.getfield 22, 3) := by decide +kernel
theorem dX0_copyFrom_115 : decode cX0_copyFrom 115 = .ok (.iload_n 2, 1) := by decide +kernel
theorem dX0_copyFrom_116 : decode cX0_copyFrom 116 = .ok (.iaload, 1) := by decide +kernel
theorem dX0_copyFrom_117 : decode cX0_copyFrom 117 = .ok (.iastore, 1) := by decide +kernel
theorem dX0_copyFrom_118 : decode cX0_copyFrom 118 = .ok (.iinc 2 1, 3) := by decide +kernel
theorem dX0_copyFrom_121 : decode cX0_copyFrom 121 = .ok (.goto (-47), 3) := by decide +kernel
theorem dX0_copyFrom_124 : decode cX0_copyFrom 124 = .ok (.iconst 0, 1) := by decide +kernel
theorem dX0_copyFrom_125 : decode cX0_copyFrom 125 = .ok (.istore_n 2, 1) := by decide +kernel
theorem dX0_copyFrom_126 : decode cX0_copyFrom 126 = .ok (.iload_n 2, 1) := by decide +kernel
theorem dX0_copyFrom_127 : decode cX0_copyFrom 127 = .ok (.aload_n 0, 1) := by decide +kernel
theorem dX0_copyFrom_128 : decode cX0_copyFrom 128 = .ok (.getfield 25, 3) := by decide +kernel
theorem dX0_copyFrom_131 : decode cX0_copyFrom 131 = .ok (.if_icmp .ge 57, 3) := by decide +kernel
theorem dX0_copyFrom_134 : decode cX0_copyFrom 134 = .ok (.aload_n 0, 1) := by decide +kernel
theorem dX0_copyFrom_135 : decode cX0_copyFrom 135 = .ok (.getfield 28, 3) := by decide +kernel
theorem dX0_copyFrom_138 : decode cX0_copyFrom 138 = .ok (.iload_n 2, 1) := by decide +kernel
theorem dX0_copyFrom_139 : decode cX0_copyFrom 139 = .ok (.aload_n 1, 1) := by decide +kernel
theorem dX0_copyFrom_140 : decode cX0_copyFrom 140 = .ok (.getfield 28, 3) := by decide +kernel
theorem dX0_copyFrom_143 : decode cX0_copyFrom 143 = .ok (.iload_n 2, 1) := by decide +kernel
theorem dX0_copyFrom_144 : decode cX0_copyFrom 144 = .ok (.iaload, 1) := by decide +kernel
theorem dX0_copyFrom_145 : decode cX0_copyFrom 145 = .ok (.iastore, 1) := by decide +kernel
theorem dX0_copyFrom_146 : decode cX0_copyFrom 146 = .ok (.aload_n 0, 1) := by decide +kernel
theorem dX0_copyFrom_147 : decode cX0_copyFrom 147 = .ok (.getfield 31, 3) := by decide +kernel
theorem dX0_copyFrom_150 : decode cX0_copyFrom 150 = .ok (.iload_n 2, 1) := by decide +kernel
theorem dX0_copyFrom_151 : decode cX0_copyFrom 151 = .ok (.aload_n 1, 1) := by decide +kernel
theorem dX0_copyFrom_152 : decode cX0_copyFrom 152 = .ok (.getfield 31, 3) := by decide +kernel
theorem dX0_copyFrom_155 : decode cX0_copyFrom 155 = .ok (.iload_n 2, 1) := by decide +kernel
theorem dX0_copyFrom_156 : decode cX0_copyFrom 156 = .ok (.iaload, 1) := by decide +kernel
theorem dX0_copyFrom_157 : decode cX0_copyFrom 157 = .ok (.iastore, 1) := by decide +kernel
theorem dX0_copyFrom_158 : decode cX0_copyFrom 158 = .ok (.aload_n 0, 1) := by decide +kernel
theorem dX0_copyFrom_159 : decode cX0_copyFrom 159 = .ok (.getfield 34, 3) := by decide +kernel
theorem dX0_copyFrom_162 : decode cX0_copyFrom 162 = .ok (.iload_n 2, 1) := by decide +kernel
theorem dX0_copyFrom_163 : decode cX0_copyFrom 163 = .ok (.aload_n 1, 1) := by decide +kernel
theorem dX0_copyFrom_164 : decode cX0_copyFrom 164 = .ok (.getfield 34, 3) := by decide +kernel
theorem dX0_copyFrom_167 : decode cX0_copyFrom 167 = .ok (.iload_n 2, 1) := by decide +kernel
theorem dX0_copyFrom_168 : decode cX0_copyFrom 168 = .ok (.iaload, 1) := by decide +kernel
theorem dX0_copyFrom_169 : decode cX0_copyFrom 169 = .ok (.iastore, 1) := by decide +kernel
theorem dX0_copyFrom_170 : decode cX0_copyFrom 170 = .ok (.aload_n 0, 1) := by decide +kernel
theorem dX0_copyFrom_171 : decode cX0_copyFrom 171 = .ok (.getfield 37, 3) := by decide +kernel
theorem dX0_copyFrom_174 : decode cX0_copyFrom 174 = .ok (.iload_n 2, 1) := by decide +kernel
theorem dX0_copyFrom_175 : decode cX0_copyFrom 175 = .ok (.aload_n 1, 1) := by decide +kernel
theorem dX0_copyFrom_176 : decode cX0_copyFrom 176 = .ok (.getfield 37, 3) := by decide +kernel
theorem dX0_copyFrom_179 : decode cX0_copyFrom 179 = .ok (.iload_n 2, 1) := by decide +kernel
theorem dX0_copyFrom_180 : decode cX0_copyFrom 180 = .ok (.baload, 1) := by decide +kernel
theorem dX0_copyFrom_181 : decode cX0_copyFrom 181 = .ok (.bastore, 1) := by decide +kernel
theorem dX0_copyFrom_182 : decode cX0_copyFrom 182 = .ok (.iinc 2 1, 3) := by decide +kernel
theorem dX0_copyFrom_185 : decode cX0_copyFrom 185 = .ok (.goto (-59), 3) := by decide +kernel
theorem dX0_copyFrom_188 : decode cX0_copyFrom 188 = .ok (.return_, 1) := by decide +kernel
theorem dX0_leaveOnly_0 : decode cX0_leaveOnly 0 = .ok (.aload_n 0, 1) := by decide +kernel
theorem dX0_leaveOnly_1 : decode cX0_leaveOnly 1 = .ok (.getfield 15, 3) := by decide +kernel
theorem dX0_leaveOnly_4 : decode cX0_leaveOnly 4 = .ok (.iconst 0, 1) := by decide +kernel
theorem dX0_leaveOnly_5 : decode cX0_leaveOnly 5 = .ok (.aload_n 0, 1) := by decide +kernel
theorem dX0_leaveOnly_6 : decode cX0_leaveOnly 6 = .ok (.getfield 15, 3) := by decide +kernel
theorem dX0_leaveOnly_9 : decode cX0_leaveOnly 9 = .ok (.iload_n 1, 1) := by decide +kernel
theorem dX0_leaveOnly_10 : decode cX0_leaveOnly 10 = .ok (.iaload, 1) := by decide +kernel
theorem dX0_leaveOnly_11 : decode cX0_leaveOnly 11 = .ok (.iastore, 1) := by decide +kernel
theorem dX0_leaveOnly_12 : decode cX0_leaveOnly 12 = .ok (.aload_n 0, 1) := by decide +kernel
theorem dX0_leaveOnly_13 : decode cX0_leaveOnly 13 = .ok (.getfield 19, 3) := by decide +kernel
theorem dX0_leaveOnly_16 : decode cX0_leaveOnly 16 = .ok (.iconst 0, 1) := by decide +kernel
theorem dX0_leaveOnly_17 : decode cX0_leaveOnly 17 = .ok (.aload_n 0, 1) := by decide +kernel
theorem dX0_leaveOnly_18 : decode cX0_leaveOnly 18 = .ok (.getfield 19, 3) := by decide +kernel
theorem dX0_leaveOnly_21 : decode cX0_leaveOnly 21 = .ok (.iload_n 1, 1) := by decide +kernel
theorem dX0_leaveOnly_22 : decode cX0_leaveOnly 22 = .ok (.iaload, 1) := by decide +kernel
theorem dX0_leaveOnly_23 : decode cX0_leaveOnly 23 = .ok (.iastore, 1) := by decide +kernel
theorem dX0_leaveOnly_24 : decode cX0_leaveOnly 24 = .ok (.aload_n 0, 1) := by decide +kernel
theorem dX0_leaveOnly_25 : decode cX0_leaveOnly 25 = .ok (.getfield 22, 3) := by decide +kernel
theorem dX0_leaveOnly_28 : decode cX0_leaveOnly 28 = .ok (.iconst 0, 1) := by decide +kernel
theorem dX0_leaveOnly_29 : decode cX0_leaveOnly 29 = .ok (.aload_n 0, 1) := by decide +kernel
theorem dX0_leaveOnly_30 : decode cX0_leaveOnly 30 = .ok (.getfield 22, 3) := by decide +kernel
theorem dX0_leaveOnly_33 : decode cX0_leaveOnly 33 = .ok (.iload_n 1, 1) := by decide +kernel
theorem dX0_leaveOnly_34 : decode cX0_leaveOnly 34 = .ok (.iaload, 1) := by decide +kernel
theorem dX0_leaveOnly_35 : decode cX0_leaveOnly 35 = .ok (.iastore, 1) := by decide +kernel
theorem dX0_leaveOnly_36 : decode cX0_leaveOnly 36 = .ok (.aload_n 0, 1) := by decide +kernel
theorem dX0_leaveOnly_37 : decode cX0_leaveOnly 37 = .ok (.iconst 1, 1) := by decide +kernel
theorem dX0_leaveOnly_38 : decode cX0_leaveOnly 38 = .ok (.putfield 9, 3) := by decide +kernel
theorem dX0_leaveOnly_41 : decode cX0_leaveOnly 41 = .ok (.return_, 1) := by decide +kernel
theorem dX0_isDown_0 : decode cX0_isDown 0 = .ok (.aload_n 0, 1) := by decide +kernel
theorem dX0_isDown_1 : decode cX0_isDown 1 = .ok (.getfield 22, 3) := by decide +kernel
theorem dX0_isDown_4 : decode cX0_isDown 4 = .ok (.iload_n 1, 1) := by decide +kernel
theorem dX0_isDown_5 : decode cX0_isDown 5 = .ok (.iaload, 1) := by decide +kernel
theorem dX0_isDown_6 : decode cX0_isDown 6 = .ok (.ifCond .ne 7, 3) := by decide +kernel
theorem dX0_isDown_9 : decode cX0_isDown 9 = .ok (.iconst 1, 1) := by decide +kernel
theorem dX0_isDown_10 : decode cX0_isDown 10 = .ok (.goto 4, 3) := by decide +kernel
theorem dX0_isDown_13 : decode cX0_isDown 13 = .ok (.iconst 0, 1) := by decide +kernel
theorem dX0_isDown_14 : decode cX0_isDown 14 = .ok (.ireturn, 1) := by decide +kernel
theorem dX0_standing_0 : decode cX0_standing 0 = .ok (.iconst 0, 1) := by decide +kernel
theorem dX0_standing_1 : decode cX0_standing 1 = .ok (.istore_n 1, 1) := by decide +kernel
theorem dX0_standing_2 : decode cX0_standing 2 = .ok (.iconst 0, 1) := by decide +kernel
theorem dX0_standing_3 : decode cX0_standing 3 = .ok (.istore_n 2, 1) := by decide +kernel
theorem dX0_standing_4 : decode cX0_standing 4 = .ok (.iload_n 2, 1) := by decide +kernel
theorem dX0_standing_5 : decode cX0_standing 5 = .ok (.aload_n 0, 1) := by decide +kernel
theorem dX0_standing_6 : decode cX0_standing 6 = .ok (.getfield 9, 3) := by decide +kernel
theorem dX0_standing_9 : decode cX0_standing 9 = .ok (.if_icmp .ge 25, 3) := by decide +kernel
theorem dX0_standing_12 : decode cX0_standing 12 = .ok (.iload_n 1, 1) := by decide +kernel
theorem dX0_standing_13 : decode cX0_standing 13 = .ok (.aload_n 0, 1) := by decide +kernel
theorem dX0_standing_14 : decode cX0_standing 14 = .ok (.iload_n 2, 1) := by decide +kernel
theorem dX0_standing_15 : decode cX0_standing 15 = .ok (.invokevirtual 62, 3) := by decide +kernel
theorem dX0_standing_18 : decode cX0_standing 18 = .ok (.ifCond .eq 7, 3) := by decide +kernel
theorem dX0_standing_21 : decode cX0_standing 21 = .ok (.iconst 0, 1) := by decide +kernel
theorem dX0_standing_22 : decode cX0_standing 22 = .ok (.goto 4, 3) := by decide +kernel
theorem dX0_standing_25 : decode cX0_standing 25 = .ok (.iconst 1, 1) := by decide +kernel
theorem dX0_standing_26 : decode cX0_standing 26 = .ok (.iadd, 1) := by decide +kernel
theorem dX0_standing_27 : decode cX0_standing 27 = .ok (.istore_n 1, 1) := by decide +kernel
theorem dX0_standing_28 : decode cX0_standing 28 = .ok (.iinc 2 1, 3) := by decide +kernel
theorem dX0_standing_31 : decode cX0_standing 31 = .ok (.goto (-27), 3) := by decide +kernel
theorem dX0_standing_34 : decode cX0_standing 34 = .ok (.iload_n 1, 1) := by decide +kernel
theorem dX0_standing_35 : decode cX0_standing 35 = .ok (.ireturn, 1) := by decide +kernel
theorem dX0_allLevels_0 : decode cX0_allLevels 0 = .ok (.iconst 0, 1) := by decide +kernel
theorem dX0_allLevels_1 : decode cX0_allLevels 1 = .ok (.istore_n 1, 1) := by decide +kernel
theorem dX0_allLevels_2 : decode cX0_allLevels 2 = .ok (.iconst 0, 1) := by decide +kernel
theorem dX0_allLevels_3 : decode cX0_allLevels 3 = .ok (.istore_n 2, 1) := by decide +kernel
theorem dX0_allLevels_4 : decode cX0_allLevels 4 = .ok (.iload_n 2, 1) := by decide +kernel
theorem dX0_allLevels_5 : decode cX0_allLevels 5 = .ok (.aload_n 0, 1) := by decide +kernel
theorem dX0_allLevels_6 : decode cX0_allLevels 6 = .ok (.getfield 9, 3) := by decide +kernel
theorem dX0_allLevels_9 : decode cX0_allLevels 9 = .ok (.if_icmp .ge 18, 3) := by decide +kernel
theorem dX0_allLevels_12 : decode cX0_allLevels 12 = .ok (.iload_n 1, 1) := by decide +kernel
theorem dX0_allLevels_13 : decode cX0_allLevels 13 = .ok (.aload_n 0, 1) := by decide +kernel
theorem dX0_allLevels_14 : decode cX0_allLevels 14 = .ok (.getfield 22, 3) := by decide +kernel
theorem dX0_allLevels_17 : decode cX0_allLevels 17 = .ok (.iload_n 2, 1) := by decide +kernel
theorem dX0_allLevels_18 : decode cX0_allLevels 18 = .ok (.iaload, 1) := by decide +kernel
theorem dX0_allLevels_19 : decode cX0_allLevels 19 = .ok (.iadd, 1) := by decide +kernel
theorem dX0_allLevels_20 : decode cX0_allLevels 20 = .ok (.istore_n 1, 1) := by decide +kernel
theorem dX0_allLevels_21 : decode cX0_allLevels 21 = .ok (.iinc 2 1, 3) := by decide +kernel
theorem dX0_allLevels_24 : decode cX0_allLevels 24 = .ok (.goto (-20), 3) := by decide +kernel
theorem dX0_allLevels_27 : decode cX0_allLevels 27 = .ok (.iload_n 1, 1) := by decide +kernel
theorem dX0_allLevels_28 : decode cX0_allLevels 28 = .ok (.ireturn, 1) := by decide +kernel
theorem dX0_wetWells_0 : decode cX0_wetWells 0 = .ok (.iconst 0, 1) := by decide +kernel
theorem dX0_wetWells_1 : decode cX0_wetWells 1 = .ok (.istore_n 1, 1) := by decide +kernel
theorem dX0_wetWells_2 : decode cX0_wetWells 2 = .ok (.iconst 0, 1) := by decide +kernel
theorem dX0_wetWells_3 : decode cX0_wetWells 3 = .ok (.istore_n 2, 1) := by decide +kernel
theorem dX0_wetWells_4 : decode cX0_wetWells 4 = .ok (.iload_n 2, 1) := by decide +kernel
theorem dX0_wetWells_5 : decode cX0_wetWells 5 = .ok (.aload_n 0, 1) := by decide +kernel
theorem dX0_wetWells_6 : decode cX0_wetWells 6 = .ok (.getfield 25, 3) := by decide +kernel
theorem dX0_wetWells_9 : decode cX0_wetWells 9 = .ok (.if_icmp .ge 26, 3) := by decide +kernel
theorem dX0_wetWells_12 : decode cX0_wetWells 12 = .ok (.iload_n 1, 1) := by decide +kernel
theorem dX0_wetWells_13 : decode cX0_wetWells 13 = .ok (.aload_n 0, 1) := by decide +kernel
theorem dX0_wetWells_14 : decode cX0_wetWells 14 = .ok (.getfield 37, 3) := by decide +kernel
theorem dX0_wetWells_17 : decode cX0_wetWells 17 = .ok (.iload_n 2, 1) := by decide +kernel
theorem dX0_wetWells_18 : decode cX0_wetWells 18 = .ok (.baload, 1) := by decide +kernel
theorem dX0_wetWells_19 : decode cX0_wetWells 19 = .ok (.ifCond .eq 7, 3) := by decide +kernel
theorem dX0_wetWells_22 : decode cX0_wetWells 22 = .ok (.iconst 1, 1) := by decide +kernel
theorem dX0_wetWells_23 : decode cX0_wetWells 23 = .ok (.goto 4, 3) := by decide +kernel
theorem dX0_wetWells_26 : decode cX0_wetWells 26 = .ok (.iconst 0, 1) := by decide +kernel
theorem dX0_wetWells_27 : decode cX0_wetWells 27 = .ok (.iadd, 1) := by decide +kernel
theorem dX0_wetWells_28 : decode cX0_wetWells 28 = .ok (.istore_n 1, 1) := by decide +kernel
theorem dX0_wetWells_29 : decode cX0_wetWells 29 = .ok (.iinc 2 1, 3) := by decide +kernel
theorem dX0_wetWells_32 : decode cX0_wetWells 32 = .ok (.goto (-28), 3) := by decide +kernel
theorem dX0_wetWells_35 : decode cX0_wetWells 35 = .ok (.iload_n 1, 1) := by decide +kernel
theorem dX0_wetWells_36 : decode cX0_wetWells 36 = .ok (.ireturn, 1) := by decide +kernel
theorem dX0_isAtGoal_0 : decode cX0_isAtGoal 0 = .ok (.aload_n 0, 1) := by decide +kernel
theorem dX0_isAtGoal_1 : decode cX0_isAtGoal 1 = .ok (.getfield 47, 3) := by decide +kernel
theorem dX0_isAtGoal_4 : decode cX0_isAtGoal 4 = .ok (.aload_n 0, 1) := by decide +kernel
theorem dX0_isAtGoal_5 : decode cX0_isAtGoal 5 = .ok (.getfield 44, 3) := by decide +kernel
theorem dX0_isAtGoal_8 : decode cX0_isAtGoal 8 = .ok (.if_icmp .lt 7, 3) := by decide +kernel
theorem dX0_isAtGoal_11 : decode cX0_isAtGoal 11 = .ok (.iconst 1, 1) := by decide +kernel
theorem dX0_isAtGoal_12 : decode cX0_isAtGoal 12 = .ok (.goto 4, 3) := by decide +kernel
theorem dX0_isAtGoal_15 : decode cX0_isAtGoal 15 = .ok (.iconst 0, 1) := by decide +kernel
theorem dX0_isAtGoal_16 : decode cX0_isAtGoal 16 = .ok (.ireturn, 1) := by decide +kernel
theorem dX0_isDay_0 : decode cX0_isDay 0 = .ok (.aload_n 0, 1) := by decide +kernel
theorem dX0_isDay_1 : decode cX0_isDay 1 = .ok (.getfield 50, 3) := by decide +kernel
theorem dX0_isDay_4 : decode cX0_isDay 4 = .ok (.bipush 24, 2) := by decide +kernel
theorem dX0_isDay_6 : decode cX0_isDay 6 = .ok (.irem, 1) := by decide +kernel
theorem dX0_isDay_7 : decode cX0_isDay 7 = .ok (.istore_n 1, 1) := by decide +kernel
theorem dX0_isDay_8 : decode cX0_isDay 8 = .ok (.iload_n 1, 1) := by decide +kernel
theorem dX0_isDay_9 : decode cX0_isDay 9 = .ok (.bipush 6, 2) := by decide +kernel
theorem dX0_isDay_11 : decode cX0_isDay 11 = .ok (.if_icmp .lt 13, 3) := by decide +kernel
theorem dX0_isDay_14 : decode cX0_isDay 14 = .ok (.iload_n 1, 1) := by decide +kernel
theorem dX0_isDay_15 : decode cX0_isDay 15 = .ok (.bipush 17, 2) := by decide +kernel
theorem dX0_isDay_17 : decode cX0_isDay 17 = .ok (.if_icmp .gt 7, 3) := by decide +kernel
theorem dX0_isDay_20 : decode cX0_isDay 20 = .ok (.iconst 1, 1) := by decide +kernel
theorem dX0_isDay_21 : decode cX0_isDay 21 = .ok (.goto 4, 3) := by decide +kernel
theorem dX0_isDay_24 : decode cX0_isDay 24 = .ok (.iconst 0, 1) := by decide +kernel
theorem dX0_isDay_25 : decode cX0_isDay 25 = .ok (.ireturn, 1) := by decide +kernel
theorem dX0_pourer_0 : decode cX0_pourer 0 = .ok (.aload_n 0, 1) := by decide +kernel
theorem dX0_pourer_1 : decode cX0_pourer 1 = .ok (.getfield 9, 3) := by decide +kernel
theorem dX0_pourer_4 : decode cX0_pourer 4 = .ok (.ifCond .le 15, 3) := by decide +kernel
theorem dX0_pourer_7 : decode cX0_pourer 7 = .ok (.aload_n 0, 1) := by decide +kernel
theorem dX0_pourer_8 : decode cX0_pourer 8 = .ok (.getfield 50, 3) := by decide +kernel
theorem dX0_pourer_11 : decode cX0_pourer 11 = .ok (.aload_n 0, 1) := by decide +kernel
theorem dX0_pourer_12 : decode cX0_pourer 12 = .ok (.getfield 9, 3) := by decide +kernel
theorem dX0_pourer_15 : decode cX0_pourer 15 = .ok (.irem, 1) := by decide +kernel
theorem dX0_pourer_16 : decode cX0_pourer 16 = .ok (.goto 5, 3) := by decide +kernel
theorem dX0_pourer_19 : decode cX0_pourer 19 = .ok (.bipush (-4), 2) := by decide +kernel
theorem dX0_pourer_21 : decode cX0_pourer 21 = .ok (.ireturn, 1) := by decide +kernel
theorem dX0_wanted_0 : decode cX0_wanted 0 = .ok (.aload_n 0, 1) := by decide +kernel
theorem dX0_wanted_1 : decode cX0_wanted 1 = .ok (.iload_n 1, 1) := by decide +kernel
theorem dX0_wanted_2 : decode cX0_wanted 2 = .ok (.invokevirtual 62, 3) := by decide +kernel
theorem dX0_wanted_5 : decode cX0_wanted 5 = .ok (.ifCond .eq 5, 3) := by decide +kernel
theorem dX0_wanted_8 : decode cX0_wanted 8 = .ok (.iconst 0, 1) := by decide +kernel
theorem dX0_wanted_9 : decode cX0_wanted 9 = .ok (.ireturn, 1) := by decide +kernel
theorem dX0_wanted_10 : decode cX0_wanted 10 = .ok (.aload_n 0, 1) := by decide +kernel
theorem dX0_wanted_11 : decode cX0_wanted 11 = .ok (.getfield 15, 3) := by decide +kernel
theorem dX0_wanted_14 : decode cX0_wanted 14 = .ok (.iload_n 1, 1) := by decide +kernel
theorem dX0_wanted_15 : decode cX0_wanted 15 = .ok (.iaload, 1) := by decide +kernel
theorem dX0_wanted_16 : decode cX0_wanted 16 = .ok (.tableswitch 72 1 3 #[28, 42, 56], 28) := by decide +kernel
theorem dX0_wanted_44 : decode cX0_wanted 44 = .ok (.iconst 0, 1) := by decide +kernel
theorem dX0_wanted_45 : decode cX0_wanted 45 = .ok (.bipush 10, 2) := by decide +kernel
theorem dX0_wanted_47 : decode cX0_wanted 47 = .ok (.aload_n 0, 1) := by decide +kernel
theorem dX0_wanted_48 : decode cX0_wanted 48 = .ok (.getfield 22, 3) := by decide +kernel
theorem dX0_wanted_51 : decode cX0_wanted 51 = .ok (.iload_n 1, 1) := by decide +kernel
theorem dX0_wanted_52 : decode cX0_wanted 52 = .ok (.iaload, 1) := by decide +kernel
theorem dX0_wanted_53 : decode cX0_wanted 53 = .ok (.isub, 1) := by decide +kernel
theorem dX0_wanted_54 : decode cX0_wanted 54 = .ok (.invokestatic 66, 3) := by decide +kernel
theorem dX0_wanted_57 : decode cX0_wanted 57 = .ok (.ireturn, 1) := by decide +kernel
theorem dX0_wanted_58 : decode cX0_wanted 58 = .ok (.aload_n 0, 1) := by decide +kernel
theorem dX0_wanted_59 : decode cX0_wanted 59 = .ok (.invokevirtual 72, 3) := by decide +kernel
theorem dX0_wanted_62 : decode cX0_wanted 62 = .ok (.iload_n 1, 1) := by decide +kernel
theorem dX0_wanted_63 : decode cX0_wanted 63 = .ok (.if_icmp .ne 7, 3) := by decide +kernel
theorem dX0_wanted_66 : decode cX0_wanted 66 = .ok (.iconst 2, 1) := by decide +kernel
theorem dX0_wanted_67 : decode cX0_wanted 67 = .ok (.goto 4, 3) := by decide +kernel
theorem dX0_wanted_70 : decode cX0_wanted 70 = .ok (.iconst 1, 1) := by decide +kernel
theorem dX0_wanted_71 : decode cX0_wanted 71 = .ok (.ireturn, 1) := by decide +kernel
theorem dX0_wanted_72 : decode cX0_wanted 72 = .ok (.aload_n 0, 1) := by decide +kernel
theorem dX0_wanted_73 : decode cX0_wanted 73 = .ok (.getfield 22, 3) := by decide +kernel
theorem dX0_wanted_76 : decode cX0_wanted 76 = .ok (.iload_n 1, 1) := by decide +kernel
theorem dX0_wanted_77 : decode cX0_wanted 77 = .ok (.iaload, 1) := by decide +kernel
theorem dX0_wanted_78 : decode cX0_wanted 78 = .ok (.iconst 4, 1) := by decide +kernel
theorem dX0_wanted_79 : decode cX0_wanted 79 = .ok (.if_icmp .gt 7, 3) := by decide +kernel
theorem dX0_wanted_82 : decode cX0_wanted 82 = .ok (.iconst 2, 1) := by decide +kernel
theorem dX0_wanted_83 : decode cX0_wanted 83 = .ok (.goto 4, 3) := by decide +kernel
theorem dX0_wanted_86 : decode cX0_wanted 86 = .ok (.iconst 0, 1) := by decide +kernel
theorem dX0_wanted_87 : decode cX0_wanted 87 = .ok (.ireturn, 1) := by decide +kernel
theorem dX0_wanted_88 : decode cX0_wanted 88 = .ok (.iconst 1, 1) := by decide +kernel
theorem dX0_wanted_89 : decode cX0_wanted 89 = .ok (.ireturn, 1) := by decide +kernel
theorem dX0_drinkerFor_0 : decode cX0_drinkerFor 0 = .ok (.iload_n 1, 1) := by decide +kernel
theorem dX0_drinkerFor_1 : decode cX0_drinkerFor 1 = .ok (.istore_n 2, 1) := by decide +kernel
theorem dX0_drinkerFor_2 : decode cX0_drinkerFor 2 = .ok (.aload_n 0, 1) := by decide +kernel
theorem dX0_drinkerFor_3 : decode cX0_drinkerFor 3 = .ok (.getfield 15, 3) := by decide +kernel
theorem dX0_drinkerFor_6 : decode cX0_drinkerFor 6 = .ok (.iload_n 1, 1) := by decide +kernel
theorem dX0_drinkerFor_7 : decode cX0_drinkerFor 7 = .ok (.iaload, 1) := by decide +kernel
theorem dX0_drinkerFor_8 : decode cX0_drinkerFor 8 = .ok (.iconst 4, 1) := by decide +kernel
theorem dX0_drinkerFor_9 : decode cX0_drinkerFor 9 = .ok (.if_icmp .ne 44, 3) := by decide +kernel
theorem dX0_drinkerFor_12 : decode cX0_drinkerFor 12 = .ok (.iconst 0, 1) := by decide +kernel
theorem dX0_drinkerFor_13 : decode cX0_drinkerFor 13 = .ok (.istore_n 3, 1) := by decide +kernel
theorem dX0_drinkerFor_14 : decode cX0_drinkerFor 14 = .ok (.iload_n 3, 1) := by decide +kernel
theorem dX0_drinkerFor_15 : decode cX0_drinkerFor 15 = .ok (.aload_n 0, 1) := by decide +kernel
theorem dX0_drinkerFor_16 : decode cX0_drinkerFor 16 = .ok (.getfield 9, 3) := by decide +kernel
theorem dX0_drinkerFor_19 : decode cX0_drinkerFor 19 = .ok (.if_icmp .ge 34, 3) := by decide +kernel
theorem dX0_drinkerFor_22 : decode cX0_drinkerFor 22 = .ok (.aload_n 0, 1) := by decide +kernel
theorem dX0_drinkerFor_23 : decode cX0_drinkerFor 23 = .ok (.iload_n 3, 1) := by decide +kernel
theorem dX0_drinkerFor_24 : decode cX0_drinkerFor 24 = .ok (.invokevirtual 62, 3) := by decide +kernel
theorem dX0_drinkerFor_27 : decode cX0_drinkerFor 27 = .ok (.ifCond .ne 20, 3) := by decide +kernel
theorem dX0_drinkerFor_30 : decode cX0_drinkerFor 30 = .ok (.aload_n 0, 1) := by decide +kernel
theorem dX0_drinkerFor_31 : decode cX0_drinkerFor 31 = .ok (.getfield 22, 3) := by decide +kernel
theorem dX0_drinkerFor_34 : decode cX0_drinkerFor 34 = .ok (.iload_n 3, 1) := by decide +kernel
theorem dX0_drinkerFor_35 : decode cX0_drinkerFor 35 = .ok (.iaload, 1) := by decide +kernel
theorem dX0_drinkerFor_36 : decode cX0_drinkerFor 36 = .ok (.aload_n 0, 1) := by decide +kernel
theorem dX0_drinkerFor_37 : decode cX0_drinkerFor 37 = .ok (.getfield 22, 3) := by decide +kernel
theorem dX0_drinkerFor_40 : decode cX0_drinkerFor 40 = .ok (.iload_n 2, 1) := by decide +kernel
theorem dX0_drinkerFor_41 : decode cX0_drinkerFor 41 = .ok (.iaload, 1) := by decide +kernel
theorem dX0_drinkerFor_42 : decode cX0_drinkerFor 42 = .ok (.if_icmp .ge 5, 3) := by decide +kernel
theorem dX0_drinkerFor_45 : decode cX0_drinkerFor 45 = .ok (.iload_n 3, 1) := by decide +kernel
theorem dX0_drinkerFor_46 : decode cX0_drinkerFor 46 = .ok (.istore_n 2, 1) := by decide +kernel
theorem dX0_drinkerFor_47 : decode cX0_drinkerFor 47 = .ok (.iinc 3 1, 3) := by decide +kernel
theorem dX0_drinkerFor_50 : decode cX0_drinkerFor 50 = .ok (.goto (-36), 3) := by decide +kernel
theorem dX0_drinkerFor_53 : decode cX0_drinkerFor 53 = .ok (.iload_n 2, 1) := by decide +kernel
theorem dX0_drinkerFor_54 : decode cX0_drinkerFor 54 = .ok (.ireturn, 1) := by decide +kernel
theorem dX0_loss_0 : decode cX0_loss 0 = .ok (.aload_n 0, 1) := by decide +kernel
theorem dX0_loss_1 : decode cX0_loss 1 = .ok (.iload_n 1, 1) := by decide +kernel
theorem dX0_loss_2 : decode cX0_loss 2 = .ok (.invokevirtual 62, 3) := by decide +kernel
theorem dX0_loss_5 : decode cX0_loss 5 = .ok (.ifCond .eq 5, 3) := by decide +kernel
theorem dX0_loss_8 : decode cX0_loss 8 = .ok (.iconst 0, 1) := by decide +kernel
theorem dX0_loss_9 : decode cX0_loss 9 = .ok (.ireturn, 1) := by decide +kernel
theorem dX0_loss_10 : decode cX0_loss 10 = .ok (.aload_n 0, 1) := by decide +kernel
theorem dX0_loss_11 : decode cX0_loss 11 = .ok (.invokevirtual 76, 3) := by decide +kernel
theorem dX0_loss_14 : decode cX0_loss 14 = .ok (.ifCond .eq 7, 3) := by decide +kernel
theorem dX0_loss_17 : decode cX0_loss 17 = .ok (.iconst 1, 1) := by decide +kernel
theorem dX0_loss_18 : decode cX0_loss 18 = .ok (.goto 4, 3) := by decide +kernel
theorem dX0_loss_21 : decode cX0_loss 21 = .ok (.iconst 0, 1) := by decide +kernel
theorem dX0_loss_22 : decode cX0_loss 22 = .ok (.iload_n 2, 1) := by decide +kernel
theorem dX0_loss_23 : decode cX0_loss 23 = .ok (.ifCond .eq 7, 3) := by decide +kernel
theorem dX0_loss_26 : decode cX0_loss 26 = .ok (.iconst 1, 1) := by decide +kernel
theorem dX0_loss_27 : decode cX0_loss 27 = .ok (.goto 4, 3) := by decide +kernel
theorem dX0_loss_30 : decode cX0_loss 30 = .ok (.iconst 0, 1) := by decide +kernel
theorem dX0_loss_31 : decode cX0_loss 31 = .ok (.iadd, 1) := by decide +kernel
theorem dX0_loss_32 : decode cX0_loss 32 = .ok (.istore_n 3, 1) := by decide +kernel
theorem dX0_loss_33 : decode cX0_loss 33 = .ok (.aload_n 0, 1) := by decide +kernel
theorem dX0_loss_34 : decode cX0_loss 34 = .ok (.getfield 19, 3) := by decide +kernel
theorem dX0_loss_37 : decode cX0_loss 37 = .ok (.iload_n 1, 1) := by decide +kernel
theorem dX0_loss_38 : decode cX0_loss 38 = .ok (.iaload, 1) := by decide +kernel
theorem dX0_loss_39 : decode cX0_loss 39 = .ok (.iconst 3, 1) := by decide +kernel
theorem dX0_loss_40 : decode cX0_loss 40 = .ok (.if_icmp .eq 22, 3) := by decide +kernel
theorem dX0_loss_43 : decode cX0_loss 43 = .ok (.aload_n 0, 1) := by decide +kernel
theorem dX0_loss_44 : decode cX0_loss 44 = .ok (.getfield 19, 3) := by decide +kernel
theorem dX0_loss_47 : decode cX0_loss 47 = .ok (.iload_n 1, 1) := by decide +kernel
theorem dX0_loss_48 : decode cX0_loss 48 = .ok (.iaload, 1) := by decide +kernel
theorem dX0_loss_49 : decode cX0_loss 49 = .ok (.iconst 2, 1) := by decide +kernel
theorem dX0_loss_50 : decode cX0_loss 50 = .ok (.if_icmp .ne 15, 3) := by decide +kernel
theorem dX0_loss_53 : decode cX0_loss 53 = .ok (.aload_n 0, 1) := by decide +kernel
theorem dX0_loss_54 : decode cX0_loss 54 = .ok (.getfield 50, 3) := by decide +kernel
theorem dX0_loss_57 : decode cX0_loss 57 = .ok (.iconst 2, 1) := by decide +kernel
theorem dX0_loss_58 : decode cX0_loss 58 = .ok (.irem, 1) := by decide +kernel
theorem dX0_loss_59 : decode cX0_loss 59 = .ok (.ifCond .ne 6, 3) := by decide +kernel
theorem dX0_loss_62 : decode cX0_loss 62 = .ok (.iinc 3 1, 3) := by decide +kernel
theorem dX0_loss_65 : decode cX0_loss 65 = .ok (.iload_n 3, 1) := by decide +kernel
theorem dX0_loss_66 : decode cX0_loss 66 = .ok (.ireturn, 1) := by decide +kernel
theorem dX0_drinkAsAsked_0 : decode cX0_drinkAsAsked 0 = .ok (.iload_n 1, 1) := by decide +kernel
theorem dX0_drinkAsAsked_1 : decode cX0_drinkAsAsked 1 = .ok (.iconst 0, 1) := by decide +kernel
theorem dX0_drinkAsAsked_2 : decode cX0_drinkAsAsked 2 = .ok (.aload_n 0, 1) := by decide +kernel
theorem dX0_drinkAsAsked_3 : decode cX0_drinkAsAsked 3 = .ok (.getfield 9, 3) := by decide +kernel
theorem dX0_drinkAsAsked_6 : decode cX0_drinkAsAsked 6 = .ok (.iconst 1, 1) := by decide +kernel
theorem dX0_drinkAsAsked_7 : decode cX0_drinkAsAsked 7 = .ok (.isub, 1) := by decide +kernel
theorem dX0_drinkAsAsked_8 : decode cX0_drinkAsAsked 8 = .ok (.invokestatic 80, 3) := by decide +kernel
theorem dX0_drinkAsAsked_11 : decode cX0_drinkAsAsked 11 = .ok (.ifCond .eq 13, 3) := by decide +kernel
theorem dX0_drinkAsAsked_14 : decode cX0_drinkAsAsked 14 = .ok (.iload_n 2, 1) := by decide +kernel
theorem dX0_drinkAsAsked_15 : decode cX0_drinkAsAsked 15 = .ok (.iconst 0, 1) := by decide +kernel
theorem dX0_drinkAsAsked_16 : decode cX0_drinkAsAsked 16 = .ok (.bipush 20, 2) := by decide +kernel
theorem dX0_drinkAsAsked_18 : decode cX0_drinkAsAsked 18 = .ok (.invokestatic 80, 3) := by decide +kernel
theorem dX0_drinkAsAsked_21 : decode cX0_drinkAsAsked 21 = .ok (.ifCond .ne 5, 3) := by decide +kernel
theorem dX0_drinkAsAsked_24 : decode cX0_drinkAsAsked 24 = .ok (.iconst (-1), 1) := by decide +kernel
theorem dX0_drinkAsAsked_25 : decode cX0_drinkAsAsked 25 = .ok (.ireturn, 1) := by decide +kernel
theorem dX0_drinkAsAsked_26 : decode cX0_drinkAsAsked 26 = .ok (.aload_n 0, 1) := by decide +kernel
theorem dX0_drinkAsAsked_27 : decode cX0_drinkAsAsked 27 = .ok (.iload_n 1, 1) := by decide +kernel
theorem dX0_drinkAsAsked_28 : decode cX0_drinkAsAsked 28 = .ok (.invokevirtual 62, 3) := by decide +kernel
theorem dX0_drinkAsAsked_31 : decode cX0_drinkAsAsked 31 = .ok (.ifCond .ne 11, 3) := by decide +kernel
theorem dX0_drinkAsAsked_34 : decode cX0_drinkAsAsked 34 = .ok (.iload_n 2, 1) := by decide +kernel
theorem dX0_drinkAsAsked_35 : decode cX0_drinkAsAsked 35 = .ok (.aload_n 0, 1) := by decide +kernel
theorem dX0_drinkAsAsked_36 : decode cX0_drinkAsAsked 36 = .ok (.getfield 41, 3) := by decide +kernel
theorem dX0_drinkAsAsked_39 : decode cX0_drinkAsAsked 39 = .ok (.if_icmp .le 6, 3) := by decide +kernel
theorem dX0_drinkAsAsked_42 : decode cX0_drinkAsAsked 42 = .ok (.bipush (-2), 2) := by decide +kernel
theorem dX0_drinkAsAsked_44 : decode cX0_drinkAsAsked 44 = .ok (.ireturn, 1) := by decide +kernel
theorem dX0_drinkAsAsked_45 : decode cX0_drinkAsAsked 45 = .ok (.aload_n 0, 1) := by decide +kernel
theorem dX0_drinkAsAsked_46 : decode cX0_drinkAsAsked 46 = .ok (.getfield 22, 3) := by decide +kernel
theorem dX0_drinkAsAsked_49 : decode cX0_drinkAsAsked 49 = .ok (.iload_n 1, 1) := by decide +kernel
theorem dX0_drinkAsAsked_50 : decode cX0_drinkAsAsked 50 = .ok (.iaload, 1) := by decide +kernel
theorem dX0_drinkAsAsked_51 : decode cX0_drinkAsAsked 51 = .ok (.iload_n 2, 1) := by decide +kernel
theorem dX0_drinkAsAsked_52 : decode cX0_drinkAsAsked 52 = .ok (.iadd, 1) := by decide +kernel
theorem dX0_drinkAsAsked_53 : decode cX0_drinkAsAsked 53 = .ok (.bipush 20, 2) := by decide +kernel
theorem dX0_drinkAsAsked_55 : decode cX0_drinkAsAsked 55 = .ok (.if_icmp .le 6, 3) := by decide +kernel
theorem dX0_drinkAsAsked_58 : decode cX0_drinkAsAsked 58 = .ok (.bipush (-3), 2) := by decide +kernel
theorem dX0_drinkAsAsked_60 : decode cX0_drinkAsAsked 60 = .ok (.ireturn, 1) := by decide +kernel
theorem dX0_drinkAsAsked_61 : decode cX0_drinkAsAsked 61 = .ok (.aload_n 0, 1) := by decide +kernel
theorem dX0_drinkAsAsked_62 : decode cX0_drinkAsAsked 62 = .ok (.getfield 22, 3) := by decide +kernel
theorem dX0_drinkAsAsked_65 : decode cX0_drinkAsAsked 65 = .ok (.iload_n 1, 1) := by decide +kernel
theorem dX0_drinkAsAsked_66 : decode cX0_drinkAsAsked 66 = .ok (.dup2, 1) := by decide +kernel
theorem dX0_drinkAsAsked_67 : decode cX0_drinkAsAsked 67 = .ok (.iaload, 1) := by decide +kernel
theorem dX0_drinkAsAsked_68 : decode cX0_drinkAsAsked 68 = .ok (.iload_n 2, 1) := by decide +kernel
theorem dX0_drinkAsAsked_69 : decode cX0_drinkAsAsked 69 = .ok (.iadd, 1) := by decide +kernel
theorem dX0_drinkAsAsked_70 : decode cX0_drinkAsAsked 70 = .ok (.iastore, 1) := by decide +kernel
theorem dX0_drinkAsAsked_71 : decode cX0_drinkAsAsked 71 = .ok (.aload_n 0, 1) := by decide +kernel
theorem dX0_drinkAsAsked_72 : decode cX0_drinkAsAsked 72 = .ok (.dup, 1) := by decide +kernel
theorem dX0_drinkAsAsked_73 : decode cX0_drinkAsAsked 73 = .ok (.getfield 41, 3) := by decide +kernel
theorem dX0_drinkAsAsked_76 : decode cX0_drinkAsAsked 76 = .ok (.iload_n 2, 1) := by decide +kernel
theorem dX0_drinkAsAsked_77 : decode cX0_drinkAsAsked 77 = .ok (.isub, 1) := by decide +kernel
theorem dX0_drinkAsAsked_78 : decode cX0_drinkAsAsked 78 = .ok (.putfield 41, 3) := by decide +kernel
theorem dX0_drinkAsAsked_81 : decode cX0_drinkAsAsked 81 = .ok (.aload_n 0, 1) := by decide +kernel
theorem dX0_drinkAsAsked_82 : decode cX0_drinkAsAsked 82 = .ok (.getfield 22, 3) := by decide +kernel
theorem dX0_drinkAsAsked_85 : decode cX0_drinkAsAsked 85 = .ok (.iload_n 1, 1) := by decide +kernel
theorem dX0_drinkAsAsked_86 : decode cX0_drinkAsAsked 86 = .ok (.iaload, 1) := by decide +kernel
theorem dX0_drinkAsAsked_87 : decode cX0_drinkAsAsked 87 = .ok (.ireturn, 1) := by decide +kernel
theorem dX0_walksBy_0 : decode cX0_walksBy 0 = .ok (.iload_n 1, 1) := by decide +kernel
theorem dX0_walksBy_1 : decode cX0_walksBy 1 = .ok (.tableswitch 47 0 2 #[27, 40, 45], 27) := by decide +kernel
theorem dX0_walksBy_28 : decode cX0_walksBy 28 = .ok (.aload_n 0, 1) := by decide +kernel
theorem dX0_walksBy_29 : decode cX0_walksBy 29 = .ok (.invokevirtual 76, 3) := by decide +kernel
theorem dX0_walksBy_32 : decode cX0_walksBy 32 = .ok (.ifCond .ne 7, 3) := by decide +kernel
theorem dX0_walksBy_35 : decode cX0_walksBy 35 = .ok (.iconst 1, 1) := by decide +kernel
theorem dX0_walksBy_36 : decode cX0_walksBy 36 = .ok (.goto 4, 3) := by decide +kernel
theorem dX0_walksBy_39 : decode cX0_walksBy 39 = .ok (.iconst 0, 1) := by decide +kernel
theorem dX0_walksBy_40 : decode cX0_walksBy 40 = .ok (.ireturn, 1) := by decide +kernel
theorem dX0_walksBy_41 : decode cX0_walksBy 41 = .ok (.aload_n 0, 1) := by decide +kernel
theorem dX0_walksBy_42 : decode cX0_walksBy 42 = .ok (.invokevirtual 76, 3) := by decide +kernel
theorem dX0_walksBy_45 : decode cX0_walksBy 45 = .ok (.ireturn, 1) := by decide +kernel
theorem dX0_walksBy_46 : decode cX0_walksBy 46 = .ok (.iconst 1, 1) := by decide +kernel
theorem dX0_walksBy_47 : decode cX0_walksBy 47 = .ok (.ireturn, 1) := by decide +kernel
theorem dX0_walksBy_48 : decode cX0_walksBy 48 = .ok (.iconst 0, 1) := by decide +kernel
theorem dX0_walksBy_49 : decode cX0_walksBy 49 = .ok (.ireturn, 1) := by decide +kernel
theorem dX0_passHours_0 : decode cX0_passHours 0 = .ok (.iconst 0, 1) := by decide +kernel
theorem dX0_passHours_1 : decode cX0_passHours 1 = .ok (.istore_n 3, 1) := by decide +kernel
theorem dX0_passHours_2 : decode cX0_passHours 2 = .ok (.iload_n 3, 1) := by decide +kernel
theorem dX0_passHours_3 : decode cX0_passHours 3 = .ok (.iload_n 1, 1) := by decide +kernel
theorem dX0_passHours_4 : decode cX0_passHours 4 = .ok (.if_icmp .ge 18, 3) := by decide +kernel
theorem dX0_passHours_7 : decode cX0_passHours 7 = .ok (.aload_n 0, 1) := by decide +kernel
theorem dX0_passHours_8 : decode cX0_passHours 8 = .ok (.aload_n 0, 1) := by decide +kernel
theorem dX0_passHours_9 : decode cX0_passHours 9 = .ok (.iload_n 2, 1) := by decide +kernel
theorem dX0_passHours_10 : decode cX0_passHours 10 = .ok (.invokevirtual 84, 3) := by decide +kernel
theorem dX0_passHours_13 : decode cX0_passHours 13 = .ok (.invokevirtual 87, 3) := by decide +kernel
theorem dX0_passHours_16 : decode cX0_passHours 16 = .ok (.iinc 3 1, 3) := by decide +kernel
theorem dX0_passHours_19 : decode cX0_passHours 19 = .ok (.goto (-17), 3) := by decide +kernel
theorem dX0_passHours_22 : decode cX0_passHours 22 = .ok (.return_, 1) := by decide +kernel
theorem dX0_passHour_0 : decode cX0_passHour 0 = .ok (.aload_n 0, 1) := by decide +kernel
theorem dX0_passHour_1 : decode cX0_passHour 1 = .ok (.invokevirtual 91, 3) := by decide +kernel
theorem dX0_passHour_4 : decode cX0_passHour 4 = .ok (.ifCond .ne 10, 3) := by decide +kernel
theorem dX0_passHour_7 : decode cX0_passHour 7 = .ok (.aload_n 0, 1) := by decide +kernel
theorem dX0_passHour_8 : decode cX0_passHour 8 = .ok (.invokevirtual 94, 3) := by decide +kernel
theorem dX0_passHour_11 : decode cX0_passHour 11 = .ok (.ifCond .ne 7, 3) := by decide +kernel
theorem dX0_passHour_14 : decode cX0_passHour 14 = .ok (.iconst 1, 1) := by decide +kernel
theorem dX0_passHour_15 : decode cX0_passHour 15 = .ok (.goto 4, 3) := by decide +kernel
theorem dX0_passHour_18 : decode cX0_passHour 18 = .ok (.iconst 0, 1) := by decide +kernel
theorem dX0_passHour_19 : decode cX0_passHour 19 = .ok (.istore_n 2, 1) := by decide +kernel
theorem dX0_passHour_20 : decode cX0_passHour 20 = .ok (.iload_n 2, 1) := by decide +kernel
theorem dX0_passHour_21 : decode cX0_passHour 21 = .ok (.ifCond .ne 46, 3) := by decide +kernel
theorem dX0_passHour_24 : decode cX0_passHour 24 = .ok (.aload_n 0, 1) := by decide +kernel
theorem dX0_passHour_25 : decode cX0_passHour 25 = .ok (.getfield 50, 3) := by decide +kernel
theorem dX0_passHour_28 : decode cX0_passHour 28 = .ok (.bipush 24, 2) := by decide +kernel
theorem dX0_passHour_30 : decode cX0_passHour 30 = .ok (.irem, 1) := by decide +kernel
theorem dX0_passHour_31 : decode cX0_passHour 31 = .ok (.iconst 4, 1) := by decide +kernel
theorem dX0_passHour_32 : decode cX0_passHour 32 = .ok (.if_icmp .ne 11, 3) := by decide +kernel
theorem dX0_passHour_35 : decode cX0_passHour 35 = .ok (.aload_n 0, 1) := by decide +kernel
theorem dX0_passHour_36 : decode cX0_passHour 36 = .ok (.aload_n 0, 1) := by decide +kernel
theorem dX0_passHour_37 : decode cX0_passHour 37 = .ok (.getfield 56, 3) := by decide +kernel
theorem dX0_passHour_40 : decode cX0_passHour 40 = .ok (.invokevirtual 97, 3) := by decide +kernel
theorem dX0_passHour_43 : decode cX0_passHour 43 = .ok (.aload_n 0, 1) := by decide +kernel
theorem dX0_passHour_44 : decode cX0_passHour 44 = .ok (.invokevirtual 101, 3) := by decide +kernel
theorem dX0_passHour_47 : decode cX0_passHour 47 = .ok (.aload_n 0, 1) := by decide +kernel
theorem dX0_passHour_48 : decode cX0_passHour 48 = .ok (.iload_n 1, 1) := by decide +kernel
theorem dX0_passHour_49 : decode cX0_passHour 49 = .ok (.invokevirtual 104, 3) := by decide +kernel
theorem dX0_passHour_52 : decode cX0_passHour 52 = .ok (.iload_n 1, 1) := by decide +kernel
theorem dX0_passHour_53 : decode cX0_passHour 53 = .ok (.ifCond .eq 14, 3) := by decide +kernel
theorem dX0_passHour_56 : decode cX0_passHour 56 = .ok (.aload_n 0, 1) := by decide +kernel
theorem dX0_passHour_57 : decode cX0_passHour 57 = .ok (.invokevirtual 94, 3) := by decide +kernel
theorem dX0_passHour_60 : decode cX0_passHour 60 = .ok (.ifCond .le 7, 3) := by decide +kernel
theorem dX0_passHour_63 : decode cX0_passHour 63 = .ok (.aload_n 0, 1) := by decide +kernel
theorem dX0_passHour_64 : decode cX0_passHour 64 = .ok (.invokevirtual 107, 3) := by decide +kernel
theorem dX0_passHour_67 : decode cX0_passHour 67 = .ok (.aload_n 0, 1) := by decide +kernel
theorem dX0_passHour_68 : decode cX0_passHour 68 = .ok (.dup, 1) := by decide +kernel
theorem dX0_passHour_69 : decode cX0_passHour 69 = .ok (.getfield 50, 3) := by decide +kernel
theorem dX0_passHour_72 : decode cX0_passHour 72 = .ok (.iconst 1, 1) := by decide +kernel
theorem dX0_passHour_73 : decode cX0_passHour 73 = .ok (.iadd, 1) := by decide +kernel
theorem dX0_passHour_74 : decode cX0_passHour 74 = .ok (.putfield 50, 3) := by decide +kernel
theorem dX0_passHour_77 : decode cX0_passHour 77 = .ok (.return_, 1) := by decide +kernel
theorem dX0_pourIn_0 : decode cX0_pourIn 0 = .ok (.aload_n 0, 1) := by decide +kernel
theorem dX0_pourIn_1 : decode cX0_pourIn 1 = .ok (.bipush 60, 2) := by decide +kernel
theorem dX0_pourIn_3 : decode cX0_pourIn 3 = .ok (.aload_n 0, 1) := by decide +kernel
theorem dX0_pourIn_4 : decode cX0_pourIn 4 = .ok (.getfield 41, 3) := by decide +kernel
theorem dX0_pourIn_7 : decode cX0_pourIn 7 = .ok (.iload_n 1, 1) := by decide +kernel
theorem dX0_pourIn_8 : decode cX0_pourIn 8 = .ok (.iadd, 1) := by decide +kernel
theorem dX0_pourIn_9 : decode cX0_pourIn 9 = .ok (.invokestatic 110, 3) := by decide +kernel
theorem dX0_pourIn_12 : decode cX0_pourIn 12 = .ok (.putfield 41, 3) := by decide +kernel
theorem dX0_pourIn_15 : decode cX0_pourIn 15 = .ok (.return_, 1) := by decide +kernel
theorem dX0_drinkRound_0 : decode cX0_drinkRound 0 = .ok (.aload_n 0, 1) := by decide +kernel
theorem dX0_drinkRound_1 : decode cX0_drinkRound 1 = .ok (.invokevirtual 72, 3) := by decide +kernel
theorem dX0_drinkRound_4 : decode cX0_drinkRound 4 = .ok (.istore_n 1, 1) := by decide +kernel
theorem dX0_drinkRound_5 : decode cX0_drinkRound 5 = .ok (.iconst 1, 1) := by decide +kernel
theorem dX0_drinkRound_6 : decode cX0_drinkRound 6 = .ok (.istore_n 2, 1) := by decide +kernel
theorem dX0_drinkRound_7 : decode cX0_drinkRound 7 = .ok (.iload_n 2, 1) := by decide +kernel
theorem dX0_drinkRound_8 : decode cX0_drinkRound 8 = .ok (.aload_n 0, 1) := by decide +kernel
theorem dX0_drinkRound_9 : decode cX0_drinkRound 9 = .ok (.getfield 9, 3) := by decide +kernel
theorem dX0_drinkRound_12 : decode cX0_drinkRound 12 = .ok (.if_icmp .gt 75, 3) := by decide +kernel
theorem dX0_drinkRound_15 : decode cX0_drinkRound 15 = .ok (.iload_n 1, 1) := by decide +kernel
theorem dX0_drinkRound_16 : decode cX0_drinkRound 16 = .ok (.iload_n 2, 1) := by decide +kernel
theorem dX0_drinkRound_17 : decode cX0_drinkRound 17 = .ok (.iadd, 1) := by decide +kernel
theorem dX0_drinkRound_18 : decode cX0_drinkRound 18 = .ok (.aload_n 0, 1) := by decide +kernel
theorem dX0_drinkRound_19 : decode cX0_drinkRound 19 = .ok (.getfield 9, 3) := by decide +kernel
theorem dX0_drinkRound_22 : decode cX0_drinkRound 22 = .ok (.irem, 1) := by decide +kernel
theorem dX0_drinkRound_23 : decode cX0_drinkRound 23 = .ok (.istore_n 3, 1) := by decide +kernel
theorem dX0_drinkRound_24 : decode cX0_drinkRound 24 = .ok (.aload_n 0, 1) := by decide +kernel
theorem dX0_drinkRound_25 : decode cX0_drinkRound 25 = .ok (.iload_n 3, 1) := by decide +kernel
theorem dX0_drinkRound_26 : decode cX0_drinkRound 26 = .ok (.invokevirtual 113, 3) := by decide +kernel
theorem dX0_drinkRound_29 : decode cX0_drinkRound 29 = .ok (.istore 4, 2) := by decide +kernel
theorem dX0_drinkRound_31 : decode cX0_drinkRound 31 = .ok (.aload_n 0, 1) := by decide +kernel
theorem dX0_drinkRound_32 : decode cX0_drinkRound 32 = .ok (.iload_n 3, 1) := by decide +kernel
theorem dX0_drinkRound_33 : decode cX0_drinkRound 33 = .ok (.invokevirtual 117, 3) := by decide +kernel
theorem dX0_drinkRound_36 : decode cX0_drinkRound 36 = .ok (.bipush 20, 2) := by decide +kernel
theorem dX0_drinkRound_38 : decode cX0_drinkRound 38 = .ok (.aload_n 0, 1) := by decide +kernel
theorem dX0_drinkRound_39 : decode cX0_drinkRound 39 = .ok (.getfield 22, 3) := by decide +kernel
theorem dX0_drinkRound_42 : decode cX0_drinkRound 42 = .ok (.iload 4, 2) := by decide +kernel
theorem dX0_drinkRound_44 : decode cX0_drinkRound 44 = .ok (.iaload, 1) := by decide +kernel
theorem dX0_drinkRound_45 : decode cX0_drinkRound 45 = .ok (.isub, 1) := by decide +kernel
theorem dX0_drinkRound_46 : decode cX0_drinkRound 46 = .ok (.aload_n 0, 1) := by decide +kernel
theorem dX0_drinkRound_47 : decode cX0_drinkRound 47 = .ok (.getfield 41, 3) := by decide +kernel
theorem dX0_drinkRound_50 : decode cX0_drinkRound 50 = .ok (.invokestatic 110, 3) := by decide +kernel
theorem dX0_drinkRound_53 : decode cX0_drinkRound 53 = .ok (.invokestatic 110, 3) := by decide +kernel
theorem dX0_drinkRound_56 : decode cX0_drinkRound 56 = .ok (.istore 5, 2) := by decide +kernel
theorem dX0_drinkRound_58 : decode cX0_drinkRound 58 = .ok (.aload_n 0, 1) := by decide +kernel
theorem dX0_drinkRound_59 : decode cX0_drinkRound 59 = .ok (.getfield 22, 3) := by decide +kernel
theorem dX0_drinkRound_62 : decode cX0_drinkRound 62 = .ok (.iload 4, 2) := by decide +kernel
theorem dX0_drinkRound_64 : decode cX0_drinkRound 64 = .ok (.dup2, 1) := by decide +kernel
theorem dX0_drinkRound_65 : decode cX0_drinkRound 65 = .ok (.iaload, 1) := by decide +kernel
theorem dX0_drinkRound_66 : decode cX0_drinkRound 66 = .ok (.iload 5, 2) := by decide +kernel
theorem dX0_drinkRound_68 : decode cX0_drinkRound 68 = .ok (.iadd, 1) := by decide +kernel
theorem dX0_drinkRound_69 : decode cX0_drinkRound 69 = .ok (.iastore, 1) := by decide +kernel
theorem dX0_drinkRound_70 : decode cX0_drinkRound 70 = .ok (.aload_n 0, 1) := by decide +kernel
theorem dX0_drinkRound_71 : decode cX0_drinkRound 71 = .ok (.dup, 1) := by decide +kernel
theorem dX0_drinkRound_72 : decode cX0_drinkRound 72 = .ok (.getfield 41, 3) := by decide +kernel
theorem dX0_drinkRound_75 : decode cX0_drinkRound 75 = .ok (.iload 5, 2) := by decide +kernel
theorem dX0_drinkRound_77 : decode cX0_drinkRound 77 = .ok (.isub, 1) := by decide +kernel
theorem dX0_drinkRound_78 : decode cX0_drinkRound 78 = .ok (.putfield 41, 3) := by decide +kernel
theorem dX0_drinkRound_81 : decode cX0_drinkRound 81 = .ok (.iinc 2 1, 3) := by decide +kernel
theorem dX0_drinkRound_84 : decode cX0_drinkRound 84 = .ok (.goto (-77), 3) := by decide +kernel
theorem dX0_drinkRound_87 : decode cX0_drinkRound 87 = .ok (.return_, 1) := by decide +kernel
theorem dX0_loseWater_0 : decode cX0_loseWater 0 = .ok (.iconst 0, 1) := by decide +kernel
theorem dX0_loseWater_1 : decode cX0_loseWater 1 = .ok (.istore_n 2, 1) := by decide +kernel
theorem dX0_loseWater_2 : decode cX0_loseWater 2 = .ok (.iload_n 2, 1) := by decide +kernel
theorem dX0_loseWater_3 : decode cX0_loseWater 3 = .ok (.aload_n 0, 1) := by decide +kernel
theorem dX0_loseWater_4 : decode cX0_loseWater 4 = .ok (.getfield 9, 3) := by decide +kernel
theorem dX0_loseWater_7 : decode cX0_loseWater 7 = .ok (.if_icmp .ge 32, 3) := by decide +kernel
theorem dX0_loseWater_10 : decode cX0_loseWater 10 = .ok (.aload_n 0, 1) := by decide +kernel
theorem dX0_loseWater_11 : decode cX0_loseWater 11 = .ok (.getfield 22, 3) := by decide +kernel
theorem dX0_loseWater_14 : decode cX0_loseWater 14 = .ok (.iload_n 2, 1) := by decide +kernel
theorem dX0_loseWater_15 : decode cX0_loseWater 15 = .ok (.iconst 0, 1) := by decide +kernel
theorem dX0_loseWater_16 : decode cX0_loseWater 16 = .ok (.aload_n 0, 1) := by decide +kernel
theorem dX0_loseWater_17 : decode cX0_loseWater 17 = .ok (.getfield 22, 3) := by decide +kernel
theorem dX0_loseWater_20 : decode cX0_loseWater 20 = .ok (.iload_n 2, 1) := by decide +kernel
theorem dX0_loseWater_21 : decode cX0_loseWater 21 = .ok (.iaload, 1) := by decide +kernel
theorem dX0_loseWater_22 : decode cX0_loseWater 22 = .ok (.aload_n 0, 1) := by decide +kernel
theorem dX0_loseWater_23 : decode cX0_loseWater 23 = .ok (.iload_n 2, 1) := by decide +kernel
theorem dX0_loseWater_24 : decode cX0_loseWater 24 = .ok (.iload_n 1, 1) := by decide +kernel
theorem dX0_loseWater_25 : decode cX0_loseWater 25 = .ok (.invokevirtual 120, 3) := by decide +kernel
theorem dX0_loseWater_28 : decode cX0_loseWater 28 = .ok (.isub, 1) := by decide +kernel
theorem dX0_loseWater_29 : decode cX0_loseWater 29 = .ok (.invokestatic 66, 3) := by decide +kernel
theorem dX0_loseWater_32 : decode cX0_loseWater 32 = .ok (.iastore, 1) := by decide +kernel
theorem dX0_loseWater_33 : decode cX0_loseWater 33 = .ok (.iinc 2 1, 3) := by decide +kernel
theorem dX0_loseWater_36 : decode cX0_loseWater 36 = .ok (.goto (-34), 3) := by decide +kernel
theorem dX0_loseWater_39 : decode cX0_loseWater 39 = .ok (.return_, 1) := by decide +kernel
theorem dX0_walkOn_0 : decode cX0_walkOn 0 = .ok (.aload_n 0, 1) := by decide +kernel
theorem dX0_walkOn_1 : decode cX0_walkOn 1 = .ok (.getfield 47, 3) := by decide +kernel
theorem dX0_walkOn_4 : decode cX0_walkOn 4 = .ok (.istore_n 1, 1) := by decide +kernel
theorem dX0_walkOn_5 : decode cX0_walkOn 5 = .ok (.aload_n 0, 1) := by decide +kernel
theorem dX0_walkOn_6 : decode cX0_walkOn 6 = .ok (.dup, 1) := by decide +kernel
theorem dX0_walkOn_7 : decode cX0_walkOn 7 = .ok (.getfield 47, 3) := by decide +kernel
theorem dX0_walkOn_10 : decode cX0_walkOn 10 = .ok (.aload_n 0, 1) := by decide +kernel
theorem dX0_walkOn_11 : decode cX0_walkOn 11 = .ok (.invokevirtual 76, 3) := by decide +kernel
theorem dX0_walkOn_14 : decode cX0_walkOn 14 = .ok (.ifCond .eq 7, 3) := by decide +kernel
theorem dX0_walkOn_17 : decode cX0_walkOn 17 = .ok (.iconst 2, 1) := by decide +kernel
theorem dX0_walkOn_18 : decode cX0_walkOn 18 = .ok (.goto 4, 3) := by decide +kernel
theorem dX0_walkOn_21 : decode cX0_walkOn 21 = .ok (.iconst 3, 1) := by decide +kernel
theorem dX0_walkOn_22 : decode cX0_walkOn 22 = .ok (.aload_n 0, 1) := by decide +kernel
theorem dX0_walkOn_23 : decode cX0_walkOn 23 = .ok (.invokevirtual 124, 3) := by decide +kernel
theorem dX0_walkOn_26 : decode cX0_walkOn 26 = .ok (.ifCond .eq 7, 3) := by decide +kernel
theorem dX0_walkOn_29 : decode cX0_walkOn 29 = .ok (.iconst 1, 1) := by decide +kernel
theorem dX0_walkOn_30 : decode cX0_walkOn 30 = .ok (.goto 4, 3) := by decide +kernel
theorem dX0_walkOn_33 : decode cX0_walkOn 33 = .ok (.iconst 0, 1) := by decide +kernel
theorem dX0_walkOn_34 : decode cX0_walkOn 34 = .ok (.isub, 1) := by decide +kernel
theorem dX0_walkOn_35 : decode cX0_walkOn 35 = .ok (.iadd, 1) := by decide +kernel
theorem dX0_walkOn_36 : decode cX0_walkOn 36 = .ok (.putfield 47, 3) := by decide +kernel
theorem dX0_walkOn_39 : decode cX0_walkOn 39 = .ok (.iconst 0, 1) := by decide +kernel
theorem dX0_walkOn_40 : decode cX0_walkOn 40 = .ok (.istore_n 2, 1) := by decide +kernel
theorem dX0_walkOn_41 : decode cX0_walkOn 41 = .ok (.iload_n 2, 1) := by decide +kernel
theorem dX0_walkOn_42 : decode cX0_walkOn 42 = .ok (.aload_n 0, 1) := by decide +kernel
theorem dX0_walkOn_43 : decode cX0_walkOn 43 = .ok (.getfield 25, 3) := by decide +kernel
theorem dX0_walkOn_46 : decode cX0_walkOn 46 = .ok (.if_icmp .ge 58, 3) := by decide +kernel
theorem dX0_walkOn_49 : decode cX0_walkOn 49 = .ok (.aload_n 0, 1) := by decide +kernel
theorem dX0_walkOn_50 : decode cX0_walkOn 50 = .ok (.getfield 37, 3) := by decide +kernel
theorem dX0_walkOn_53 : decode cX0_walkOn 53 = .ok (.iload_n 2, 1) := by decide +kernel
theorem dX0_walkOn_54 : decode cX0_walkOn 54 = .ok (.baload, 1) := by decide +kernel
theorem dX0_walkOn_55 : decode cX0_walkOn 55 = .ok (.ifCond .eq 43, 3) := by decide +kernel
theorem dX0_walkOn_58 : decode cX0_walkOn 58 = .ok (.aload_n 0, 1) := by decide +kernel
theorem dX0_walkOn_59 : decode cX0_walkOn 59 = .ok (.getfield 28, 3) := by decide +kernel
theorem dX0_walkOn_62 : decode cX0_walkOn 62 = .ok (.iload_n 2, 1) := by decide +kernel
theorem dX0_walkOn_63 : decode cX0_walkOn 63 = .ok (.iaload, 1) := by decide +kernel
theorem dX0_walkOn_64 : decode cX0_walkOn 64 = .ok (.iload_n 1, 1) := by decide +kernel
theorem dX0_walkOn_65 : decode cX0_walkOn 65 = .ok (.if_icmp .le 33, 3) := by decide +kernel
theorem dX0_walkOn_68 : decode cX0_walkOn 68 = .ok (.aload_n 0, 1) := by decide +kernel
theorem dX0_walkOn_69 : decode cX0_walkOn 69 = .ok (.getfield 28, 3) := by decide +kernel
theorem dX0_walkOn_72 : decode cX0_walkOn 72 = .ok (.iload_n 2, 1) := by decide +kernel
theorem dX0_walkOn_73 : decode cX0_walkOn 73 = .ok (.iaload, 1) := by decide +kernel
theorem dX0_walkOn_74 : decode cX0_walkOn 74 = .ok (.aload_n 0, 1) := by decide +kernel
theorem dX0_walkOn_75 : decode cX0_walkOn 75 = .ok (.getfield 47, 3) := by decide +kernel
theorem dX0_walkOn_78 : decode cX0_walkOn 78 = .ok (.if_icmp .gt 20, 3) := by decide +kernel
theorem dX0_walkOn_81 : decode cX0_walkOn 81 = .ok (.aload_n 0, 1) := by decide +kernel
theorem dX0_walkOn_82 : decode cX0_walkOn 82 = .ok (.aload_n 0, 1) := by decide +kernel
theorem dX0_walkOn_83 : decode cX0_walkOn 83 = .ok (.getfield 34, 3) := by decide +kernel
theorem dX0_walkOn_86 : decode cX0_walkOn 86 = .ok (.iload_n 2, 1) := by decide +kernel
theorem dX0_walkOn_87 : decode cX0_walkOn 87 = .ok (.iaload, 1) := by decide +kernel
theorem dX0_walkOn_88 : decode cX0_walkOn 88 = .ok (.invokevirtual 97, 3) := by decide +kernel
theorem dX0_walkOn_91 : decode cX0_walkOn 91 = .ok (.aload_n 0, 1) := by decide +kernel
theorem dX0_walkOn_92 : decode cX0_walkOn 92 = .ok (.getfield 37, 3) := by decide +kernel
theorem dX0_walkOn_95 : decode cX0_walkOn 95 = .ok (.iload_n 2, 1) := by decide +kernel
theorem dX0_walkOn_96 : decode cX0_walkOn 96 = .ok (.iconst 0, 1) := by decide +kernel
theorem dX0_walkOn_97 : decode cX0_walkOn 97 = .ok (.bastore, 1) := by decide +kernel
theorem dX0_walkOn_98 : decode cX0_walkOn 98 = .ok (.iinc 2 1, 3) := by decide +kernel
theorem dX0_walkOn_101 : decode cX0_walkOn 101 = .ok (.goto (-60), 3) := by decide +kernel
theorem dX0_walkOn_104 : decode cX0_walkOn 104 = .ok (.return_, 1) := by decide +kernel
theorem dX0_isSomeoneWeak_0 : decode cX0_isSomeoneWeak 0 = .ok (.iconst 0, 1) := by decide +kernel
theorem dX0_isSomeoneWeak_1 : decode cX0_isSomeoneWeak 1 = .ok (.istore_n 1, 1) := by decide +kernel
theorem dX0_isSomeoneWeak_2 : decode cX0_isSomeoneWeak 2 = .ok (.iload_n 1, 1) := by decide +kernel
theorem dX0_isSomeoneWeak_3 : decode cX0_isSomeoneWeak 3 = .ok (.aload_n 0, 1) := by decide +kernel
theorem dX0_isSomeoneWeak_4 : decode cX0_isSomeoneWeak 4 = .ok (.getfield 9, 3) := by decide +kernel
theorem dX0_isSomeoneWeak_7 : decode cX0_isSomeoneWeak 7 = .ok (.if_icmp .ge 29, 3) := by decide +kernel
theorem dX0_isSomeoneWeak_10 : decode cX0_isSomeoneWeak 10 = .ok (.aload_n 0, 1) := by decide +kernel
theorem dX0_isSomeoneWeak_11 : decode cX0_isSomeoneWeak 11 = .ok (.iload_n 1, 1) := by decide +kernel
theorem dX0_isSomeoneWeak_12 : decode cX0_isSomeoneWeak 12 = .ok (.invokevirtual 62, 3) := by decide +kernel
theorem dX0_isSomeoneWeak_15 : decode cX0_isSomeoneWeak 15 = .ok (.ifCond .ne 15, 3) := by decide +kernel
theorem dX0_isSomeoneWeak_18 : decode cX0_isSomeoneWeak 18 = .ok (.aload_n 0, 1) := by decide +kernel
theorem dX0_isSomeoneWeak_19 : decode cX0_isSomeoneWeak 19 = .ok (.getfield 22, 3) := by decide +kernel
theorem dX0_isSomeoneWeak_22 : decode cX0_isSomeoneWeak 22 = .ok (.iload_n 1, 1) := by decide +kernel
theorem dX0_isSomeoneWeak_23 : decode cX0_isSomeoneWeak 23 = .ok (.iaload, 1) := by decide +kernel
theorem dX0_isSomeoneWeak_24 : decode cX0_isSomeoneWeak 24 = .ok (.iconst 5, 1) := by decide +kernel
theorem dX0_isSomeoneWeak_25 : decode cX0_isSomeoneWeak 25 = .ok (.if_icmp .gt 5, 3) := by decide +kernel
theorem dX0_isSomeoneWeak_28 : decode cX0_isSomeoneWeak 28 = .ok (.iconst 1, 1) := by decide +kernel
theorem dX0_isSomeoneWeak_29 : decode cX0_isSomeoneWeak 29 = .ok (.ireturn, 1) := by decide +kernel
theorem dX0_isSomeoneWeak_30 : decode cX0_isSomeoneWeak 30 = .ok (.iinc 1 1, 3) := by decide +kernel
theorem dX0_isSomeoneWeak_33 : decode cX0_isSomeoneWeak 33 = .ok (.goto (-31), 3) := by decide +kernel
theorem dX0_isSomeoneWeak_36 : decode cX0_isSomeoneWeak 36 = .ok (.iconst 0, 1) := by decide +kernel
theorem dX0_isSomeoneWeak_37 : decode cX0_isSomeoneWeak 37 = .ok (.ireturn, 1) := by decide +kernel
theorem dX0_hoursToGoal_0 : decode cX0_hoursToGoal 0 = .ok (.iconst 0, 1) := by decide +kernel
theorem dX0_hoursToGoal_1 : decode cX0_hoursToGoal 1 = .ok (.istore_n 2, 1) := by decide +kernel
theorem dX0_hoursToGoal_2 : decode cX0_hoursToGoal 2 = .ok (.iload_n 2, 1) := by decide +kernel
theorem dX0_hoursToGoal_3 : decode cX0_hoursToGoal 3 = .ok (.bipush 96, 2) := by decide +kernel
theorem dX0_hoursToGoal_5 : decode cX0_hoursToGoal 5 = .ok (.if_icmp .ge 25, 3) := by decide +kernel
theorem dX0_hoursToGoal_8 : decode cX0_hoursToGoal 8 = .ok (.aload_n 0, 1) := by decide +kernel
theorem dX0_hoursToGoal_9 : decode cX0_hoursToGoal 9 = .ok (.invokevirtual 91, 3) := by decide +kernel
theorem dX0_hoursToGoal_12 : decode cX0_hoursToGoal 12 = .ok (.ifCond .ne 18, 3) := by decide +kernel
theorem dX0_hoursToGoal_15 : decode cX0_hoursToGoal 15 = .ok (.aload_n 0, 1) := by decide +kernel
theorem dX0_hoursToGoal_16 : decode cX0_hoursToGoal 16 = .ok (.aload_n 0, 1) := by decide +kernel
theorem dX0_hoursToGoal_17 : decode cX0_hoursToGoal 17 = .ok (.iload_n 1, 1) := by decide +kernel
theorem dX0_hoursToGoal_18 : decode cX0_hoursToGoal 18 = .ok (.invokevirtual 84, 3) := by decide +kernel
theorem dX0_hoursToGoal_21 : decode cX0_hoursToGoal 21 = .ok (.invokevirtual 87, 3) := by decide +kernel
theorem dX0_hoursToGoal_24 : decode cX0_hoursToGoal 24 = .ok (.iinc 2 1, 3) := by decide +kernel
theorem dX0_hoursToGoal_27 : decode cX0_hoursToGoal 27 = .ok (.goto (-25), 3) := by decide +kernel
theorem dX0_hoursToGoal_30 : decode cX0_hoursToGoal 30 = .ok (.iload_n 2, 1) := by decide +kernel
theorem dX0_hoursToGoal_31 : decode cX0_hoursToGoal 31 = .ok (.ireturn, 1) := by decide +kernel
theorem dX0_arrived_0 : decode cX0_arrived 0 = .ok (.aload_n 0, 1) := by decide +kernel
theorem dX0_arrived_1 : decode cX0_arrived 1 = .ok (.invokevirtual 91, 3) := by decide +kernel
theorem dX0_arrived_4 : decode cX0_arrived 4 = .ok (.ifCond .eq 10, 3) := by decide +kernel
theorem dX0_arrived_7 : decode cX0_arrived 7 = .ok (.aload_n 0, 1) := by decide +kernel
theorem dX0_arrived_8 : decode cX0_arrived 8 = .ok (.invokevirtual 94, 3) := by decide +kernel
theorem dX0_arrived_11 : decode cX0_arrived 11 = .ok (.goto 4, 3) := by decide +kernel
theorem dX0_arrived_14 : decode cX0_arrived 14 = .ok (.iconst 0, 1) := by decide +kernel
theorem dX0_arrived_15 : decode cX0_arrived 15 = .ok (.ireturn, 1) := by decide +kernel
end
section
theorem dX1_init_0 : decode cX1_init 0 = .ok (.aload_n 0, 1) := by decide +kernel
theorem dX1_init_1 : decode cX1_init 1 = .ok (.invokespecial 3, 3) := by decide +kernel
theorem dX1_init_4 : decode cX1_init 4 = .ok (.aload_n 0, 1) := by decide +kernel
theorem dX1_init_5 : decode cX1_init 5 = .ok (.bipush 40, 2) := by decide +kernel
theorem dX1_init_7 : decode cX1_init 7 = .ok (.newarray .int, 2) := by decide +kernel
theorem dX1_init_9 : decode cX1_init 9 = .ok (.putfield 9, 3) := by decide +kernel
theorem dX1_init_12 : decode cX1_init 12 = .ok (.aload_n 0, 1) := by decide +kernel
theorem dX1_init_13 : decode cX1_init 13 = .ok (.iconst 0, 1) := by decide +kernel
theorem dX1_init_14 : decode cX1_init 14 = .ok (.putfield 15, 3) := by decide +kernel
theorem dX1_init_17 : decode cX1_init 17 = .ok (.aload_n 0, 1) := by decide +kernel
theorem dX1_init_18 : decode cX1_init 18 = .ok (.iconst (-1), 1) := by decide +kernel
theorem dX1_init_19 : decode cX1_init 19 = .ok (.putfield 19, 3) := by decide +kernel
theorem dX1_init_22 : decode cX1_init 22 = .ok (.return_, 1) := by decide +kernel
theorem dX1_isNothing_0 : decode cX1_isNothing 0 = .ok (.aload_n 0, 1) := by decide +kernel
theorem dX1_isNothing_1 : decode cX1_isNothing 1 = .ok (.getfield 19, 3) := by decide +kernel
theorem dX1_isNothing_4 : decode cX1_isNothing 4 = .ok (.ifCond .ge 7, 3) := by decide +kernel
theorem dX1_isNothing_7 : decode cX1_isNothing 7 = .ok (.iconst 1, 1) := by decide +kernel
theorem dX1_isNothing_8 : decode cX1_isNothing 8 = .ok (.goto 4, 3) := by decide +kernel
theorem dX1_isNothing_11 : decode cX1_isNothing 11 = .ok (.iconst 0, 1) := by decide +kernel
theorem dX1_isNothing_12 : decode cX1_isNothing 12 = .ok (.ireturn, 1) := by decide +kernel
theorem dX1_renew_0 : decode cX1_renew 0 = .ok (.aload_n 0, 1) := by decide +kernel
theorem dX1_renew_1 : decode cX1_renew 1 = .ok (.iload_n 1, 1) := by decide +kernel
theorem dX1_renew_2 : decode cX1_renew 2 = .ok (.putfield 15, 3) := by decide +kernel
theorem dX1_renew_5 : decode cX1_renew 5 = .ok (.aload_n 0, 1) := by decide +kernel
theorem dX1_renew_6 : decode cX1_renew 6 = .ok (.iload_n 2, 1) := by decide +kernel
theorem dX1_renew_7 : decode cX1_renew 7 = .ok (.putfield 19, 3) := by decide +kernel
theorem dX1_renew_10 : decode cX1_renew 10 = .ok (.iconst 0, 1) := by decide +kernel
theorem dX1_renew_11 : decode cX1_renew 11 = .ok (.istore_n 3, 1) := by decide +kernel
theorem dX1_renew_12 : decode cX1_renew 12 = .ok (.iload_n 3, 1) := by decide +kernel
theorem dX1_renew_13 : decode cX1_renew 13 = .ok (.bipush 40, 2) := by decide +kernel
theorem dX1_renew_15 : decode cX1_renew 15 = .ok (.if_icmp .ge 16, 3) := by decide +kernel
theorem dX1_renew_18 : decode cX1_renew 18 = .ok (.aload_n 0, 1) := by decide +kernel
theorem dX1_renew_19 : decode cX1_renew 19 = .ok (.getfield 9, 3) := by decide +kernel
theorem dX1_renew_22 : decode cX1_renew 22 = .ok (.iload_n 3, 1) := by decide +kernel
theorem dX1_renew_23 : decode cX1_renew 23 = .ok (.iconst 0, 1) := by decide +kernel
theorem dX1_renew_24 : decode cX1_renew 24 = .ok (.iastore, 1) := by decide +kernel
theorem dX1_renew_25 : decode cX1_renew 25 = .ok (.iinc 3 1, 3) := by decide +kernel
theorem dX1_renew_28 : decode cX1_renew 28 = .ok (.goto (-16), 3) := by decide +kernel
theorem dX1_renew_31 : decode cX1_renew 31 = .ok (.return_, 1) := by decide +kernel
theorem dX1_faultAt_0 : decode cX1_faultAt 0 = .ok (.aload_n 0, 1) := by decide +kernel
theorem dX1_faultAt_1 : decode cX1_faultAt 1 = .ok (.invokevirtual 22, 3) := by decide +kernel
theorem dX1_faultAt_4 : decode cX1_faultAt 4 = .ok (.ifCond .eq 5, 3) := by decide +kernel
theorem dX1_faultAt_7 : decode cX1_faultAt 7 = .ok (.iconst 1, 1) := by decide +kernel
theorem dX1_faultAt_8 : decode cX1_faultAt 8 = .ok (.ireturn, 1) := by decide +kernel
theorem dX1_faultAt_9 : decode cX1_faultAt 9 = .ok (.iload_n 1, 1) := by decide +kernel
theorem dX1_faultAt_10 : decode cX1_faultAt 10 = .ok (.iconst 0, 1) := by decide +kernel
theorem dX1_faultAt_11 : decode cX1_faultAt 11 = .ok (.aload_n 0, 1) := by decide +kernel
theorem dX1_faultAt_12 : decode cX1_faultAt 12 = .ok (.getfield 19, 3) := by decide +kernel
theorem dX1_faultAt_15 : decode cX1_faultAt 15 = .ok (.iconst 1, 1) := by decide +kernel
theorem dX1_faultAt_16 : decode cX1_faultAt 16 = .ok (.isub, 1) := by decide +kernel
theorem dX1_faultAt_17 : decode cX1_faultAt 17 = .ok (.invokestatic 26, 3) := by decide +kernel
theorem dX1_faultAt_20 : decode cX1_faultAt 20 = .ok (.ifCond .eq 7, 3) := by decide +kernel
theorem dX1_faultAt_23 : decode cX1_faultAt 23 = .ok (.iconst 0, 1) := by decide +kernel
theorem dX1_faultAt_24 : decode cX1_faultAt 24 = .ok (.goto 4, 3) := by decide +kernel
theorem dX1_faultAt_27 : decode cX1_faultAt 27 = .ok (.iconst 2, 1) := by decide +kernel
theorem dX1_faultAt_28 : decode cX1_faultAt 28 = .ok (.ireturn, 1) := by decide +kernel
theorem dX1_faultOfPair_0 : decode cX1_faultOfPair 0 = .ok (.aload_n 0, 1) := by decide +kernel
theorem dX1_faultOfPair_1 : decode cX1_faultOfPair 1 = .ok (.invokevirtual 22, 3) := by decide +kernel
theorem dX1_faultOfPair_4 : decode cX1_faultOfPair 4 = .ok (.ifCond .ne 13, 3) := by decide +kernel
theorem dX1_faultOfPair_7 : decode cX1_faultOfPair 7 = .ok (.aload_n 0, 1) := by decide +kernel
theorem dX1_faultOfPair_8 : decode cX1_faultOfPair 8 = .ok (.getfield 15, 3) := by decide +kernel
theorem dX1_faultOfPair_11 : decode cX1_faultOfPair 11 = .ok (.iload_n 1, 1) := by decide +kernel
theorem dX1_faultOfPair_12 : decode cX1_faultOfPair 12 = .ok (.if_icmp .eq 5, 3) := by decide +kernel
theorem dX1_faultOfPair_15 : decode cX1_faultOfPair 15 = .ok (.iconst 3, 1) := by decide +kernel
theorem dX1_faultOfPair_16 : decode cX1_faultOfPair 16 = .ok (.ireturn, 1) := by decide +kernel
theorem dX1_faultOfPair_17 : decode cX1_faultOfPair 17 = .ok (.aload_n 0, 1) := by decide +kernel
theorem dX1_faultOfPair_18 : decode cX1_faultOfPair 18 = .ok (.iload_n 2, 1) := by decide +kernel
theorem dX1_faultOfPair_19 : decode cX1_faultOfPair 19 = .ok (.invokevirtual 30, 3) := by decide +kernel
theorem dX1_faultOfPair_22 : decode cX1_faultOfPair 22 = .ok (.istore_n 3, 1) := by decide +kernel
theorem dX1_faultOfPair_23 : decode cX1_faultOfPair 23 = .ok (.iload_n 3, 1) := by decide +kernel
theorem dX1_faultOfPair_24 : decode cX1_faultOfPair 24 = .ok (.ifCond .eq 7, 3) := by decide +kernel
theorem dX1_faultOfPair_27 : decode cX1_faultOfPair 27 = .ok (.iload_n 3, 1) := by decide +kernel
theorem dX1_faultOfPair_28 : decode cX1_faultOfPair 28 = .ok (.goto 10, 3) := by decide +kernel
theorem dX1_faultOfPair_31 : decode cX1_faultOfPair 31 = .ok (.aload_n 0, 1) := by decide +kernel
theorem dX1_faultOfPair_32 : decode cX1_faultOfPair 32 = .ok (.iload_n 2, 1) := by decide +kernel
theorem dX1_faultOfPair_33 : decode cX1_faultOfPair 33 = .ok (.iconst 1, 1) := by decide +kernel
theorem dX1_faultOfPair_34 : decode cX1_faultOfPair 34 = .ok (.iadd, 1) := by decide +kernel
theorem dX1_faultOfPair_35 : decode cX1_faultOfPair 35 = .ok (.invokevirtual 30, 3) := by decide +kernel
theorem dX1_faultOfPair_38 : decode cX1_faultOfPair 38 = .ok (.ireturn, 1) := by decide +kernel
theorem dX1_write_0 : decode cX1_write 0 = .ok (.aload_n 0, 1) := by decide +kernel
theorem dX1_write_1 : decode cX1_write 1 = .ok (.getfield 15, 3) := by decide +kernel
theorem dX1_write_4 : decode cX1_write 4 = .ok (.lookupswitch 50 #[(0, 28), (1, 39)], 28) := by decide +kernel
theorem dX1_write_32 : decode cX1_write 32 = .ok (.aload_n 0, 1) := by decide +kernel
theorem dX1_write_33 : decode cX1_write 33 = .ok (.getfield 9, 3) := by decide +kernel
theorem dX1_write_36 : decode cX1_write 36 = .ok (.iload_n 1, 1) := by decide +kernel
theorem dX1_write_37 : decode cX1_write 37 = .ok (.iload_n 2, 1) := by decide +kernel
theorem dX1_write_38 : decode cX1_write 38 = .ok (.i2b, 1) := by decide +kernel
theorem dX1_write_39 : decode cX1_write 39 = .ok (.iastore, 1) := by decide +kernel
theorem dX1_write_40 : decode cX1_write 40 = .ok (.goto 21, 3) := by decide +kernel
theorem dX1_write_43 : decode cX1_write 43 = .ok (.aload_n 0, 1) := by decide +kernel
theorem dX1_write_44 : decode cX1_write 44 = .ok (.getfield 9, 3) := by decide +kernel
theorem dX1_write_47 : decode cX1_write 47 = .ok (.iload_n 1, 1) := by decide +kernel
theorem dX1_write_48 : decode cX1_write 48 = .ok (.iload_n 2, 1) := by decide +kernel
theorem dX1_write_49 : decode cX1_write 49 = .ok (.i2s, 1) := by decide +kernel
theorem dX1_write_50 : decode cX1_write 50 = .ok (.iastore, 1) := by decide +kernel
theorem dX1_write_51 : decode cX1_write 51 = .ok (.goto 10, 3) := by decide +kernel
theorem dX1_write_54 : decode cX1_write 54 = .ok (.aload_n 0, 1) := by decide +kernel
theorem dX1_write_55 : decode cX1_write 55 = .ok (.getfield 9, 3) := by decide +kernel
theorem dX1_write_58 : decode cX1_write 58 = .ok (.iload_n 1, 1) := by decide +kernel
theorem dX1_write_59 : decode cX1_write 59 = .ok (.iload_n 2, 1) := by decide +kernel
theorem dX1_write_60 : decode cX1_write 60 = .ok (.iastore, 1) := by decide +kernel
theorem dX1_write_61 : decode cX1_write 61 = .ok (.return_, 1) := by decide +kernel
end
section
theorem dX2_init_0 : decode cX2_init 0 = .ok (.aload_n 0, 1) := by decide +kernel
theorem dX2_init_1 : decode cX2_init 1 = .ok (.invokespecial 3, 3) := by decide +kernel
theorem dX2_init_4 : decode cX2_init 4 = .ok (.aload_n 0, 1) := by decide +kernel
theorem dX2_init_5 : decode cX2_init 5 = .ok (.iconst 0, 1) := by decide +kernel
theorem dX2_init_6 : decode cX2_init 6 = .ok (.putfield 9, 3) := by decide +kernel
theorem dX2_init_9 : decode cX2_init 9 = .ok (.aload_n 0, 1) := by decide +kernel
theorem dX2_init_10 : decode cX2_init 10 = .ok (.iconst 0, 1) := by decide +kernel
theorem dX2_init_11 : decode cX2_init 11 = .ok (.putfield 15, 3) := by decide +kernel
theorem dX2_init_14 : decode cX2_init 14 = .ok (.aload_n 0, 1) := by decide +kernel
theorem dX2_init_15 : decode cX2_init 15 = .ok (.iconst 0, 1) := by decide +kernel
theorem dX2_init_16 : decode cX2_init 16 = .ok (.putfield 18, 3) := by decide +kernel
theorem dX2_init_19 : decode cX2_init 19 = .ok (.aload_n 0, 1) := by decide +kernel
theorem dX2_init_20 : decode cX2_init 20 = .ok (.iconst 0, 1) := by decide +kernel
theorem dX2_init_21 : decode cX2_init 21 = .ok (.putfield 21, 3) := by decide +kernel
theorem dX2_init_24 : decode cX2_init 24 = .ok (.aload_n 0, 1) := by decide +kernel
theorem dX2_init_25 : decode cX2_init 25 = .ok (.iconst 0, 1) := by decide +kernel
theorem dX2_init_26 : decode cX2_init 26 = .ok (.putfield 24, 3) := by decide +kernel
theorem dX2_init_29 : decode cX2_init 29 = .ok (.aload_n 0, 1) := by decide +kernel
theorem dX2_init_30 : decode cX2_init 30 = .ok (.iconst 0, 1) := by decide +kernel
theorem dX2_init_31 : decode cX2_init 31 = .ok (.putfield 27, 3) := by decide +kernel
theorem dX2_init_34 : decode cX2_init 34 = .ok (.aload_n 0, 1) := by decide +kernel
theorem dX2_init_35 : decode cX2_init 35 = .ok (.iconst 0, 1) := by decide +kernel
theorem dX2_init_36 : decode cX2_init 36 = .ok (.putfield 30, 3) := by decide +kernel
theorem dX2_init_39 : decode cX2_init 39 = .ok (.aload_n 0, 1) := by decide +kernel
theorem dX2_init_40 : decode cX2_init 40 = .ok (.iconst 0, 1) := by decide +kernel
theorem dX2_init_41 : decode cX2_init 41 = .ok (.putfield 33, 3) := by decide +kernel
theorem dX2_init_44 : decode cX2_init 44 = .ok (.aload_n 0, 1) := by decide +kernel
theorem dX2_init_45 : decode cX2_init 45 = .ok (.iconst 0, 1) := by decide +kernel
theorem dX2_init_46 : decode cX2_init 46 = .ok (.putfield 36, 3) := by decide +kernel
theorem dX2_init_49 : decode cX2_init 49 = .ok (.aload_n 0, 1) := by decide +kernel
theorem dX2_init_50 : decode cX2_init 50 = .ok (.iconst 0, 1) := by decide +kernel
theorem dX2_init_51 : decode cX2_init 51 = .ok (.putfield 39, 3) := by decide +kernel
theorem dX2_init_54 : decode cX2_init 54 = .ok (.aload_n 0, 1) := by decide +kernel
theorem dX2_init_55 : decode cX2_init 55 = .ok (.aload_n 1, 1) := by decide +kernel
theorem dX2_init_56 : decode cX2_init 56 = .ok (.putfield 42, 3) := by decide +kernel
theorem dX2_init_59 : decode cX2_init 59 = .ok (.aload_n 0, 1) := by decide +kernel
theorem dX2_init_60 : decode cX2_init 60 = .ok (.aload_n 2, 1) := by decide +kernel
theorem dX2_init_61 : decode cX2_init 61 = .ok (.putfield 46, 3) := by decide +kernel
theorem dX2_init_64 : decode cX2_init 64 = .ok (.return_, 1) := by decide +kernel
theorem dX2_readAll_0 : decode cX2_readAll 0 = .ok (.aload_n 0, 1) := by decide +kernel
theorem dX2_readAll_1 : decode cX2_readAll 1 = .ok (.iload_n 1, 1) := by decide +kernel
theorem dX2_readAll_2 : decode cX2_readAll 2 = .ok (.aload_n 0, 1) := by decide +kernel
theorem dX2_readAll_3 : decode cX2_readAll 3 = .ok (.getfield 42, 3) := by decide +kernel
theorem dX2_readAll_6 : decode cX2_readAll 6 = .ok (.arraylength, 1) := by decide +kernel
theorem dX2_readAll_7 : decode cX2_readAll 7 = .ok (.invokestatic 50, 3) := by decide +kernel
theorem dX2_readAll_10 : decode cX2_readAll 10 = .ok (.putfield 9, 3) := by decide +kernel
theorem dX2_readAll_13 : decode cX2_readAll 13 = .ok (.aload_n 0, 1) := by decide +kernel
theorem dX2_readAll_14 : decode cX2_readAll 14 = .ok (.getfield 46, 3) := by decide +kernel
theorem dX2_readAll_17 : decode cX2_readAll 17 = .ok (.invokevirtual 56, 3) := by decide +kernel
theorem dX2_readAll_20 : decode cX2_readAll 20 = .ok (.aload_n 0, 1) := by decide +kernel
theorem dX2_readAll_21 : decode cX2_readAll 21 = .ok (.iconst 0, 1) := by decide +kernel
theorem dX2_readAll_22 : decode cX2_readAll 22 = .ok (.putfield 21, 3) := by decide +kernel
theorem dX2_readAll_25 : decode cX2_readAll 25 = .ok (.aload_n 0, 1) := by decide +kernel
theorem dX2_readAll_26 : decode cX2_readAll 26 = .ok (.iconst 0, 1) := by decide +kernel
theorem dX2_readAll_27 : decode cX2_readAll 27 = .ok (.putfield 27, 3) := by decide +kernel
theorem dX2_readAll_30 : decode cX2_readAll 30 = .ok (.aload_n 0, 1) := by decide +kernel
theorem dX2_readAll_31 : decode cX2_readAll 31 = .ok (.iconst 0, 1) := by decide +kernel
theorem dX2_readAll_32 : decode cX2_readAll 32 = .ok (.putfield 30, 3) := by decide +kernel
theorem dX2_readAll_35 : decode cX2_readAll 35 = .ok (.aload_n 0, 1) := by decide +kernel
theorem dX2_readAll_36 : decode cX2_readAll 36 = .ok (.iconst 0, 1) := by decide +kernel
theorem dX2_readAll_37 : decode cX2_readAll 37 = .ok (.putfield 33, 3) := by decide +kernel
theorem dX2_readAll_40 : decode cX2_readAll 40 = .ok (.aload_n 0, 1) := by decide +kernel
theorem dX2_readAll_41 : decode cX2_readAll 41 = .ok (.iconst 0, 1) := by decide +kernel
theorem dX2_readAll_42 : decode cX2_readAll 42 = .ok (.putfield 36, 3) := by decide +kernel
theorem dX2_readAll_45 : decode cX2_readAll 45 = .ok (.aload_n 0, 1) := by decide +kernel
theorem dX2_readAll_46 : decode cX2_readAll 46 = .ok (.iconst 0, 1) := by decide +kernel
theorem dX2_readAll_47 : decode cX2_readAll 47 = .ok (.putfield 39, 3) := by decide +kernel
theorem dX2_readAll_50 : decode cX2_readAll 50 = .ok (.iconst 0, 1) := by decide +kernel
theorem dX2_readAll_51 : decode cX2_readAll 51 = .ok (.istore_n 2, 1) := by decide +kernel
theorem dX2_readAll_52 : decode cX2_readAll 52 = .ok (.iload_n 2, 1) := by decide +kernel
theorem dX2_readAll_53 : decode cX2_readAll 53 = .ok (.sipush 160, 3) := by decide +kernel
theorem dX2_readAll_56 : decode cX2_readAll 56 = .ok (.if_icmp .gt 43, 3) := by decide +kernel
theorem dX2_readAll_59 : decode cX2_readAll 59 = .ok (.aload_n 0, 1) := by decide +kernel
theorem dX2_readAll_60 : decode cX2_readAll 60 = .ok (.invokevirtual 61, 3) := by decide +kernel
theorem dX2_readAll_63 : decode cX2_readAll 63 = .ok (.ifCond .eq 36, 3) := by decide +kernel
theorem dX2_readAll_66 : decode cX2_readAll 66 = .ok (.aload_n 0, 1) := by decide +kernel
theorem dX2_readAll_67 : decode cX2_readAll 67 = .ok (.getfield 15, 3) := by decide +kernel
theorem dX2_readAll_70 : decode cX2_readAll 70 = .ok (.ifCond .eq 29, 3) := by decide +kernel
theorem dX2_readAll_73 : decode cX2_readAll 73 = .ok (.aload_n 0, 1) := by decide +kernel
theorem dX2_readAll_74 : decode cX2_readAll 74 = .ok (.invokevirtual 65, 3) := by decide +kernel
theorem dX2_readAll_77 : decode cX2_readAll 77 = .ok (.ifCond .ne 6, 3) := by decide +kernel
theorem dX2_readAll_80 : decode cX2_readAll 80 = .ok (.goto 19, 3) := by decide +kernel
theorem dX2_readAll_83 : decode cX2_readAll 83 = .ok (.aload_n 0, 1) := by decide +kernel
theorem dX2_readAll_84 : decode cX2_readAll 84 = .ok (.dup, 1) := by decide +kernel
theorem dX2_readAll_85 : decode cX2_readAll 85 = .ok (.getfield 33, 3) := by decide +kernel
theorem dX2_readAll_88 : decode cX2_readAll 88 = .ok (.iconst 1, 1) := by decide +kernel
theorem dX2_readAll_89 : decode cX2_readAll 89 = .ok (.iadd, 1) := by decide +kernel
theorem dX2_readAll_90 : decode cX2_readAll 90 = .ok (.putfield 33, 3) := by decide +kernel
theorem dX2_readAll_93 : decode cX2_readAll 93 = .ok (.iinc 2 1, 3) := by decide +kernel
theorem dX2_readAll_96 : decode cX2_readAll 96 = .ok (.goto (-44), 3) := by decide +kernel
theorem dX2_readAll_99 : decode cX2_readAll 99 = .ok (.aload_n 0, 1) := by decide +kernel
theorem dX2_readAll_100 : decode cX2_readAll 100 = .ok (.getfield 36, 3) := by decide +kernel
theorem dX2_readAll_103 : decode cX2_readAll 103 = .ok (.ifCond .ne 7, 3) := by decide +kernel
theorem dX2_readAll_106 : decode cX2_readAll 106 = .ok (.aload_n 0, 1) := by decide +kernel
theorem dX2_readAll_107 : decode cX2_readAll 107 = .ok (.invokevirtual 68, 3) := by decide +kernel
theorem dX2_readAll_110 : decode cX2_readAll 110 = .ok (.return_, 1) := by decide +kernel
theorem dX2_fail_0 : decode cX2_fail 0 = .ok (.aload_n 0, 1) := by decide +kernel
theorem dX2_fail_1 : decode cX2_fail 1 = .ok (.iload_n 1, 1) := by decide +kernel
theorem dX2_fail_2 : decode cX2_fail 2 = .ok (.putfield 36, 3) := by decide +kernel
theorem dX2_fail_5 : decode cX2_fail 5 = .ok (.aload_n 0, 1) := by decide +kernel
theorem dX2_fail_6 : decode cX2_fail 6 = .ok (.iload_n 2, 1) := by decide +kernel
theorem dX2_fail_7 : decode cX2_fail 7 = .ok (.putfield 39, 3) := by decide +kernel
theorem dX2_fail_10 : decode cX2_fail 10 = .ok (.iconst 0, 1) := by decide +kernel
theorem dX2_fail_11 : decode cX2_fail 11 = .ok (.ireturn, 1) := by decide +kernel
theorem dX2_dryUpWells_0 : decode cX2_dryUpWells 0 = .ok (.iconst 0, 1) := by decide +kernel
theorem dX2_dryUpWells_1 : decode cX2_dryUpWells 1 = .ok (.istore_n 1, 1) := by decide +kernel
theorem dX2_dryUpWells_2 : decode cX2_dryUpWells 2 = .ok (.iload_n 1, 1) := by decide +kernel
theorem dX2_dryUpWells_3 : decode cX2_dryUpWells 3 = .ok (.iconst 3, 1) := by decide +kernel
theorem dX2_dryUpWells_4 : decode cX2_dryUpWells 4 = .ok (.if_icmp .ge 54, 3) := by decide +kernel
theorem dX2_dryUpWells_7 : decode cX2_dryUpWells 7 = .ok (.aload_n 0, 1) := by decide +kernel
theorem dX2_dryUpWells_8 : decode cX2_dryUpWells 8 = .ok (.getfield 30, 3) := by decide +kernel
theorem dX2_dryUpWells_11 : decode cX2_dryUpWells 11 = .ok (.iload_n 1, 1) := by decide +kernel
theorem dX2_dryUpWells_12 : decode cX2_dryUpWells 12 = .ok (.ishr, 1) := by decide +kernel
theorem dX2_dryUpWells_13 : decode cX2_dryUpWells 13 = .ok (.iconst 1, 1) := by decide +kernel
theorem dX2_dryUpWells_14 : decode cX2_dryUpWells 14 = .ok (.iand, 1) := by decide +kernel
theorem dX2_dryUpWells_15 : decode cX2_dryUpWells 15 = .ok (.iconst 1, 1) := by decide +kernel
theorem dX2_dryUpWells_16 : decode cX2_dryUpWells 16 = .ok (.if_icmp .ne 36, 3) := by decide +kernel
theorem dX2_dryUpWells_19 : decode cX2_dryUpWells 19 = .ok (.iload_n 1, 1) := by decide +kernel
theorem dX2_dryUpWells_20 : decode cX2_dryUpWells 20 = .ok (.aload_n 0, 1) := by decide +kernel
theorem dX2_dryUpWells_21 : decode cX2_dryUpWells 21 = .ok (.getfield 46, 3) := by decide +kernel
theorem dX2_dryUpWells_24 : decode cX2_dryUpWells 24 = .ok (.getfield 71, 3) := by decide +kernel
theorem dX2_dryUpWells_27 : decode cX2_dryUpWells 27 = .ok (.if_icmp .lt 15, 3) := by decide +kernel
theorem dX2_dryUpWells_30 : decode cX2_dryUpWells 30 = .ok (.aload_n 0, 1) := by decide +kernel
theorem dX2_dryUpWells_31 : decode cX2_dryUpWells 31 = .ok (.bipush 6, 2) := by decide +kernel
theorem dX2_dryUpWells_33 : decode cX2_dryUpWells 33 = .ok (.aload_n 0, 1) := by decide +kernel
theorem dX2_dryUpWells_34 : decode cX2_dryUpWells 34 = .ok (.getfield 9, 3) := by decide +kernel
theorem dX2_dryUpWells_37 : decode cX2_dryUpWells 37 = .ok (.invokevirtual 74, 3) := by decide +kernel
theorem dX2_dryUpWells_40 : decode cX2_dryUpWells 40 = .ok (.pop, 1) := by decide +kernel
theorem dX2_dryUpWells_41 : decode cX2_dryUpWells 41 = .ok (.return_, 1) := by decide +kernel
theorem dX2_dryUpWells_42 : decode cX2_dryUpWells 42 = .ok (.aload_n 0, 1) := by decide +kernel
theorem dX2_dryUpWells_43 : decode cX2_dryUpWells 43 = .ok (.getfield 46, 3) := by decide +kernel
theorem dX2_dryUpWells_46 : decode cX2_dryUpWells 46 = .ok (.getfield 78, 3) := by decide +kernel
theorem dX2_dryUpWells_49 : decode cX2_dryUpWells 49 = .ok (.iload_n 1, 1) := by decide +kernel
theorem dX2_dryUpWells_50 : decode cX2_dryUpWells 50 = .ok (.iconst 0, 1) := by decide +kernel
theorem dX2_dryUpWells_51 : decode cX2_dryUpWells 51 = .ok (.bastore, 1) := by decide +kernel
theorem dX2_dryUpWells_52 : decode cX2_dryUpWells 52 = .ok (.iinc 1 1, 3) := by decide +kernel
theorem dX2_dryUpWells_55 : decode cX2_dryUpWells 55 = .ok (.goto (-53), 3) := by decide +kernel
theorem dX2_dryUpWells_58 : decode cX2_dryUpWells 58 = .ok (.return_, 1) := by decide +kernel
theorem dX2_nextToken_0 : decode cX2_nextToken 0 = .ok (.aload_n 0, 1) := by decide +kernel
theorem dX2_nextToken_1 : decode cX2_nextToken 1 = .ok (.aload_n 0, 1) := by decide +kernel
theorem dX2_nextToken_2 : decode cX2_nextToken 2 = .ok (.aload_n 0, 1) := by decide +kernel
theorem dX2_nextToken_3 : decode cX2_nextToken 3 = .ok (.getfield 21, 3) := by decide +kernel
theorem dX2_nextToken_6 : decode cX2_nextToken 6 = .ok (.bipush 32, 2) := by decide +kernel
theorem dX2_nextToken_8 : decode cX2_nextToken 8 = .ok (.bipush 32, 2) := by decide +kernel
theorem dX2_nextToken_10 : decode cX2_nextToken 10 = .ok (.invokevirtual 82, 3) := by decide +kernel
theorem dX2_nextToken_13 : decode cX2_nextToken 13 = .ok (.putfield 18, 3) := by decide +kernel
theorem dX2_nextToken_16 : decode cX2_nextToken 16 = .ok (.aload_n 0, 1) := by decide +kernel
theorem dX2_nextToken_17 : decode cX2_nextToken 17 = .ok (.aload_n 0, 1) := by decide +kernel
theorem dX2_nextToken_18 : decode cX2_nextToken 18 = .ok (.getfield 9, 3) := by decide +kernel
theorem dX2_nextToken_21 : decode cX2_nextToken 21 = .ok (.putfield 21, 3) := by decide +kernel
theorem dX2_nextToken_24 : decode cX2_nextToken 24 = .ok (.aload_n 0, 1) := by decide +kernel
theorem dX2_nextToken_25 : decode cX2_nextToken 25 = .ok (.getfield 18, 3) := by decide +kernel
theorem dX2_nextToken_28 : decode cX2_nextToken 28 = .ok (.aload_n 0, 1) := by decide +kernel
theorem dX2_nextToken_29 : decode cX2_nextToken 29 = .ok (.getfield 9, 3) := by decide +kernel
theorem dX2_nextToken_32 : decode cX2_nextToken 32 = .ok (.if_icmp .lt 10, 3) := by decide +kernel
theorem dX2_nextToken_35 : decode cX2_nextToken 35 = .ok (.aload_n 0, 1) := by decide +kernel
theorem dX2_nextToken_36 : decode cX2_nextToken 36 = .ok (.iconst 0, 1) := by decide +kernel
theorem dX2_nextToken_37 : decode cX2_nextToken 37 = .ok (.putfield 15, 3) := by decide +kernel
theorem dX2_nextToken_40 : decode cX2_nextToken 40 = .ok (.iconst 1, 1) := by decide +kernel
theorem dX2_nextToken_41 : decode cX2_nextToken 41 = .ok (.ireturn, 1) := by decide +kernel
theorem dX2_nextToken_42 : decode cX2_nextToken 42 = .ok (.aload_n 0, 1) := by decide +kernel
theorem dX2_nextToken_43 : decode cX2_nextToken 43 = .ok (.getfield 42, 3) := by decide +kernel
theorem dX2_nextToken_46 : decode cX2_nextToken 46 = .ok (.aload_n 0, 1) := by decide +kernel
theorem dX2_nextToken_47 : decode cX2_nextToken 47 = .ok (.getfield 18, 3) := by decide +kernel
theorem dX2_nextToken_50 : decode cX2_nextToken 50 = .ok (.baload, 1) := by decide +kernel
theorem dX2_nextToken_51 : decode cX2_nextToken 51 = .ok (.istore_n 1, 1) := by decide +kernel
theorem dX2_nextToken_52 : decode cX2_nextToken 52 = .ok (.iload_n 1, 1) := by decide +kernel
theorem dX2_nextToken_53 : decode cX2_nextToken 53 = .ok (.bipush 97, 2) := by decide +kernel
theorem dX2_nextToken_55 : decode cX2_nextToken 55 = .ok (.bipush 122, 2) := by decide +kernel
theorem dX2_nextToken_57 : decode cX2_nextToken 57 = .ok (.invokestatic 86, 3) := by decide +kernel
theorem dX2_nextToken_60 : decode cX2_nextToken 60 = .ok (.ifCond .eq 26, 3) := by decide +kernel
theorem dX2_nextToken_63 : decode cX2_nextToken 63 = .ok (.aload_n 0, 1) := by decide +kernel
theorem dX2_nextToken_64 : decode cX2_nextToken 64 = .ok (.iconst 1, 1) := by decide +kernel
theorem dX2_nextToken_65 : decode cX2_nextToken 65 = .ok (.putfield 15, 3) := by decide +kernel
theorem dX2_nextToken_68 : decode cX2_nextToken 68 = .ok (.aload_n 0, 1) := by decide +kernel
theorem dX2_nextToken_69 : decode cX2_nextToken 69 = .ok (.aload_n 0, 1) := by decide +kernel
theorem dX2_nextToken_70 : decode cX2_nextToken 70 = .ok (.aload_n 0, 1) := by decide +kernel
theorem dX2_nextToken_71 : decode cX2_nextToken 71 = .ok (.getfield 18, 3) := by decide +kernel
theorem dX2_nextToken_74 : decode cX2_nextToken 74 = .ok (.bipush 97, 2) := by decide +kernel
theorem dX2_nextToken_76 : decode cX2_nextToken 76 = .ok (.bipush 122, 2) := by decide +kernel
theorem dX2_nextToken_78 : decode cX2_nextToken 78 = .ok (.invokevirtual 82, 3) := by decide +kernel
theorem dX2_nextToken_81 : decode cX2_nextToken 81 = .ok (.putfield 21, 3) := by decide +kernel
theorem dX2_nextToken_84 : decode cX2_nextToken 84 = .ok (.iconst 1, 1) := by decide +kernel
theorem dX2_nextToken_85 : decode cX2_nextToken 85 = .ok (.ireturn, 1) := by decide +kernel
theorem dX2_nextToken_86 : decode cX2_nextToken 86 = .ok (.iload_n 1, 1) := by decide +kernel
theorem dX2_nextToken_87 : decode cX2_nextToken 87 = .ok (.bipush 48, 2) := by decide +kernel
theorem dX2_nextToken_89 : decode cX2_nextToken 89 = .ok (.bipush 57, 2) := by decide +kernel
theorem dX2_nextToken_91 : decode cX2_nextToken 91 = .ok (.invokestatic 86, 3) := by decide +kernel
theorem dX2_nextToken_94 : decode cX2_nextToken 94 = .ok (.ifCond .eq 101, 3) := by decide +kernel
theorem dX2_nextToken_97 : decode cX2_nextToken 97 = .ok (.aload_n 0, 1) := by decide +kernel
theorem dX2_nextToken_98 : decode cX2_nextToken 98 = .ok (.iconst 2, 1) := by decide +kernel
theorem dX2_nextToken_99 : decode cX2_nextToken 99 = .ok (.putfield 15, 3) := by decide +kernel
theorem dX2_nextToken_102 : decode cX2_nextToken 102 = .ok (.aload_n 0, 1) := by decide +kernel
theorem dX2_nextToken_103 : decode cX2_nextToken 103 = .ok (.aload_n 0, 1) := by decide +kernel
theorem dX2_nextToken_104 : decode cX2_nextToken 104 = .ok (.aload_n 0, 1) := by decide +kernel
theorem dX2_nextToken_105 : decode cX2_nextToken 105 = .ok (.getfield 18, 3) := by decide +kernel
theorem dX2_nextToken_108 : decode cX2_nextToken 108 = .ok (.bipush 48, 2) := by decide +kernel
theorem dX2_nextToken_110 : decode cX2_nextToken 110 = .ok (.bipush 57, 2) := by decide +kernel
theorem dX2_nextToken_112 : decode cX2_nextToken 112 = .ok (.invokevirtual 82, 3) := by decide +kernel
theorem dX2_nextToken_115 : decode cX2_nextToken 115 = .ok (.putfield 21, 3) := by decide +kernel
theorem dX2_nextToken_118 : decode cX2_nextToken 118 = .ok (.aload_n 0, 1) := by decide +kernel
theorem dX2_nextToken_119 : decode cX2_nextToken 119 = .ok (.aload_n 0, 1) := by decide +kernel
theorem dX2_nextToken_120 : decode cX2_nextToken 120 = .ok (.getfield 21, 3) := by decide +kernel
theorem dX2_nextToken_123 : decode cX2_nextToken 123 = .ok (.aload_n 0, 1) := by decide +kernel
theorem dX2_nextToken_124 : decode cX2_nextToken 124 = .ok (.getfield 18, 3) := by decide +kernel
theorem dX2_nextToken_127 : decode cX2_nextToken 127 = .ok (.isub, 1) := by decide +kernel
theorem dX2_nextToken_128 : decode cX2_nextToken 128 = .ok (.iconst 1, 1) := by decide +kernel
theorem dX2_nextToken_129 : decode cX2_nextToken 129 = .ok (.if_icmp .ne 10, 3) := by decide +kernel
theorem dX2_nextToken_132 : decode cX2_nextToken 132 = .ok (.iload_n 1, 1) := by decide +kernel
theorem dX2_nextToken_133 : decode cX2_nextToken 133 = .ok (.bipush 48, 2) := by decide +kernel
theorem dX2_nextToken_135 : decode cX2_nextToken 135 = .ok (.isub, 1) := by decide +kernel
theorem dX2_nextToken_136 : decode cX2_nextToken 136 = .ok (.goto 25, 3) := by decide +kernel
theorem dX2_nextToken_139 : decode cX2_nextToken 139 = .ok (.iload_n 1, 1) := by decide +kernel
theorem dX2_nextToken_140 : decode cX2_nextToken 140 = .ok (.bipush 48, 2) := by decide +kernel
theorem dX2_nextToken_142 : decode cX2_nextToken 142 = .ok (.isub, 1) := by decide +kernel
theorem dX2_nextToken_143 : decode cX2_nextToken 143 = .ok (.bipush 10, 2) := by decide +kernel
theorem dX2_nextToken_145 : decode cX2_nextToken 145 = .ok (.imul, 1) := by decide +kernel
theorem dX2_nextToken_146 : decode cX2_nextToken 146 = .ok (.aload_n 0, 1) := by decide +kernel
theorem dX2_nextToken_147 : decode cX2_nextToken 147 = .ok (.getfield 42, 3) := by decide +kernel
theorem dX2_nextToken_150 : decode cX2_nextToken 150 = .ok (.aload_n 0, 1) := by decide +kernel
theorem dX2_nextToken_151 : decode cX2_nextToken 151 = .ok (.getfield 18, 3) := by decide +kernel
theorem dX2_nextToken_154 : decode cX2_nextToken 154 = .ok (.iconst 1, 1) := by decide +kernel
theorem dX2_nextToken_155 : decode cX2_nextToken 155 = .ok (.iadd, 1) := by decide +kernel
theorem dX2_nextToken_156 : decode cX2_nextToken 156 = .ok (.baload, 1) := by decide +kernel
theorem dX2_nextToken_157 : decode cX2_nextToken 157 = .ok (.iadd, 1) := by decide +kernel
theorem dX2_nextToken_158 : decode cX2_nextToken 158 = .ok (.bipush 48, 2) := by decide +kernel
theorem dX2_nextToken_160 : decode cX2_nextToken 160 = .ok (.isub, 1) := by decide +kernel
theorem dX2_nextToken_161 : decode cX2_nextToken 161 = .ok (.putfield 24, 3) := by decide +kernel
theorem dX2_nextToken_164 : decode cX2_nextToken 164 = .ok (.aload_n 0, 1) := by decide +kernel
theorem dX2_nextToken_165 : decode cX2_nextToken 165 = .ok (.getfield 21, 3) := by decide +kernel
theorem dX2_nextToken_168 : decode cX2_nextToken 168 = .ok (.aload_n 0, 1) := by decide +kernel
theorem dX2_nextToken_169 : decode cX2_nextToken 169 = .ok (.getfield 18, 3) := by decide +kernel
theorem dX2_nextToken_172 : decode cX2_nextToken 172 = .ok (.isub, 1) := by decide +kernel
theorem dX2_nextToken_173 : decode cX2_nextToken 173 = .ok (.iconst 2, 1) := by decide +kernel
theorem dX2_nextToken_174 : decode cX2_nextToken 174 = .ok (.if_icmp .le 15, 3) := by decide +kernel
theorem dX2_nextToken_177 : decode cX2_nextToken 177 = .ok (.aload_n 0, 1) := by decide +kernel
theorem dX2_nextToken_178 : decode cX2_nextToken 178 = .ok (.iconst 1, 1) := by decide +kernel
theorem dX2_nextToken_179 : decode cX2_nextToken 179 = .ok (.aload_n 0, 1) := by decide +kernel
theorem dX2_nextToken_180 : decode cX2_nextToken 180 = .ok (.getfield 18, 3) := by decide +kernel
theorem dX2_nextToken_183 : decode cX2_nextToken 183 = .ok (.invokevirtual 74, 3) := by decide +kernel
theorem dX2_nextToken_186 : decode cX2_nextToken 186 = .ok (.ifCond .eq 7, 3) := by decide +kernel
theorem dX2_nextToken_189 : decode cX2_nextToken 189 = .ok (.iconst 1, 1) := by decide +kernel
theorem dX2_nextToken_190 : decode cX2_nextToken 190 = .ok (.goto 4, 3) := by decide +kernel
theorem dX2_nextToken_193 : decode cX2_nextToken 193 = .ok (.iconst 0, 1) := by decide +kernel
theorem dX2_nextToken_194 : decode cX2_nextToken 194 = .ok (.ireturn, 1) := by decide +kernel
theorem dX2_nextToken_195 : decode cX2_nextToken 195 = .ok (.aload_n 0, 1) := by decide +kernel
theorem dX2_nextToken_196 : decode cX2_nextToken 196 = .ok (.iconst 3, 1) := by decide +kernel
theorem dX2_nextToken_197 : decode cX2_nextToken 197 = .ok (.putfield 15, 3) := by decide +kernel
theorem dX2_nextToken_200 : decode cX2_nextToken 200 = .ok (.aload_n 0, 1) := by decide +kernel
theorem dX2_nextToken_201 : decode cX2_nextToken 201 = .ok (.aload_n 0, 1) := by decide +kernel
theorem dX2_nextToken_202 : decode cX2_nextToken 202 = .ok (.getfield 18, 3) := by decide +kernel
theorem dX2_nextToken_205 : decode cX2_nextToken 205 = .ok (.iconst 1, 1) := by decide +kernel
theorem dX2_nextToken_206 : decode cX2_nextToken 206 = .ok (.iadd, 1) := by decide +kernel
theorem dX2_nextToken_207 : decode cX2_nextToken 207 = .ok (.putfield 21, 3) := by decide +kernel
theorem dX2_nextToken_210 : decode cX2_nextToken 210 = .ok (.iload_n 1, 1) := by decide +kernel
theorem dX2_nextToken_211 : decode cX2_nextToken 211 = .ok (.bipush 59, 2) := by decide +kernel
theorem dX2_nextToken_213 : decode cX2_nextToken 213 = .ok (.if_icmp .eq 15, 3) := by decide +kernel
theorem dX2_nextToken_216 : decode cX2_nextToken 216 = .ok (.aload_n 0, 1) := by decide +kernel
theorem dX2_nextToken_217 : decode cX2_nextToken 217 = .ok (.iconst 1, 1) := by decide +kernel
theorem dX2_nextToken_218 : decode cX2_nextToken 218 = .ok (.aload_n 0, 1) := by decide +kernel
theorem dX2_nextToken_219 : decode cX2_nextToken 219 = .ok (.getfield 18, 3) := by decide +kernel
theorem dX2_nextToken_222 : decode cX2_nextToken 222 = .ok (.invokevirtual 74, 3) := by decide +kernel
theorem dX2_nextToken_225 : decode cX2_nextToken 225 = .ok (.ifCond .eq 7, 3) := by decide +kernel
theorem dX2_nextToken_228 : decode cX2_nextToken 228 = .ok (.iconst 1, 1) := by decide +kernel
theorem dX2_nextToken_229 : decode cX2_nextToken 229 = .ok (.goto 4, 3) := by decide +kernel
theorem dX2_nextToken_232 : decode cX2_nextToken 232 = .ok (.iconst 0, 1) := by decide +kernel
theorem dX2_nextToken_233 : decode cX2_nextToken 233 = .ok (.ireturn, 1) := by decide +kernel
theorem dX2_endOfRun_0 : decode cX2_endOfRun 0 = .ok (.iload_n 1, 1) := by decide +kernel
theorem dX2_endOfRun_1 : decode cX2_endOfRun 1 = .ok (.istore 4, 2) := by decide +kernel
theorem dX2_endOfRun_3 : decode cX2_endOfRun 3 = .ok (.iload 4, 2) := by decide +kernel
theorem dX2_endOfRun_5 : decode cX2_endOfRun 5 = .ok (.aload_n 0, 1) := by decide +kernel
theorem dX2_endOfRun_6 : decode cX2_endOfRun 6 = .ok (.getfield 9, 3) := by decide +kernel
theorem dX2_endOfRun_9 : decode cX2_endOfRun 9 = .ok (.if_icmp .ge 31, 3) := by decide +kernel
theorem dX2_endOfRun_12 : decode cX2_endOfRun 12 = .ok (.aload_n 0, 1) := by decide +kernel
theorem dX2_endOfRun_13 : decode cX2_endOfRun 13 = .ok (.getfield 42, 3) := by decide +kernel
theorem dX2_endOfRun_16 : decode cX2_endOfRun 16 = .ok (.iload 4, 2) := by decide +kernel
theorem dX2_endOfRun_18 : decode cX2_endOfRun 18 = .ok (.baload, 1) := by decide +kernel
theorem dX2_endOfRun_19 : decode cX2_endOfRun 19 = .ok (.iload_n 2, 1) := by decide +kernel
theorem dX2_endOfRun_20 : decode cX2_endOfRun 20 = .ok (.if_icmp .lt 20, 3) := by decide +kernel
theorem dX2_endOfRun_23 : decode cX2_endOfRun 23 = .ok (.aload_n 0, 1) := by decide +kernel
theorem dX2_endOfRun_24 : decode cX2_endOfRun 24 = .ok (.getfield 42, 3) := by decide +kernel
theorem dX2_endOfRun_27 : decode cX2_endOfRun 27 = .ok (.iload 4, 2) := by decide +kernel
theorem dX2_endOfRun_29 : decode cX2_endOfRun 29 = .ok (.baload, 1) := by decide +kernel
theorem dX2_endOfRun_30 : decode cX2_endOfRun 30 = .ok (.iload_n 3, 1) := by decide +kernel
theorem dX2_endOfRun_31 : decode cX2_endOfRun 31 = .ok (.if_icmp .gt 9, 3) := by decide +kernel
theorem dX2_endOfRun_34 : decode cX2_endOfRun 34 = .ok (.iinc 4 1, 3) := by decide +kernel
theorem dX2_endOfRun_37 : decode cX2_endOfRun 37 = .ok (.goto (-34), 3) := by decide +kernel
theorem dX2_endOfRun_40 : decode cX2_endOfRun 40 = .ok (.iload 4, 2) := by decide +kernel
theorem dX2_endOfRun_42 : decode cX2_endOfRun 42 = .ok (.ireturn, 1) := by decide +kernel
theorem dX2_isName_0 : decode cX2_isName 0 = .ok (.aload_n 0, 1) := by decide +kernel
theorem dX2_isName_1 : decode cX2_isName 1 = .ok (.getfield 15, 3) := by decide +kernel
theorem dX2_isName_4 : decode cX2_isName 4 = .ok (.iconst 1, 1) := by decide +kernel
theorem dX2_isName_5 : decode cX2_isName 5 = .ok (.if_icmp .ne 19, 3) := by decide +kernel
theorem dX2_isName_8 : decode cX2_isName 8 = .ok (.aload_n 0, 1) := by decide +kernel
theorem dX2_isName_9 : decode cX2_isName 9 = .ok (.getfield 21, 3) := by decide +kernel
theorem dX2_isName_12 : decode cX2_isName 12 = .ok (.aload_n 0, 1) := by decide +kernel
theorem dX2_isName_13 : decode cX2_isName 13 = .ok (.getfield 18, 3) := by decide +kernel
theorem dX2_isName_16 : decode cX2_isName 16 = .ok (.isub, 1) := by decide +kernel
theorem dX2_isName_17 : decode cX2_isName 17 = .ok (.aload_n 1, 1) := by decide +kernel
theorem dX2_isName_18 : decode cX2_isName 18 = .ok (.invokevirtual 90, 3) := by decide +kernel
theorem dX2_isName_21 : decode cX2_isName 21 = .ok (.if_icmp .eq 5, 3) := by decide +kernel
theorem dX2_isName_24 : decode cX2_isName 24 = .ok (.iconst 0, 1) := by decide +kernel
theorem dX2_isName_25 : decode cX2_isName 25 = .ok (.ireturn, 1) := by decide +kernel
theorem dX2_isName_26 : decode cX2_isName 26 = .ok (.iconst 0, 1) := by decide +kernel
theorem dX2_isName_27 : decode cX2_isName 27 = .ok (.istore_n 2, 1) := by decide +kernel
theorem dX2_isName_28 : decode cX2_isName 28 = .ok (.iload_n 2, 1) := by decide +kernel
theorem dX2_isName_29 : decode cX2_isName 29 = .ok (.aload_n 1, 1) := by decide +kernel
theorem dX2_isName_30 : decode cX2_isName 30 = .ok (.invokevirtual 90, 3) := by decide +kernel
theorem dX2_isName_33 : decode cX2_isName 33 = .ok (.if_icmp .ge 30, 3) := by decide +kernel
theorem dX2_isName_36 : decode cX2_isName 36 = .ok (.aload_n 0, 1) := by decide +kernel
theorem dX2_isName_37 : decode cX2_isName 37 = .ok (.getfield 42, 3) := by decide +kernel
theorem dX2_isName_40 : decode cX2_isName 40 = .ok (.aload_n 0, 1) := by decide +kernel
theorem dX2_isName_41 : decode cX2_isName 41 = .ok (.getfield 18, 3) := by decide +kernel
theorem dX2_isName_44 : decode cX2_isName 44 = .ok (.iload_n 2, 1) := by decide +kernel
theorem dX2_isName_45 : decode cX2_isName 45 = .ok (.iadd, 1) := by decide +kernel
theorem dX2_isName_46 : decode cX2_isName 46 = .ok (.baload, 1) := by decide +kernel
theorem dX2_isName_47 : decode cX2_isName 47 = .ok (.aload_n 1, 1) := by decide +kernel
theorem dX2_isName_48 : decode cX2_isName 48 = .ok (.iload_n 2, 1) := by decide +kernel
theorem dX2_isName_49 : decode cX2_isName 49 = .ok (.invokevirtual 95, 3) := by decide +kernel
theorem dX2_isName_52 : decode cX2_isName 52 = .ok (.if_icmp .eq 5, 3) := by decide +kernel
theorem dX2_isName_55 : decode cX2_isName 55 = .ok (.iconst 0, 1) := by decide +kernel
theorem dX2_isName_56 : decode cX2_isName 56 = .ok (.ireturn, 1) := by decide +kernel
theorem dX2_isName_57 : decode cX2_isName 57 = .ok (.iinc 2 1, 3) := by decide +kernel
theorem dX2_isName_60 : decode cX2_isName 60 = .ok (.goto (-32), 3) := by decide +kernel
theorem dX2_isName_63 : decode cX2_isName 63 = .ok (.iconst 1, 1) := by decide +kernel
theorem dX2_isName_64 : decode cX2_isName 64 = .ok (.ireturn, 1) := by decide +kernel
theorem dX2_readLine_0 : decode cX2_readLine 0 = .ok (.aload_n 0, 1) := by decide +kernel
theorem dX2_readLine_1 : decode cX2_readLine 1 = .ok (.invokevirtual 99, 3) := by decide +kernel
theorem dX2_readLine_4 : decode cX2_readLine 4 = .ok (.istore_n 1, 1) := by decide +kernel
theorem dX2_readLine_5 : decode cX2_readLine 5 = .ok (.aload_n 0, 1) := by decide +kernel
theorem dX2_readLine_6 : decode cX2_readLine 6 = .ok (.getfield 27, 3) := by decide +kernel
theorem dX2_readLine_9 : decode cX2_readLine 9 = .ok (.iload_n 1, 1) := by decide +kernel
theorem dX2_readLine_10 : decode cX2_readLine 10 = .ok (.ishr, 1) := by decide +kernel
theorem dX2_readLine_11 : decode cX2_readLine 11 = .ok (.iconst 1, 1) := by decide +kernel
theorem dX2_readLine_12 : decode cX2_readLine 12 = .ok (.iand, 1) := by decide +kernel
theorem dX2_readLine_13 : decode cX2_readLine 13 = .ok (.iconst 1, 1) := by decide +kernel
theorem dX2_readLine_14 : decode cX2_readLine 14 = .ok (.if_icmp .ne 13, 3) := by decide +kernel
theorem dX2_readLine_17 : decode cX2_readLine 17 = .ok (.aload_n 0, 1) := by decide +kernel
theorem dX2_readLine_18 : decode cX2_readLine 18 = .ok (.iconst 4, 1) := by decide +kernel
theorem dX2_readLine_19 : decode cX2_readLine 19 = .ok (.aload_n 0, 1) := by decide +kernel
theorem dX2_readLine_20 : decode cX2_readLine 20 = .ok (.getfield 18, 3) := by decide +kernel
theorem dX2_readLine_23 : decode cX2_readLine 23 = .ok (.invokevirtual 74, 3) := by decide +kernel
theorem dX2_readLine_26 : decode cX2_readLine 26 = .ok (.ireturn, 1) := by decide +kernel
theorem dX2_readLine_27 : decode cX2_readLine 27 = .ok (.iload_n 1, 1) := by decide +kernel
theorem dX2_readLine_28 : decode cX2_readLine 28 = .ok (.iconst 3, 1) := by decide +kernel
theorem dX2_readLine_29 : decode cX2_readLine 29 = .ok (.if_icmp .lt 15, 3) := by decide +kernel
theorem dX2_readLine_32 : decode cX2_readLine 32 = .ok (.aload_n 0, 1) := by decide +kernel
theorem dX2_readLine_33 : decode cX2_readLine 33 = .ok (.dup, 1) := by decide +kernel
theorem dX2_readLine_34 : decode cX2_readLine 34 = .ok (.getfield 27, 3) := by decide +kernel
theorem dX2_readLine_37 : decode cX2_readLine 37 = .ok (.iconst 1, 1) := by decide +kernel
theorem dX2_readLine_38 : decode cX2_readLine 38 = .ok (.iload_n 1, 1) := by decide +kernel
theorem dX2_readLine_39 : decode cX2_readLine 39 = .ok (.ishl, 1) := by decide +kernel
theorem dX2_readLine_40 : decode cX2_readLine 40 = .ok (.ior, 1) := by decide +kernel
theorem dX2_readLine_41 : decode cX2_readLine 41 = .ok (.putfield 27, 3) := by decide +kernel
theorem dX2_readLine_44 : decode cX2_readLine 44 = .ok (.iload_n 1, 1) := by decide +kernel
theorem dX2_readLine_45 : decode cX2_readLine 45 = .ok (.tableswitch 207 0 7 #[47, 67, 87, 107, 127, 147, 167, 187], 47) := by decide +kernel
theorem dX2_readLine_92 : decode cX2_readLine 92 = .ok (.aload_n 0, 1) := by decide +kernel
theorem dX2_readLine_93 : decode cX2_readLine 93 = .ok (.invokevirtual 102, 3) := by decide +kernel
theorem dX2_readLine_96 : decode cX2_readLine 96 = .ok (.ifCond .eq 14, 3) := by decide +kernel
theorem dX2_readLine_99 : decode cX2_readLine 99 = .ok (.aload_n 0, 1) := by decide +kernel
theorem dX2_readLine_100 : decode cX2_readLine 100 = .ok (.invokevirtual 105, 3) := by decide +kernel
theorem dX2_readLine_103 : decode cX2_readLine 103 = .ok (.ifCond .eq 7, 3) := by decide +kernel
theorem dX2_readLine_106 : decode cX2_readLine 106 = .ok (.iconst 1, 1) := by decide +kernel
theorem dX2_readLine_107 : decode cX2_readLine 107 = .ok (.goto 4, 3) := by decide +kernel
theorem dX2_readLine_110 : decode cX2_readLine 110 = .ok (.iconst 0, 1) := by decide +kernel
theorem dX2_readLine_111 : decode cX2_readLine 111 = .ok (.ireturn, 1) := by decide +kernel
theorem dX2_readLine_112 : decode cX2_readLine 112 = .ok (.aload_n 0, 1) := by decide +kernel
theorem dX2_readLine_113 : decode cX2_readLine 113 = .ok (.invokevirtual 108, 3) := by decide +kernel
theorem dX2_readLine_116 : decode cX2_readLine 116 = .ok (.ifCond .eq 14, 3) := by decide +kernel
theorem dX2_readLine_119 : decode cX2_readLine 119 = .ok (.aload_n 0, 1) := by decide +kernel
theorem dX2_readLine_120 : decode cX2_readLine 120 = .ok (.invokevirtual 105, 3) := by decide +kernel
theorem dX2_readLine_123 : decode cX2_readLine 123 = .ok (.ifCond .eq 7, 3) := by decide +kernel
theorem dX2_readLine_126 : decode cX2_readLine 126 = .ok (.iconst 1, 1) := by decide +kernel
theorem dX2_readLine_127 : decode cX2_readLine 127 = .ok (.goto 4, 3) := by decide +kernel
theorem dX2_readLine_130 : decode cX2_readLine 130 = .ok (.iconst 0, 1) := by decide +kernel
theorem dX2_readLine_131 : decode cX2_readLine 131 = .ok (.ireturn, 1) := by decide +kernel
theorem dX2_readLine_132 : decode cX2_readLine 132 = .ok (.aload_n 0, 1) := by decide +kernel
theorem dX2_readLine_133 : decode cX2_readLine 133 = .ok (.invokevirtual 111, 3) := by decide +kernel
theorem dX2_readLine_136 : decode cX2_readLine 136 = .ok (.ifCond .eq 14, 3) := by decide +kernel
theorem dX2_readLine_139 : decode cX2_readLine 139 = .ok (.aload_n 0, 1) := by decide +kernel
theorem dX2_readLine_140 : decode cX2_readLine 140 = .ok (.invokevirtual 105, 3) := by decide +kernel
theorem dX2_readLine_143 : decode cX2_readLine 143 = .ok (.ifCond .eq 7, 3) := by decide +kernel
theorem dX2_readLine_146 : decode cX2_readLine 146 = .ok (.iconst 1, 1) := by decide +kernel
theorem dX2_readLine_147 : decode cX2_readLine 147 = .ok (.goto 4, 3) := by decide +kernel
theorem dX2_readLine_150 : decode cX2_readLine 150 = .ok (.iconst 0, 1) := by decide +kernel
theorem dX2_readLine_151 : decode cX2_readLine 151 = .ok (.ireturn, 1) := by decide +kernel
theorem dX2_readLine_152 : decode cX2_readLine 152 = .ok (.aload_n 0, 1) := by decide +kernel
theorem dX2_readLine_153 : decode cX2_readLine 153 = .ok (.invokevirtual 114, 3) := by decide +kernel
theorem dX2_readLine_156 : decode cX2_readLine 156 = .ok (.ifCond .eq 14, 3) := by decide +kernel
theorem dX2_readLine_159 : decode cX2_readLine 159 = .ok (.aload_n 0, 1) := by decide +kernel
theorem dX2_readLine_160 : decode cX2_readLine 160 = .ok (.invokevirtual 105, 3) := by decide +kernel
theorem dX2_readLine_163 : decode cX2_readLine 163 = .ok (.ifCond .eq 7, 3) := by decide +kernel
theorem dX2_readLine_166 : decode cX2_readLine 166 = .ok (.iconst 1, 1) := by decide +kernel
theorem dX2_readLine_167 : decode cX2_readLine 167 = .ok (.goto 4, 3) := by decide +kernel
theorem dX2_readLine_170 : decode cX2_readLine 170 = .ok (.iconst 0, 1) := by decide +kernel
theorem dX2_readLine_171 : decode cX2_readLine 171 = .ok (.ireturn, 1) := by decide +kernel
theorem dX2_readLine_172 : decode cX2_readLine 172 = .ok (.aload_n 0, 1) := by decide +kernel
theorem dX2_readLine_173 : decode cX2_readLine 173 = .ok (.invokevirtual 117, 3) := by decide +kernel
theorem dX2_readLine_176 : decode cX2_readLine 176 = .ok (.ifCond .eq 14, 3) := by decide +kernel
theorem dX2_readLine_179 : decode cX2_readLine 179 = .ok (.aload_n 0, 1) := by decide +kernel
theorem dX2_readLine_180 : decode cX2_readLine 180 = .ok (.invokevirtual 105, 3) := by decide +kernel
theorem dX2_readLine_183 : decode cX2_readLine 183 = .ok (.ifCond .eq 7, 3) := by decide +kernel
theorem dX2_readLine_186 : decode cX2_readLine 186 = .ok (.iconst 1, 1) := by decide +kernel
theorem dX2_readLine_187 : decode cX2_readLine 187 = .ok (.goto 4, 3) := by decide +kernel
theorem dX2_readLine_190 : decode cX2_readLine 190 = .ok (.iconst 0, 1) := by decide +kernel
theorem dX2_readLine_191 : decode cX2_readLine 191 = .ok (.ireturn, 1) := by decide +kernel
theorem dX2_readLine_192 : decode cX2_readLine 192 = .ok (.aload_n 0, 1) := by decide +kernel
theorem dX2_readLine_193 : decode cX2_readLine 193 = .ok (.invokevirtual 120, 3) := by decide +kernel
theorem dX2_readLine_196 : decode cX2_readLine 196 = .ok (.ifCond .eq 14, 3) := by decide +kernel
theorem dX2_readLine_199 : decode cX2_readLine 199 = .ok (.aload_n 0, 1) := by decide +kernel
theorem dX2_readLine_200 : decode cX2_readLine 200 = .ok (.invokevirtual 105, 3) := by decide +kernel
theorem dX2_readLine_203 : decode cX2_readLine 203 = .ok (.ifCond .eq 7, 3) := by decide +kernel
theorem dX2_readLine_206 : decode cX2_readLine 206 = .ok (.iconst 1, 1) := by decide +kernel
theorem dX2_readLine_207 : decode cX2_readLine 207 = .ok (.goto 4, 3) := by decide +kernel
theorem dX2_readLine_210 : decode cX2_readLine 210 = .ok (.iconst 0, 1) := by decide +kernel
theorem dX2_readLine_211 : decode cX2_readLine 211 = .ok (.ireturn, 1) := by decide +kernel
theorem dX2_readLine_212 : decode cX2_readLine 212 = .ok (.aload_n 0, 1) := by decide +kernel
theorem dX2_readLine_213 : decode cX2_readLine 213 = .ok (.invokevirtual 123, 3) := by decide +kernel
theorem dX2_readLine_216 : decode cX2_readLine 216 = .ok (.ifCond .eq 14, 3) := by decide +kernel
theorem dX2_readLine_219 : decode cX2_readLine 219 = .ok (.aload_n 0, 1) := by decide +kernel
theorem dX2_readLine_220 : decode cX2_readLine 220 = .ok (.invokevirtual 105, 3) := by decide +kernel
theorem dX2_readLine_223 : decode cX2_readLine 223 = .ok (.ifCond .eq 7, 3) := by decide +kernel
theorem dX2_readLine_226 : decode cX2_readLine 226 = .ok (.iconst 1, 1) := by decide +kernel
theorem dX2_readLine_227 : decode cX2_readLine 227 = .ok (.goto 4, 3) := by decide +kernel
theorem dX2_readLine_230 : decode cX2_readLine 230 = .ok (.iconst 0, 1) := by decide +kernel
theorem dX2_readLine_231 : decode cX2_readLine 231 = .ok (.ireturn, 1) := by decide +kernel
theorem dX2_readLine_232 : decode cX2_readLine 232 = .ok (.aload_n 0, 1) := by decide +kernel
theorem dX2_readLine_233 : decode cX2_readLine 233 = .ok (.invokevirtual 126, 3) := by decide +kernel
theorem dX2_readLine_236 : decode cX2_readLine 236 = .ok (.ifCond .eq 14, 3) := by decide +kernel
theorem dX2_readLine_239 : decode cX2_readLine 239 = .ok (.aload_n 0, 1) := by decide +kernel
theorem dX2_readLine_240 : decode cX2_readLine 240 = .ok (.invokevirtual 105, 3) := by decide +kernel
theorem dX2_readLine_243 : decode cX2_readLine 243 = .ok (.ifCond .eq 7, 3) := by decide +kernel
theorem dX2_readLine_246 : decode cX2_readLine 246 = .ok (.iconst 1, 1) := by decide +kernel
theorem dX2_readLine_247 : decode cX2_readLine 247 = .ok (.goto 4, 3) := by decide +kernel
theorem dX2_readLine_250 : decode cX2_readLine 250 = .ok (.iconst 0, 1) := by decide +kernel
theorem dX2_readLine_251 : decode cX2_readLine 251 = .ok (.ireturn, 1) := by decide +kernel
theorem dX2_readLine_252 : decode cX2_readLine 252 = .ok (.aload_n 0, 1) := by decide +kernel
theorem dX2_readLine_253 : decode cX2_readLine 253 = .ok (.iconst 2, 1) := by decide +kernel
theorem dX2_readLine_254 : decode cX2_readLine 254 = .ok (.aload_n 0, 1) := by decide +kernel
theorem dX2_readLine_255 : decode cX2_readLine 255 = .ok (.getfield 18, 3) := by decide +kernel
theorem dX2_readLine_258 : decode cX2_readLine 258 = .ok (.invokevirtual 74, 3) := by decide +kernel
theorem dX2_readLine_261 : decode cX2_readLine 261 = .ok (.ireturn, 1) := by decide +kernel
theorem dX2_lineByName_0 : decode cX2_lineByName 0 = .ok (.aload_n 0, 1) := by decide +kernel
theorem dX2_lineByName_1 : decode cX2_lineByName 1 = .ok (.ldc 129, 2) := by decide +kernel
theorem dX2_lineByName_3 : decode cX2_lineByName 3 = .ok (.invokevirtual 131, 3) := by decide +kernel
theorem dX2_lineByName_6 : decode cX2_lineByName 6 = .ok (.ifCond .eq 5, 3) := by decide +kernel
theorem dX2_lineByName_9 : decode cX2_lineByName 9 = .ok (.iconst 0, 1) := by decide +kernel
theorem dX2_lineByName_10 : decode cX2_lineByName 10 = .ok (.ireturn, 1) := by decide +kernel
theorem dX2_lineByName_11 : decode cX2_lineByName 11 = .ok (.aload_n 0, 1) := by decide +kernel
theorem dX2_lineByName_12 : decode cX2_lineByName 12 = .ok (.ldc 135, 2) := by decide +kernel
theorem dX2_lineByName_14 : decode cX2_lineByName 14 = .ok (.invokevirtual 131, 3) := by decide +kernel
theorem dX2_lineByName_17 : decode cX2_lineByName 17 = .ok (.ifCond .eq 5, 3) := by decide +kernel
theorem dX2_lineByName_20 : decode cX2_lineByName 20 = .ok (.iconst 1, 1) := by decide +kernel
theorem dX2_lineByName_21 : decode cX2_lineByName 21 = .ok (.ireturn, 1) := by decide +kernel
theorem dX2_lineByName_22 : decode cX2_lineByName 22 = .ok (.aload_n 0, 1) := by decide +kernel
theorem dX2_lineByName_23 : decode cX2_lineByName 23 = .ok (.ldc 137, 2) := by decide +kernel
theorem dX2_lineByName_25 : decode cX2_lineByName 25 = .ok (.invokevirtual 131, 3) := by decide +kernel
theorem dX2_lineByName_28 : decode cX2_lineByName 28 = .ok (.ifCond .eq 5, 3) := by decide +kernel
theorem dX2_lineByName_31 : decode cX2_lineByName 31 = .ok (.iconst 2, 1) := by decide +kernel
theorem dX2_lineByName_32 : decode cX2_lineByName 32 = .ok (.ireturn, 1) := by decide +kernel
theorem dX2_lineByName_33 : decode cX2_lineByName 33 = .ok (.aload_n 0, 1) := by decide +kernel
theorem dX2_lineByName_34 : decode cX2_lineByName 34 = .ok (.ldc 139, 2) := by decide +kernel
theorem dX2_lineByName_36 : decode cX2_lineByName 36 = .ok (.invokevirtual 131, 3) := by decide +kernel
theorem dX2_lineByName_39 : decode cX2_lineByName 39 = .ok (.ifCond .eq 5, 3) := by decide +kernel
theorem dX2_lineByName_42 : decode cX2_lineByName 42 = .ok (.iconst 3, 1) := by decide +kernel
theorem dX2_lineByName_43 : decode cX2_lineByName 43 = .ok (.ireturn, 1) := by decide +kernel
theorem dX2_lineByName_44 : decode cX2_lineByName 44 = .ok (.aload_n 0, 1) := by decide +kernel
theorem dX2_lineByName_45 : decode cX2_lineByName 45 = .ok (.ldc 141, 2) := by decide +kernel
theorem dX2_lineByName_47 : decode cX2_lineByName 47 = .ok (.invokevirtual 131, 3) := by decide +kernel
theorem dX2_lineByName_50 : decode cX2_lineByName 50 = .ok (.ifCond .eq 5, 3) := by decide +kernel
theorem dX2_lineByName_53 : decode cX2_lineByName 53 = .ok (.iconst 4, 1) := by decide +kernel
theorem dX2_lineByName_54 : decode cX2_lineByName 54 = .ok (.ireturn, 1) := by decide +kernel
theorem dX2_lineByName_55 : decode cX2_lineByName 55 = .ok (.aload_n 0, 1) := by decide +kernel
theorem dX2_lineByName_56 : decode cX2_lineByName 56 = .ok (.ldc 143, 2) := by decide +kernel
theorem dX2_lineByName_58 : decode cX2_lineByName 58 = .ok (.invokevirtual 131, 3) := by decide +kernel
theorem dX2_lineByName_61 : decode cX2_lineByName 61 = .ok (.ifCond .eq 5, 3) := by decide +kernel
theorem dX2_lineByName_64 : decode cX2_lineByName 64 = .ok (.iconst 5, 1) := by decide +kernel
theorem dX2_lineByName_65 : decode cX2_lineByName 65 = .ok (.ireturn, 1) := by decide +kernel
theorem dX2_lineByName_66 : decode cX2_lineByName 66 = .ok (.aload_n 0, 1) := by decide +kernel
theorem dX2_lineByName_67 : decode cX2_lineByName 67 = .ok (.ldc 145, 2) := by decide +kernel
theorem dX2_lineByName_69 : decode cX2_lineByName 69 = .ok (.invokevirtual 131, 3) := by decide +kernel
theorem dX2_lineByName_72 : decode cX2_lineByName 72 = .ok (.ifCond .eq 6, 3) := by decide +kernel
theorem dX2_lineByName_75 : decode cX2_lineByName 75 = .ok (.bipush 6, 2) := by decide +kernel
theorem dX2_lineByName_77 : decode cX2_lineByName 77 = .ok (.ireturn, 1) := by decide +kernel
theorem dX2_lineByName_78 : decode cX2_lineByName 78 = .ok (.aload_n 0, 1) := by decide +kernel
theorem dX2_lineByName_79 : decode cX2_lineByName 79 = .ok (.ldc 147, 2) := by decide +kernel
theorem dX2_lineByName_81 : decode cX2_lineByName 81 = .ok (.invokevirtual 131, 3) := by decide +kernel
theorem dX2_lineByName_84 : decode cX2_lineByName 84 = .ok (.ifCond .eq 6, 3) := by decide +kernel
theorem dX2_lineByName_87 : decode cX2_lineByName 87 = .ok (.bipush 7, 2) := by decide +kernel
theorem dX2_lineByName_89 : decode cX2_lineByName 89 = .ok (.ireturn, 1) := by decide +kernel
theorem dX2_lineByName_90 : decode cX2_lineByName 90 = .ok (.bipush 8, 2) := by decide +kernel
theorem dX2_lineByName_92 : decode cX2_lineByName 92 = .ok (.ireturn, 1) := by decide +kernel
theorem dX2_readStop_0 : decode cX2_readStop 0 = .ok (.aload_n 0, 1) := by decide +kernel
theorem dX2_readStop_1 : decode cX2_readStop 1 = .ok (.invokevirtual 61, 3) := by decide +kernel
theorem dX2_readStop_4 : decode cX2_readStop 4 = .ok (.ifCond .eq 27, 3) := by decide +kernel
theorem dX2_readStop_7 : decode cX2_readStop 7 = .ok (.aload_n 0, 1) := by decide +kernel
theorem dX2_readStop_8 : decode cX2_readStop 8 = .ok (.getfield 15, 3) := by decide +kernel
theorem dX2_readStop_11 : decode cX2_readStop 11 = .ok (.iconst 3, 1) := by decide +kernel
theorem dX2_readStop_12 : decode cX2_readStop 12 = .ok (.if_icmp .eq 15, 3) := by decide +kernel
theorem dX2_readStop_15 : decode cX2_readStop 15 = .ok (.aload_n 0, 1) := by decide +kernel
theorem dX2_readStop_16 : decode cX2_readStop 16 = .ok (.iconst 2, 1) := by decide +kernel
theorem dX2_readStop_17 : decode cX2_readStop 17 = .ok (.aload_n 0, 1) := by decide +kernel
theorem dX2_readStop_18 : decode cX2_readStop 18 = .ok (.getfield 18, 3) := by decide +kernel
theorem dX2_readStop_21 : decode cX2_readStop 21 = .ok (.invokevirtual 74, 3) := by decide +kernel
theorem dX2_readStop_24 : decode cX2_readStop 24 = .ok (.ifCond .eq 7, 3) := by decide +kernel
theorem dX2_readStop_27 : decode cX2_readStop 27 = .ok (.iconst 1, 1) := by decide +kernel
theorem dX2_readStop_28 : decode cX2_readStop 28 = .ok (.goto 4, 3) := by decide +kernel
theorem dX2_readStop_31 : decode cX2_readStop 31 = .ok (.iconst 0, 1) := by decide +kernel
theorem dX2_readStop_32 : decode cX2_readStop 32 = .ok (.ireturn, 1) := by decide +kernel
theorem dX2_readNumber_0 : decode cX2_readNumber 0 = .ok (.aload_n 0, 1) := by decide +kernel
theorem dX2_readNumber_1 : decode cX2_readNumber 1 = .ok (.invokevirtual 61, 3) := by decide +kernel
theorem dX2_readNumber_4 : decode cX2_readNumber 4 = .ok (.ifCond .ne 5, 3) := by decide +kernel
theorem dX2_readNumber_7 : decode cX2_readNumber 7 = .ok (.iconst 0, 1) := by decide +kernel
theorem dX2_readNumber_8 : decode cX2_readNumber 8 = .ok (.ireturn, 1) := by decide +kernel
theorem dX2_readNumber_9 : decode cX2_readNumber 9 = .ok (.aload_n 0, 1) := by decide +kernel
theorem dX2_readNumber_10 : decode cX2_readNumber 10 = .ok (.getfield 15, 3) := by decide +kernel
theorem dX2_readNumber_13 : decode cX2_readNumber 13 = .ok (.iconst 2, 1) := by decide +kernel
theorem dX2_readNumber_14 : decode cX2_readNumber 14 = .ok (.if_icmp .eq 13, 3) := by decide +kernel
theorem dX2_readNumber_17 : decode cX2_readNumber 17 = .ok (.aload_n 0, 1) := by decide +kernel
theorem dX2_readNumber_18 : decode cX2_readNumber 18 = .ok (.iconst 2, 1) := by decide +kernel
theorem dX2_readNumber_19 : decode cX2_readNumber 19 = .ok (.aload_n 0, 1) := by decide +kernel
theorem dX2_readNumber_20 : decode cX2_readNumber 20 = .ok (.getfield 18, 3) := by decide +kernel
theorem dX2_readNumber_23 : decode cX2_readNumber 23 = .ok (.invokevirtual 74, 3) := by decide +kernel
theorem dX2_readNumber_26 : decode cX2_readNumber 26 = .ok (.ireturn, 1) := by decide +kernel
theorem dX2_readNumber_27 : decode cX2_readNumber 27 = .ok (.aload_n 0, 1) := by decide +kernel
theorem dX2_readNumber_28 : decode cX2_readNumber 28 = .ok (.getfield 24, 3) := by decide +kernel
theorem dX2_readNumber_31 : decode cX2_readNumber 31 = .ok (.iload_n 1, 1) := by decide +kernel
theorem dX2_readNumber_32 : decode cX2_readNumber 32 = .ok (.iload_n 2, 1) := by decide +kernel
theorem dX2_readNumber_33 : decode cX2_readNumber 33 = .ok (.invokestatic 86, 3) := by decide +kernel
theorem dX2_readNumber_36 : decode cX2_readNumber 36 = .ok (.ifCond .ne 15, 3) := by decide +kernel
theorem dX2_readNumber_39 : decode cX2_readNumber 39 = .ok (.aload_n 0, 1) := by decide +kernel
theorem dX2_readNumber_40 : decode cX2_readNumber 40 = .ok (.iconst 3, 1) := by decide +kernel
theorem dX2_readNumber_41 : decode cX2_readNumber 41 = .ok (.aload_n 0, 1) := by decide +kernel
theorem dX2_readNumber_42 : decode cX2_readNumber 42 = .ok (.getfield 18, 3) := by decide +kernel
theorem dX2_readNumber_45 : decode cX2_readNumber 45 = .ok (.invokevirtual 74, 3) := by decide +kernel
theorem dX2_readNumber_48 : decode cX2_readNumber 48 = .ok (.ifCond .eq 7, 3) := by decide +kernel
theorem dX2_readNumber_51 : decode cX2_readNumber 51 = .ok (.iconst 1, 1) := by decide +kernel
theorem dX2_readNumber_52 : decode cX2_readNumber 52 = .ok (.goto 4, 3) := by decide +kernel
theorem dX2_readNumber_55 : decode cX2_readNumber 55 = .ok (.iconst 0, 1) := by decide +kernel
theorem dX2_readNumber_56 : decode cX2_readNumber 56 = .ok (.ireturn, 1) := by decide +kernel
theorem dX2_readOne_0 : decode cX2_readOne 0 = .ok (.aload_n 0, 1) := by decide +kernel
theorem dX2_readOne_1 : decode cX2_readOne 1 = .ok (.getfield 46, 3) := by decide +kernel
theorem dX2_readOne_4 : decode cX2_readOne 4 = .ok (.getfield 149, 3) := by decide +kernel
theorem dX2_readOne_7 : decode cX2_readOne 7 = .ok (.istore_n 1, 1) := by decide +kernel
theorem dX2_readOne_8 : decode cX2_readOne 8 = .ok (.iload_n 1, 1) := by decide +kernel
theorem dX2_readOne_9 : decode cX2_readOne 9 = .ok (.iconst 4, 1) := by decide +kernel
theorem dX2_readOne_10 : decode cX2_readOne 10 = .ok (.if_icmp .lt 13, 3) := by decide +kernel
theorem dX2_readOne_13 : decode cX2_readOne 13 = .ok (.aload_n 0, 1) := by decide +kernel
theorem dX2_readOne_14 : decode cX2_readOne 14 = .ok (.iconst 5, 1) := by decide +kernel
theorem dX2_readOne_15 : decode cX2_readOne 15 = .ok (.aload_n 0, 1) := by decide +kernel
theorem dX2_readOne_16 : decode cX2_readOne 16 = .ok (.getfield 18, 3) := by decide +kernel
theorem dX2_readOne_19 : decode cX2_readOne 19 = .ok (.invokevirtual 74, 3) := by decide +kernel
theorem dX2_readOne_22 : decode cX2_readOne 22 = .ok (.ireturn, 1) := by decide +kernel
theorem dX2_readOne_23 : decode cX2_readOne 23 = .ok (.aload_n 0, 1) := by decide +kernel
theorem dX2_readOne_24 : decode cX2_readOne 24 = .ok (.invokevirtual 61, 3) := by decide +kernel
theorem dX2_readOne_27 : decode cX2_readOne 27 = .ok (.ifCond .ne 5, 3) := by decide +kernel
theorem dX2_readOne_30 : decode cX2_readOne 30 = .ok (.iconst 0, 1) := by decide +kernel
theorem dX2_readOne_31 : decode cX2_readOne 31 = .ok (.ireturn, 1) := by decide +kernel
theorem dX2_readOne_32 : decode cX2_readOne 32 = .ok (.aload_n 0, 1) := by decide +kernel
theorem dX2_readOne_33 : decode cX2_readOne 33 = .ok (.invokevirtual 152, 3) := by decide +kernel
theorem dX2_readOne_36 : decode cX2_readOne 36 = .ok (.istore_n 2, 1) := by decide +kernel
theorem dX2_readOne_37 : decode cX2_readOne 37 = .ok (.iload_n 2, 1) := by decide +kernel
theorem dX2_readOne_38 : decode cX2_readOne 38 = .ok (.bipush (-4), 2) := by decide +kernel
theorem dX2_readOne_40 : decode cX2_readOne 40 = .ok (.if_icmp .ne 13, 3) := by decide +kernel
theorem dX2_readOne_43 : decode cX2_readOne 43 = .ok (.aload_n 0, 1) := by decide +kernel
theorem dX2_readOne_44 : decode cX2_readOne 44 = .ok (.iconst 2, 1) := by decide +kernel
theorem dX2_readOne_45 : decode cX2_readOne 45 = .ok (.aload_n 0, 1) := by decide +kernel
theorem dX2_readOne_46 : decode cX2_readOne 46 = .ok (.getfield 18, 3) := by decide +kernel
theorem dX2_readOne_49 : decode cX2_readOne 49 = .ok (.invokevirtual 74, 3) := by decide +kernel
theorem dX2_readOne_52 : decode cX2_readOne 52 = .ok (.ireturn, 1) := by decide +kernel
theorem dX2_readOne_53 : decode cX2_readOne 53 = .ok (.aload_n 0, 1) := by decide +kernel
theorem dX2_readOne_54 : decode cX2_readOne 54 = .ok (.getfield 46, 3) := by decide +kernel
theorem dX2_readOne_57 : decode cX2_readOne 57 = .ok (.getfield 155, 3) := by decide +kernel
theorem dX2_readOne_60 : decode cX2_readOne 60 = .ok (.iload_n 1, 1) := by decide +kernel
theorem dX2_readOne_61 : decode cX2_readOne 61 = .ok (.iload_n 2, 1) := by decide +kernel
theorem dX2_readOne_62 : decode cX2_readOne 62 = .ok (.iastore, 1) := by decide +kernel
theorem dX2_readOne_63 : decode cX2_readOne 63 = .ok (.aload_n 0, 1) := by decide +kernel
theorem dX2_readOne_64 : decode cX2_readOne 64 = .ok (.iconst 1, 1) := by decide +kernel
theorem dX2_readOne_65 : decode cX2_readOne 65 = .ok (.iconst 3, 1) := by decide +kernel
theorem dX2_readOne_66 : decode cX2_readOne 66 = .ok (.invokevirtual 159, 3) := by decide +kernel
theorem dX2_readOne_69 : decode cX2_readOne 69 = .ok (.ifCond .ne 5, 3) := by decide +kernel
theorem dX2_readOne_72 : decode cX2_readOne 72 = .ok (.iconst 0, 1) := by decide +kernel
theorem dX2_readOne_73 : decode cX2_readOne 73 = .ok (.ireturn, 1) := by decide +kernel
theorem dX2_readOne_74 : decode cX2_readOne 74 = .ok (.aload_n 0, 1) := by decide +kernel
theorem dX2_readOne_75 : decode cX2_readOne 75 = .ok (.getfield 46, 3) := by decide +kernel
theorem dX2_readOne_78 : decode cX2_readOne 78 = .ok (.getfield 162, 3) := by decide +kernel
theorem dX2_readOne_81 : decode cX2_readOne 81 = .ok (.iload_n 1, 1) := by decide +kernel
theorem dX2_readOne_82 : decode cX2_readOne 82 = .ok (.aload_n 0, 1) := by decide +kernel
theorem dX2_readOne_83 : decode cX2_readOne 83 = .ok (.getfield 24, 3) := by decide +kernel
theorem dX2_readOne_86 : decode cX2_readOne 86 = .ok (.iastore, 1) := by decide +kernel
theorem dX2_readOne_87 : decode cX2_readOne 87 = .ok (.aload_n 0, 1) := by decide +kernel
theorem dX2_readOne_88 : decode cX2_readOne 88 = .ok (.iconst 0, 1) := by decide +kernel
theorem dX2_readOne_89 : decode cX2_readOne 89 = .ok (.bipush 20, 2) := by decide +kernel
theorem dX2_readOne_91 : decode cX2_readOne 91 = .ok (.invokevirtual 159, 3) := by decide +kernel
theorem dX2_readOne_94 : decode cX2_readOne 94 = .ok (.ifCond .ne 5, 3) := by decide +kernel
theorem dX2_readOne_97 : decode cX2_readOne 97 = .ok (.iconst 0, 1) := by decide +kernel
theorem dX2_readOne_98 : decode cX2_readOne 98 = .ok (.ireturn, 1) := by decide +kernel
theorem dX2_readOne_99 : decode cX2_readOne 99 = .ok (.aload_n 0, 1) := by decide +kernel
theorem dX2_readOne_100 : decode cX2_readOne 100 = .ok (.getfield 46, 3) := by decide +kernel
theorem dX2_readOne_103 : decode cX2_readOne 103 = .ok (.getfield 165, 3) := by decide +kernel
theorem dX2_readOne_106 : decode cX2_readOne 106 = .ok (.iload_n 1, 1) := by decide +kernel
theorem dX2_readOne_107 : decode cX2_readOne 107 = .ok (.aload_n 0, 1) := by decide +kernel
theorem dX2_readOne_108 : decode cX2_readOne 108 = .ok (.getfield 24, 3) := by decide +kernel
theorem dX2_readOne_111 : decode cX2_readOne 111 = .ok (.iastore, 1) := by decide +kernel
theorem dX2_readOne_112 : decode cX2_readOne 112 = .ok (.aload_n 0, 1) := by decide +kernel
theorem dX2_readOne_113 : decode cX2_readOne 113 = .ok (.getfield 46, 3) := by decide +kernel
theorem dX2_readOne_116 : decode cX2_readOne 116 = .ok (.dup, 1) := by decide +kernel
theorem dX2_readOne_117 : decode cX2_readOne 117 = .ok (.getfield 149, 3) := by decide +kernel
theorem dX2_readOne_120 : decode cX2_readOne 120 = .ok (.iconst 1, 1) := by decide +kernel
theorem dX2_readOne_121 : decode cX2_readOne 121 = .ok (.iadd, 1) := by decide +kernel
theorem dX2_readOne_122 : decode cX2_readOne 122 = .ok (.putfield 149, 3) := by decide +kernel
theorem dX2_readOne_125 : decode cX2_readOne 125 = .ok (.iconst 1, 1) := by decide +kernel
theorem dX2_readOne_126 : decode cX2_readOne 126 = .ok (.ireturn, 1) := by decide +kernel
theorem dX2_kindByName_0 : decode cX2_kindByName 0 = .ok (.aload_n 0, 1) := by decide +kernel
theorem dX2_kindByName_1 : decode cX2_kindByName 1 = .ok (.ldc 168, 2) := by decide +kernel
theorem dX2_kindByName_3 : decode cX2_kindByName 3 = .ok (.invokevirtual 131, 3) := by decide +kernel
theorem dX2_kindByName_6 : decode cX2_kindByName 6 = .ok (.ifCond .eq 5, 3) := by decide +kernel
theorem dX2_kindByName_9 : decode cX2_kindByName 9 = .ok (.iconst 0, 1) := by decide +kernel
theorem dX2_kindByName_10 : decode cX2_kindByName 10 = .ok (.ireturn, 1) := by decide +kernel
theorem dX2_kindByName_11 : decode cX2_kindByName 11 = .ok (.aload_n 0, 1) := by decide +kernel
theorem dX2_kindByName_12 : decode cX2_kindByName 12 = .ok (.ldc 170, 2) := by decide +kernel
theorem dX2_kindByName_14 : decode cX2_kindByName 14 = .ok (.invokevirtual 131, 3) := by decide +kernel
theorem dX2_kindByName_17 : decode cX2_kindByName 17 = .ok (.ifCond .eq 5, 3) := by decide +kernel
theorem dX2_kindByName_20 : decode cX2_kindByName 20 = .ok (.iconst 1, 1) := by decide +kernel
theorem dX2_kindByName_21 : decode cX2_kindByName 21 = .ok (.ireturn, 1) := by decide +kernel
theorem dX2_kindByName_22 : decode cX2_kindByName 22 = .ok (.aload_n 0, 1) := by decide +kernel
theorem dX2_kindByName_23 : decode cX2_kindByName 23 = .ok (.ldc 172, 2) := by decide +kernel
theorem dX2_kindByName_25 : decode cX2_kindByName 25 = .ok (.invokevirtual 131, 3) := by decide +kernel
theorem dX2_kindByName_28 : decode cX2_kindByName 28 = .ok (.ifCond .eq 5, 3) := by decide +kernel
theorem dX2_kindByName_31 : decode cX2_kindByName 31 = .ok (.iconst 2, 1) := by decide +kernel
theorem dX2_kindByName_32 : decode cX2_kindByName 32 = .ok (.ireturn, 1) := by decide +kernel
theorem dX2_kindByName_33 : decode cX2_kindByName 33 = .ok (.aload_n 0, 1) := by decide +kernel
theorem dX2_kindByName_34 : decode cX2_kindByName 34 = .ok (.ldc 174, 2) := by decide +kernel
theorem dX2_kindByName_36 : decode cX2_kindByName 36 = .ok (.invokevirtual 131, 3) := by decide +kernel
theorem dX2_kindByName_39 : decode cX2_kindByName 39 = .ok (.ifCond .eq 5, 3) := by decide +kernel
theorem dX2_kindByName_42 : decode cX2_kindByName 42 = .ok (.iconst 3, 1) := by decide +kernel
theorem dX2_kindByName_43 : decode cX2_kindByName 43 = .ok (.ireturn, 1) := by decide +kernel
theorem dX2_kindByName_44 : decode cX2_kindByName 44 = .ok (.aload_n 0, 1) := by decide +kernel
theorem dX2_kindByName_45 : decode cX2_kindByName 45 = .ok (.ldc 176, 2) := by decide +kernel
theorem dX2_kindByName_47 : decode cX2_kindByName 47 = .ok (.invokevirtual 131, 3) := by decide +kernel
theorem dX2_kindByName_50 : decode cX2_kindByName 50 = .ok (.ifCond .eq 5, 3) := by decide +kernel
theorem dX2_kindByName_53 : decode cX2_kindByName 53 = .ok (.iconst 4, 1) := by decide +kernel
theorem dX2_kindByName_54 : decode cX2_kindByName 54 = .ok (.ireturn, 1) := by decide +kernel
theorem dX2_kindByName_55 : decode cX2_kindByName 55 = .ok (.bipush (-4), 2) := by decide +kernel
theorem dX2_kindByName_57 : decode cX2_kindByName 57 = .ok (.ireturn, 1) := by decide +kernel
theorem dX2_readWell_0 : decode cX2_readWell 0 = .ok (.aload_n 0, 1) := by decide +kernel
theorem dX2_readWell_1 : decode cX2_readWell 1 = .ok (.getfield 46, 3) := by decide +kernel
theorem dX2_readWell_4 : decode cX2_readWell 4 = .ok (.getfield 71, 3) := by decide +kernel
theorem dX2_readWell_7 : decode cX2_readWell 7 = .ok (.istore_n 1, 1) := by decide +kernel
theorem dX2_readWell_8 : decode cX2_readWell 8 = .ok (.iload_n 1, 1) := by decide +kernel
theorem dX2_readWell_9 : decode cX2_readWell 9 = .ok (.iconst 3, 1) := by decide +kernel
theorem dX2_readWell_10 : decode cX2_readWell 10 = .ok (.if_icmp .lt 13, 3) := by decide +kernel
theorem dX2_readWell_13 : decode cX2_readWell 13 = .ok (.aload_n 0, 1) := by decide +kernel
theorem dX2_readWell_14 : decode cX2_readWell 14 = .ok (.iconst 5, 1) := by decide +kernel
theorem dX2_readWell_15 : decode cX2_readWell 15 = .ok (.aload_n 0, 1) := by decide +kernel
theorem dX2_readWell_16 : decode cX2_readWell 16 = .ok (.getfield 18, 3) := by decide +kernel
theorem dX2_readWell_19 : decode cX2_readWell 19 = .ok (.invokevirtual 74, 3) := by decide +kernel
theorem dX2_readWell_22 : decode cX2_readWell 22 = .ok (.ireturn, 1) := by decide +kernel
theorem dX2_readWell_23 : decode cX2_readWell 23 = .ok (.aload_n 0, 1) := by decide +kernel
theorem dX2_readWell_24 : decode cX2_readWell 24 = .ok (.iconst 1, 1) := by decide +kernel
theorem dX2_readWell_25 : decode cX2_readWell 25 = .ok (.bipush 60, 2) := by decide +kernel
theorem dX2_readWell_27 : decode cX2_readWell 27 = .ok (.invokevirtual 159, 3) := by decide +kernel
theorem dX2_readWell_30 : decode cX2_readWell 30 = .ok (.ifCond .ne 5, 3) := by decide +kernel
theorem dX2_readWell_33 : decode cX2_readWell 33 = .ok (.iconst 0, 1) := by decide +kernel
theorem dX2_readWell_34 : decode cX2_readWell 34 = .ok (.ireturn, 1) := by decide +kernel
theorem dX2_readWell_35 : decode cX2_readWell 35 = .ok (.aload_n 0, 1) := by decide +kernel
theorem dX2_readWell_36 : decode cX2_readWell 36 = .ok (.getfield 46, 3) := by decide +kernel
theorem dX2_readWell_39 : decode cX2_readWell 39 = .ok (.getfield 178, 3) := by decide +kernel
theorem dX2_readWell_42 : decode cX2_readWell 42 = .ok (.iload_n 1, 1) := by decide +kernel
theorem dX2_readWell_43 : decode cX2_readWell 43 = .ok (.aload_n 0, 1) := by decide +kernel
theorem dX2_readWell_44 : decode cX2_readWell 44 = .ok (.getfield 24, 3) := by decide +kernel
theorem dX2_readWell_47 : decode cX2_readWell 47 = .ok (.iastore, 1) := by decide +kernel
theorem dX2_readWell_48 : decode cX2_readWell 48 = .ok (.aload_n 0, 1) := by decide +kernel
theorem dX2_readWell_49 : decode cX2_readWell 49 = .ok (.iconst 0, 1) := by decide +kernel
theorem dX2_readWell_50 : decode cX2_readWell 50 = .ok (.bipush 10, 2) := by decide +kernel
theorem dX2_readWell_52 : decode cX2_readWell 52 = .ok (.invokevirtual 159, 3) := by decide +kernel
theorem dX2_readWell_55 : decode cX2_readWell 55 = .ok (.ifCond .ne 5, 3) := by decide +kernel
theorem dX2_readWell_58 : decode cX2_readWell 58 = .ok (.iconst 0, 1) := by decide +kernel
theorem dX2_readWell_59 : decode cX2_readWell 59 = .ok (.ireturn, 1) := by decide +kernel
theorem dX2_readWell_60 : decode cX2_readWell 60 = .ok (.aload_n 0, 1) := by decide +kernel
theorem dX2_readWell_61 : decode cX2_readWell 61 = .ok (.getfield 46, 3) := by decide +kernel
theorem dX2_readWell_64 : decode cX2_readWell 64 = .ok (.getfield 181, 3) := by decide +kernel
theorem dX2_readWell_67 : decode cX2_readWell 67 = .ok (.iload_n 1, 1) := by decide +kernel
theorem dX2_readWell_68 : decode cX2_readWell 68 = .ok (.aload_n 0, 1) := by decide +kernel
theorem dX2_readWell_69 : decode cX2_readWell 69 = .ok (.getfield 24, 3) := by decide +kernel
theorem dX2_readWell_72 : decode cX2_readWell 72 = .ok (.iastore, 1) := by decide +kernel
theorem dX2_readWell_73 : decode cX2_readWell 73 = .ok (.aload_n 0, 1) := by decide +kernel
theorem dX2_readWell_74 : decode cX2_readWell 74 = .ok (.iconst 1, 1) := by decide +kernel
theorem dX2_readWell_75 : decode cX2_readWell 75 = .ok (.bipush 20, 2) := by decide +kernel
theorem dX2_readWell_77 : decode cX2_readWell 77 = .ok (.invokevirtual 159, 3) := by decide +kernel
theorem dX2_readWell_80 : decode cX2_readWell 80 = .ok (.ifCond .ne 5, 3) := by decide +kernel
theorem dX2_readWell_83 : decode cX2_readWell 83 = .ok (.iconst 0, 1) := by decide +kernel
theorem dX2_readWell_84 : decode cX2_readWell 84 = .ok (.ireturn, 1) := by decide +kernel
theorem dX2_readWell_85 : decode cX2_readWell 85 = .ok (.aload_n 0, 1) := by decide +kernel
theorem dX2_readWell_86 : decode cX2_readWell 86 = .ok (.getfield 46, 3) := by decide +kernel
theorem dX2_readWell_89 : decode cX2_readWell 89 = .ok (.getfield 184, 3) := by decide +kernel
theorem dX2_readWell_92 : decode cX2_readWell 92 = .ok (.iload_n 1, 1) := by decide +kernel
theorem dX2_readWell_93 : decode cX2_readWell 93 = .ok (.aload_n 0, 1) := by decide +kernel
theorem dX2_readWell_94 : decode cX2_readWell 94 = .ok (.getfield 24, 3) := by decide +kernel
theorem dX2_readWell_97 : decode cX2_readWell 97 = .ok (.iastore, 1) := by decide +kernel
theorem dX2_readWell_98 : decode cX2_readWell 98 = .ok (.aload_n 0, 1) := by decide +kernel
theorem dX2_readWell_99 : decode cX2_readWell 99 = .ok (.getfield 46, 3) := by decide +kernel
theorem dX2_readWell_102 : decode cX2_readWell 102 = .ok (.getfield 78, 3) := by decide +kernel
theorem dX2_readWell_105 : decode cX2_readWell 105 = .ok (.iload_n 1, 1) := by decide +kernel
theorem dX2_readWell_106 : decode cX2_readWell 106 = .ok (.iconst 1, 1) := by decide +kernel
theorem dX2_readWell_107 : decode cX2_readWell 107 = .ok (.bastore, 1) := by decide +kernel
theorem dX2_readWell_108 : decode cX2_readWell 108 = .ok (.aload_n 0, 1) := by decide +kernel
theorem dX2_readWell_109 : decode cX2_readWell 109 = .ok (.getfield 46, 3) := by decide +kernel
theorem dX2_readWell_112 : decode cX2_readWell 112 = .ok (.dup, 1) := by decide +kernel
theorem dX2_readWell_113 : decode cX2_readWell 113 = .ok (.getfield 71, 3) := by decide +kernel
theorem dX2_readWell_116 : decode cX2_readWell 116 = .ok (.iconst 1, 1) := by decide +kernel
theorem dX2_readWell_117 : decode cX2_readWell 117 = .ok (.iadd, 1) := by decide +kernel
theorem dX2_readWell_118 : decode cX2_readWell 118 = .ok (.putfield 71, 3) := by decide +kernel
theorem dX2_readWell_121 : decode cX2_readWell 121 = .ok (.iconst 1, 1) := by decide +kernel
theorem dX2_readWell_122 : decode cX2_readWell 122 = .ok (.ireturn, 1) := by decide +kernel
theorem dX2_readDry_0 : decode cX2_readDry 0 = .ok (.aload_n 0, 1) := by decide +kernel
theorem dX2_readDry_1 : decode cX2_readDry 1 = .ok (.iconst 0, 1) := by decide +kernel
theorem dX2_readDry_2 : decode cX2_readDry 2 = .ok (.iconst 2, 1) := by decide +kernel
theorem dX2_readDry_3 : decode cX2_readDry 3 = .ok (.invokevirtual 159, 3) := by decide +kernel
theorem dX2_readDry_6 : decode cX2_readDry 6 = .ok (.ifCond .ne 5, 3) := by decide +kernel
theorem dX2_readDry_9 : decode cX2_readDry 9 = .ok (.iconst 0, 1) := by decide +kernel
theorem dX2_readDry_10 : decode cX2_readDry 10 = .ok (.ireturn, 1) := by decide +kernel
theorem dX2_readDry_11 : decode cX2_readDry 11 = .ok (.aload_n 0, 1) := by decide +kernel
theorem dX2_readDry_12 : decode cX2_readDry 12 = .ok (.getfield 30, 3) := by decide +kernel
theorem dX2_readDry_15 : decode cX2_readDry 15 = .ok (.aload_n 0, 1) := by decide +kernel
theorem dX2_readDry_16 : decode cX2_readDry 16 = .ok (.getfield 24, 3) := by decide +kernel
theorem dX2_readDry_19 : decode cX2_readDry 19 = .ok (.ishr, 1) := by decide +kernel
theorem dX2_readDry_20 : decode cX2_readDry 20 = .ok (.iconst 1, 1) := by decide +kernel
theorem dX2_readDry_21 : decode cX2_readDry 21 = .ok (.iand, 1) := by decide +kernel
theorem dX2_readDry_22 : decode cX2_readDry 22 = .ok (.iconst 1, 1) := by decide +kernel
theorem dX2_readDry_23 : decode cX2_readDry 23 = .ok (.if_icmp .ne 13, 3) := by decide +kernel
theorem dX2_readDry_26 : decode cX2_readDry 26 = .ok (.aload_n 0, 1) := by decide +kernel
theorem dX2_readDry_27 : decode cX2_readDry 27 = .ok (.iconst 4, 1) := by decide +kernel
theorem dX2_readDry_28 : decode cX2_readDry 28 = .ok (.aload_n 0, 1) := by decide +kernel
theorem dX2_readDry_29 : decode cX2_readDry 29 = .ok (.getfield 18, 3) := by decide +kernel
theorem dX2_readDry_32 : decode cX2_readDry 32 = .ok (.invokevirtual 74, 3) := by decide +kernel
theorem dX2_readDry_35 : decode cX2_readDry 35 = .ok (.ireturn, 1) := by decide +kernel
theorem dX2_readDry_36 : decode cX2_readDry 36 = .ok (.aload_n 0, 1) := by decide +kernel
theorem dX2_readDry_37 : decode cX2_readDry 37 = .ok (.dup, 1) := by decide +kernel
theorem dX2_readDry_38 : decode cX2_readDry 38 = .ok (.getfield 30, 3) := by decide +kernel
theorem dX2_readDry_41 : decode cX2_readDry 41 = .ok (.iconst 1, 1) := by decide +kernel
theorem dX2_readDry_42 : decode cX2_readDry 42 = .ok (.aload_n 0, 1) := by decide +kernel
theorem dX2_readDry_43 : decode cX2_readDry 43 = .ok (.getfield 24, 3) := by decide +kernel
theorem dX2_readDry_46 : decode cX2_readDry 46 = .ok (.ishl, 1) := by decide +kernel
theorem dX2_readDry_47 : decode cX2_readDry 47 = .ok (.ior, 1) := by decide +kernel
theorem dX2_readDry_48 : decode cX2_readDry 48 = .ok (.putfield 30, 3) := by decide +kernel
theorem dX2_readDry_51 : decode cX2_readDry 51 = .ok (.iconst 1, 1) := by decide +kernel
theorem dX2_readDry_52 : decode cX2_readDry 52 = .ok (.ireturn, 1) := by decide +kernel
theorem dX2_readBottle_0 : decode cX2_readBottle 0 = .ok (.aload_n 0, 1) := by decide +kernel
theorem dX2_readBottle_1 : decode cX2_readBottle 1 = .ok (.iconst 0, 1) := by decide +kernel
theorem dX2_readBottle_2 : decode cX2_readBottle 2 = .ok (.bipush 60, 2) := by decide +kernel
theorem dX2_readBottle_4 : decode cX2_readBottle 4 = .ok (.invokevirtual 159, 3) := by decide +kernel
theorem dX2_readBottle_7 : decode cX2_readBottle 7 = .ok (.ifCond .ne 5, 3) := by decide +kernel
theorem dX2_readBottle_10 : decode cX2_readBottle 10 = .ok (.iconst 0, 1) := by decide +kernel
theorem dX2_readBottle_11 : decode cX2_readBottle 11 = .ok (.ireturn, 1) := by decide +kernel
theorem dX2_readBottle_12 : decode cX2_readBottle 12 = .ok (.aload_n 0, 1) := by decide +kernel
theorem dX2_readBottle_13 : decode cX2_readBottle 13 = .ok (.getfield 46, 3) := by decide +kernel
theorem dX2_readBottle_16 : decode cX2_readBottle 16 = .ok (.aload_n 0, 1) := by decide +kernel
theorem dX2_readBottle_17 : decode cX2_readBottle 17 = .ok (.getfield 24, 3) := by decide +kernel
theorem dX2_readBottle_20 : decode cX2_readBottle 20 = .ok (.putfield 187, 3) := by decide +kernel
theorem dX2_readBottle_23 : decode cX2_readBottle 23 = .ok (.iconst 1, 1) := by decide +kernel
theorem dX2_readBottle_24 : decode cX2_readBottle 24 = .ok (.ireturn, 1) := by decide +kernel
theorem dX2_readGoal_0 : decode cX2_readGoal 0 = .ok (.aload_n 0, 1) := by decide +kernel
theorem dX2_readGoal_1 : decode cX2_readGoal 1 = .ok (.iconst 0, 1) := by decide +kernel
theorem dX2_readGoal_2 : decode cX2_readGoal 2 = .ok (.bipush 60, 2) := by decide +kernel
theorem dX2_readGoal_4 : decode cX2_readGoal 4 = .ok (.invokevirtual 159, 3) := by decide +kernel
theorem dX2_readGoal_7 : decode cX2_readGoal 7 = .ok (.ifCond .ne 5, 3) := by decide +kernel
theorem dX2_readGoal_10 : decode cX2_readGoal 10 = .ok (.iconst 0, 1) := by decide +kernel
theorem dX2_readGoal_11 : decode cX2_readGoal 11 = .ok (.ireturn, 1) := by decide +kernel
theorem dX2_readGoal_12 : decode cX2_readGoal 12 = .ok (.aload_n 0, 1) := by decide +kernel
theorem dX2_readGoal_13 : decode cX2_readGoal 13 = .ok (.getfield 46, 3) := by decide +kernel
theorem dX2_readGoal_16 : decode cX2_readGoal 16 = .ok (.aload_n 0, 1) := by decide +kernel
theorem dX2_readGoal_17 : decode cX2_readGoal 17 = .ok (.getfield 24, 3) := by decide +kernel
theorem dX2_readGoal_20 : decode cX2_readGoal 20 = .ok (.putfield 189, 3) := by decide +kernel
theorem dX2_readGoal_23 : decode cX2_readGoal 23 = .ok (.aload_n 0, 1) := by decide +kernel
theorem dX2_readGoal_24 : decode cX2_readGoal 24 = .ok (.iconst 0, 1) := by decide +kernel
theorem dX2_readGoal_25 : decode cX2_readGoal 25 = .ok (.bipush 23, 2) := by decide +kernel
theorem dX2_readGoal_27 : decode cX2_readGoal 27 = .ok (.invokevirtual 159, 3) := by decide +kernel
theorem dX2_readGoal_30 : decode cX2_readGoal 30 = .ok (.ifCond .ne 5, 3) := by decide +kernel
theorem dX2_readGoal_33 : decode cX2_readGoal 33 = .ok (.iconst 0, 1) := by decide +kernel
theorem dX2_readGoal_34 : decode cX2_readGoal 34 = .ok (.ireturn, 1) := by decide +kernel
theorem dX2_readGoal_35 : decode cX2_readGoal 35 = .ok (.aload_n 0, 1) := by decide +kernel
theorem dX2_readGoal_36 : decode cX2_readGoal 36 = .ok (.getfield 46, 3) := by decide +kernel
theorem dX2_readGoal_39 : decode cX2_readGoal 39 = .ok (.aload_n 0, 1) := by decide +kernel
theorem dX2_readGoal_40 : decode cX2_readGoal 40 = .ok (.getfield 24, 3) := by decide +kernel
theorem dX2_readGoal_43 : decode cX2_readGoal 43 = .ok (.putfield 191, 3) := by decide +kernel
theorem dX2_readGoal_46 : decode cX2_readGoal 46 = .ok (.iconst 1, 1) := by decide +kernel
theorem dX2_readGoal_47 : decode cX2_readGoal 47 = .ok (.ireturn, 1) := by decide +kernel
theorem dX2_readPlan_0 : decode cX2_readPlan 0 = .ok (.aload_n 0, 1) := by decide +kernel
theorem dX2_readPlan_1 : decode cX2_readPlan 1 = .ok (.invokevirtual 61, 3) := by decide +kernel
theorem dX2_readPlan_4 : decode cX2_readPlan 4 = .ok (.ifCond .ne 5, 3) := by decide +kernel
theorem dX2_readPlan_7 : decode cX2_readPlan 7 = .ok (.iconst 0, 1) := by decide +kernel
theorem dX2_readPlan_8 : decode cX2_readPlan 8 = .ok (.ireturn, 1) := by decide +kernel
theorem dX2_readPlan_9 : decode cX2_readPlan 9 = .ok (.aload_n 0, 1) := by decide +kernel
theorem dX2_readPlan_10 : decode cX2_readPlan 10 = .ok (.invokevirtual 194, 3) := by decide +kernel
theorem dX2_readPlan_13 : decode cX2_readPlan 13 = .ok (.istore_n 1, 1) := by decide +kernel
theorem dX2_readPlan_14 : decode cX2_readPlan 14 = .ok (.iload_n 1, 1) := by decide +kernel
theorem dX2_readPlan_15 : decode cX2_readPlan 15 = .ok (.bipush (-4), 2) := by decide +kernel
theorem dX2_readPlan_17 : decode cX2_readPlan 17 = .ok (.if_icmp .ne 13, 3) := by decide +kernel
theorem dX2_readPlan_20 : decode cX2_readPlan 20 = .ok (.aload_n 0, 1) := by decide +kernel
theorem dX2_readPlan_21 : decode cX2_readPlan 21 = .ok (.iconst 2, 1) := by decide +kernel
theorem dX2_readPlan_22 : decode cX2_readPlan 22 = .ok (.aload_n 0, 1) := by decide +kernel
theorem dX2_readPlan_23 : decode cX2_readPlan 23 = .ok (.getfield 18, 3) := by decide +kernel
theorem dX2_readPlan_26 : decode cX2_readPlan 26 = .ok (.invokevirtual 74, 3) := by decide +kernel
theorem dX2_readPlan_29 : decode cX2_readPlan 29 = .ok (.ireturn, 1) := by decide +kernel
theorem dX2_readPlan_30 : decode cX2_readPlan 30 = .ok (.aload_n 0, 1) := by decide +kernel
theorem dX2_readPlan_31 : decode cX2_readPlan 31 = .ok (.getfield 46, 3) := by decide +kernel
theorem dX2_readPlan_34 : decode cX2_readPlan 34 = .ok (.iload_n 1, 1) := by decide +kernel
theorem dX2_readPlan_35 : decode cX2_readPlan 35 = .ok (.putfield 197, 3) := by decide +kernel
theorem dX2_readPlan_38 : decode cX2_readPlan 38 = .ok (.iconst 1, 1) := by decide +kernel
theorem dX2_readPlan_39 : decode cX2_readPlan 39 = .ok (.ireturn, 1) := by decide +kernel
theorem dX2_planByName_0 : decode cX2_planByName 0 = .ok (.aload_n 0, 1) := by decide +kernel
theorem dX2_planByName_1 : decode cX2_planByName 1 = .ok (.ldc 199, 2) := by decide +kernel
theorem dX2_planByName_3 : decode cX2_planByName 3 = .ok (.invokevirtual 131, 3) := by decide +kernel
theorem dX2_planByName_6 : decode cX2_planByName 6 = .ok (.ifCond .eq 5, 3) := by decide +kernel
theorem dX2_planByName_9 : decode cX2_planByName 9 = .ok (.iconst 0, 1) := by decide +kernel
theorem dX2_planByName_10 : decode cX2_planByName 10 = .ok (.ireturn, 1) := by decide +kernel
theorem dX2_planByName_11 : decode cX2_planByName 11 = .ok (.aload_n 0, 1) := by decide +kernel
theorem dX2_planByName_12 : decode cX2_planByName 12 = .ok (.ldc 201, 2) := by decide +kernel
theorem dX2_planByName_14 : decode cX2_planByName 14 = .ok (.invokevirtual 131, 3) := by decide +kernel
theorem dX2_planByName_17 : decode cX2_planByName 17 = .ok (.ifCond .eq 5, 3) := by decide +kernel
theorem dX2_planByName_20 : decode cX2_planByName 20 = .ok (.iconst 1, 1) := by decide +kernel
theorem dX2_planByName_21 : decode cX2_planByName 21 = .ok (.ireturn, 1) := by decide +kernel
theorem dX2_planByName_22 : decode cX2_planByName 22 = .ok (.aload_n 0, 1) := by decide +kernel
theorem dX2_planByName_23 : decode cX2_planByName 23 = .ok (.ldc 203, 2) := by decide +kernel
theorem dX2_planByName_25 : decode cX2_planByName 25 = .ok (.invokevirtual 131, 3) := by decide +kernel
theorem dX2_planByName_28 : decode cX2_planByName 28 = .ok (.ifCond .eq 5, 3) := by decide +kernel
theorem dX2_planByName_31 : decode cX2_planByName 31 = .ok (.iconst 2, 1) := by decide +kernel
theorem dX2_planByName_32 : decode cX2_planByName 32 = .ok (.ireturn, 1) := by decide +kernel
theorem dX2_planByName_33 : decode cX2_planByName 33 = .ok (.aload_n 0, 1) := by decide +kernel
theorem dX2_planByName_34 : decode cX2_planByName 34 = .ok (.ldc 205, 2) := by decide +kernel
theorem dX2_planByName_36 : decode cX2_planByName 36 = .ok (.invokevirtual 131, 3) := by decide +kernel
theorem dX2_planByName_39 : decode cX2_planByName 39 = .ok (.ifCond .eq 5, 3) := by decide +kernel
theorem dX2_planByName_42 : decode cX2_planByName 42 = .ok (.iconst 3, 1) := by decide +kernel
theorem dX2_planByName_43 : decode cX2_planByName 43 = .ok (.ireturn, 1) := by decide +kernel
theorem dX2_planByName_44 : decode cX2_planByName 44 = .ok (.bipush (-4), 2) := by decide +kernel
theorem dX2_planByName_46 : decode cX2_planByName 46 = .ok (.ireturn, 1) := by decide +kernel
theorem dX2_readDew_0 : decode cX2_readDew 0 = .ok (.aload_n 0, 1) := by decide +kernel
theorem dX2_readDew_1 : decode cX2_readDew 1 = .ok (.iconst 0, 1) := by decide +kernel
theorem dX2_readDew_2 : decode cX2_readDew 2 = .ok (.bipush 9, 2) := by decide +kernel
theorem dX2_readDew_4 : decode cX2_readDew 4 = .ok (.invokevirtual 159, 3) := by decide +kernel
theorem dX2_readDew_7 : decode cX2_readDew 7 = .ok (.ifCond .ne 5, 3) := by decide +kernel
theorem dX2_readDew_10 : decode cX2_readDew 10 = .ok (.iconst 0, 1) := by decide +kernel
theorem dX2_readDew_11 : decode cX2_readDew 11 = .ok (.ireturn, 1) := by decide +kernel
theorem dX2_readDew_12 : decode cX2_readDew 12 = .ok (.aload_n 0, 1) := by decide +kernel
theorem dX2_readDew_13 : decode cX2_readDew 13 = .ok (.getfield 46, 3) := by decide +kernel
theorem dX2_readDew_16 : decode cX2_readDew 16 = .ok (.aload_n 0, 1) := by decide +kernel
theorem dX2_readDew_17 : decode cX2_readDew 17 = .ok (.getfield 24, 3) := by decide +kernel
theorem dX2_readDew_20 : decode cX2_readDew 20 = .ok (.putfield 207, 3) := by decide +kernel
theorem dX2_readDew_23 : decode cX2_readDew 23 = .ok (.iconst 1, 1) := by decide +kernel
theorem dX2_readDew_24 : decode cX2_readDew 24 = .ok (.ireturn, 1) := by decide +kernel
theorem dX2_readFound_0 : decode cX2_readFound 0 = .ok (.aload_n 0, 1) := by decide +kernel
theorem dX2_readFound_1 : decode cX2_readFound 1 = .ok (.iconst 0, 1) := by decide +kernel
theorem dX2_readFound_2 : decode cX2_readFound 2 = .ok (.bipush 10, 2) := by decide +kernel
theorem dX2_readFound_4 : decode cX2_readFound 4 = .ok (.invokevirtual 159, 3) := by decide +kernel
theorem dX2_readFound_7 : decode cX2_readFound 7 = .ok (.ifCond .ne 5, 3) := by decide +kernel
theorem dX2_readFound_10 : decode cX2_readFound 10 = .ok (.iconst 0, 1) := by decide +kernel
theorem dX2_readFound_11 : decode cX2_readFound 11 = .ok (.ireturn, 1) := by decide +kernel
theorem dX2_readFound_12 : decode cX2_readFound 12 = .ok (.aload_n 0, 1) := by decide +kernel
theorem dX2_readFound_13 : decode cX2_readFound 13 = .ok (.getfield 46, 3) := by decide +kernel
theorem dX2_readFound_16 : decode cX2_readFound 16 = .ok (.aload_n 0, 1) := by decide +kernel
theorem dX2_readFound_17 : decode cX2_readFound 17 = .ok (.getfield 24, 3) := by decide +kernel
theorem dX2_readFound_20 : decode cX2_readFound 20 = .ok (.putfield 210, 3) := by decide +kernel
theorem dX2_readFound_23 : decode cX2_readFound 23 = .ok (.iconst 1, 1) := by decide +kernel
theorem dX2_readFound_24 : decode cX2_readFound 24 = .ok (.ireturn, 1) := by decide +kernel
end
section
theorem dX3_init_0 : decode cX3_init 0 = .ok (.aload_n 0, 1) := by decide +kernel
theorem dX3_init_1 : decode cX3_init 1 = .ok (.invokespecial 1, 3) := by decide +kernel
theorem dX3_init_4 : decode cX3_init 4 = .ok (.aload_n 0, 1) := by decide +kernel
theorem dX3_init_5 : decode cX3_init 5 = .ok (.sipush 160, 3) := by decide +kernel
theorem dX3_init_8 : decode cX3_init 8 = .ok (.newarray .byte, 2) := by decide +kernel
theorem dX3_init_10 : decode cX3_init 10 = .ok (.putfield 9, 3) := by decide +kernel
theorem dX3_init_13 : decode cX3_init 13 = .ok (.aload_n 0, 1) := by decide +kernel
theorem dX3_init_14 : decode cX3_init 14 = .ok (.iconst 0, 1) := by decide +kernel
theorem dX3_init_15 : decode cX3_init 15 = .ok (.putfield 13, 3) := by decide +kernel
theorem dX3_init_18 : decode cX3_init 18 = .ok (.aload_n 0, 1) := by decide +kernel
theorem dX3_init_19 : decode cX3_init 19 = .ok (.iconst 0, 1) := by decide +kernel
theorem dX3_init_20 : decode cX3_init 20 = .ok (.putfield 17, 3) := by decide +kernel
theorem dX3_init_23 : decode cX3_init 23 = .ok (.aload_n 0, 1) := by decide +kernel
theorem dX3_init_24 : decode cX3_init 24 = .ok (.new 20, 3) := by decide +kernel
theorem dX3_init_27 : decode cX3_init 27 = .ok (.dup, 1) := by decide +kernel
theorem dX3_init_28 : decode cX3_init 28 = .ok (.invokespecial 22, 3) := by decide +kernel
theorem dX3_init_31 : decode cX3_init 31 = .ok (.putfield 23, 3) := by decide +kernel
theorem dX3_init_34 : decode cX3_init 34 = .ok (.aload_n 0, 1) := by decide +kernel
theorem dX3_init_35 : decode cX3_init 35 = .ok (.new 20, 3) := by decide +kernel
theorem dX3_init_38 : decode cX3_init 38 = .ok (.dup, 1) := by decide +kernel
theorem dX3_init_39 : decode cX3_init 39 = .ok (.invokespecial 22, 3) := by decide +kernel
theorem dX3_init_42 : decode cX3_init 42 = .ok (.putfield 27, 3) := by decide +kernel
theorem dX3_init_45 : decode cX3_init 45 = .ok (.aload_n 0, 1) := by decide +kernel
theorem dX3_init_46 : decode cX3_init 46 = .ok (.new 20, 3) := by decide +kernel
theorem dX3_init_49 : decode cX3_init 49 = .ok (.dup, 1) := by decide +kernel
theorem dX3_init_50 : decode cX3_init 50 = .ok (.invokespecial 22, 3) := by decide +kernel
theorem dX3_init_53 : decode cX3_init 53 = .ok (.putfield 30, 3) := by decide +kernel
theorem dX3_init_56 : decode cX3_init 56 = .ok (.aload_n 0, 1) := by decide +kernel
theorem dX3_init_57 : decode cX3_init 57 = .ok (.new 33, 3) := by decide +kernel
theorem dX3_init_60 : decode cX3_init 60 = .ok (.dup, 1) := by decide +kernel
theorem dX3_init_61 : decode cX3_init 61 = .ok (.aload_n 0, 1) := by decide +kernel
theorem dX3_init_62 : decode cX3_init 62 = .ok (.getfield 9, 3) := by decide +kernel
theorem dX3_init_65 : decode cX3_init 65 = .ok (.aload_n 0, 1) := by decide +kernel
theorem dX3_init_66 : decode cX3_init 66 = .ok (.getfield 27, 3) := by decide +kernel
theorem dX3_init_69 : decode cX3_init 69 = .ok (.invokespecial 35, 3) := by decide +kernel
theorem dX3_init_72 : decode cX3_init 72 = .ok (.putfield 38, 3) := by decide +kernel
theorem dX3_init_75 : decode cX3_init 75 = .ok (.aload_n 0, 1) := by decide +kernel
theorem dX3_init_76 : decode cX3_init 76 = .ok (.iconst 2, 1) := by decide +kernel
theorem dX3_init_77 : decode cX3_init 77 = .ok (.anewarray 20, 3) := by decide +kernel
theorem dX3_init_80 : decode cX3_init 80 = .ok (.dup, 1) := by decide +kernel
theorem dX3_init_81 : decode cX3_init 81 = .ok (.iconst 0, 1) := by decide +kernel
theorem dX3_init_82 : decode cX3_init 82 = .ok (.new 20, 3) := by decide +kernel
theorem dX3_init_85 : decode cX3_init 85 = .ok (.dup, 1) := by decide +kernel
theorem dX3_init_86 : decode cX3_init 86 = .ok (.invokespecial 22, 3) := by decide +kernel
theorem dX3_init_89 : decode cX3_init 89 = .ok (.aastore, 1) := by decide +kernel
theorem dX3_init_90 : decode cX3_init 90 = .ok (.dup, 1) := by decide +kernel
theorem dX3_init_91 : decode cX3_init 91 = .ok (.iconst 1, 1) := by decide +kernel
theorem dX3_init_92 : decode cX3_init 92 = .ok (.new 20, 3) := by decide +kernel
theorem dX3_init_95 : decode cX3_init 95 = .ok (.dup, 1) := by decide +kernel
theorem dX3_init_96 : decode cX3_init 96 = .ok (.invokespecial 22, 3) := by decide +kernel
theorem dX3_init_99 : decode cX3_init 99 = .ok (.aastore, 1) := by decide +kernel
theorem dX3_init_100 : decode cX3_init 100 = .ok (.putfield 42, 3) := by decide +kernel
theorem dX3_init_103 : decode cX3_init 103 = .ok (.aload_n 0, 1) := by decide +kernel
theorem dX3_init_104 : decode cX3_init 104 = .ok (.iconst 2, 1) := by decide +kernel
theorem dX3_init_105 : decode cX3_init 105 = .ok (.newarray .boolean, 2) := by decide +kernel
theorem dX3_init_107 : decode cX3_init 107 = .ok (.putfield 46, 3) := by decide +kernel
theorem dX3_init_110 : decode cX3_init 110 = .ok (.aload_n 0, 1) := by decide +kernel
theorem dX3_init_111 : decode cX3_init 111 = .ok (.bipush 6, 2) := by decide +kernel
theorem dX3_init_113 : decode cX3_init 113 = .ok (.newarray .int, 2) := by decide +kernel
theorem dX3_init_115 : decode cX3_init 115 = .ok (.putfield 50, 3) := by decide +kernel
theorem dX3_init_118 : decode cX3_init 118 = .ok (.aload_n 0, 1) := by decide +kernel
theorem dX3_init_119 : decode cX3_init 119 = .ok (.bipush 6, 2) := by decide +kernel
theorem dX3_init_121 : decode cX3_init 121 = .ok (.newarray .int, 2) := by decide +kernel
theorem dX3_init_123 : decode cX3_init 123 = .ok (.putfield 54, 3) := by decide +kernel
theorem dX3_init_126 : decode cX3_init 126 = .ok (.aload_n 0, 1) := by decide +kernel
theorem dX3_init_127 : decode cX3_init 127 = .ok (.iconst 0, 1) := by decide +kernel
theorem dX3_init_128 : decode cX3_init 128 = .ok (.putfield 57, 3) := by decide +kernel
theorem dX3_init_131 : decode cX3_init 131 = .ok (.aload_n 0, 1) := by decide +kernel
theorem dX3_init_132 : decode cX3_init 132 = .ok (.iconst 4, 1) := by decide +kernel
theorem dX3_init_133 : decode cX3_init 133 = .ok (.anewarray 60, 3) := by decide +kernel
theorem dX3_init_136 : decode cX3_init 136 = .ok (.dup, 1) := by decide +kernel
theorem dX3_init_137 : decode cX3_init 137 = .ok (.iconst 0, 1) := by decide +kernel
theorem dX3_init_138 : decode cX3_init 138 = .ok (.new 60, 3) := by decide +kernel
theorem dX3_init_141 : decode cX3_init 141 = .ok (.dup, 1) := by decide +kernel
theorem dX3_init_142 : decode cX3_init 142 = .ok (.invokespecial 62, 3) := by decide +kernel
theorem dX3_init_145 : decode cX3_init 145 = .ok (.aastore, 1) := by decide +kernel
theorem dX3_init_146 : decode cX3_init 146 = .ok (.dup, 1) := by decide +kernel
theorem dX3_init_147 : decode cX3_init 147 = .ok (.iconst 1, 1) := by decide +kernel
theorem dX3_init_148 : decode cX3_init 148 = .ok (.new 60, 3) := by decide +kernel
theorem dX3_init_151 : decode cX3_init 151 = .ok (.dup, 1) := by decide +kernel
theorem dX3_init_152 : decode cX3_init 152 = .ok (.invokespecial 62, 3) := by decide +kernel
theorem dX3_init_155 : decode cX3_init 155 = .ok (.aastore, 1) := by decide +kernel
theorem dX3_init_156 : decode cX3_init 156 = .ok (.dup, 1) := by decide +kernel
theorem dX3_init_157 : decode cX3_init 157 = .ok (.iconst 2, 1) := by decide +kernel
theorem dX3_init_158 : decode cX3_init 158 = .ok (.new 60, 3) := by decide +kernel
theorem dX3_init_161 : decode cX3_init 161 = .ok (.dup, 1) := by decide +kernel
theorem dX3_init_162 : decode cX3_init 162 = .ok (.invokespecial 62, 3) := by decide +kernel
theorem dX3_init_165 : decode cX3_init 165 = .ok (.aastore, 1) := by decide +kernel
theorem dX3_init_166 : decode cX3_init 166 = .ok (.dup, 1) := by decide +kernel
theorem dX3_init_167 : decode cX3_init 167 = .ok (.iconst 3, 1) := by decide +kernel
theorem dX3_init_168 : decode cX3_init 168 = .ok (.new 60, 3) := by decide +kernel
theorem dX3_init_171 : decode cX3_init 171 = .ok (.dup, 1) := by decide +kernel
theorem dX3_init_172 : decode cX3_init 172 = .ok (.invokespecial 62, 3) := by decide +kernel
theorem dX3_init_175 : decode cX3_init 175 = .ok (.aastore, 1) := by decide +kernel
theorem dX3_init_176 : decode cX3_init 176 = .ok (.putfield 63, 3) := by decide +kernel
theorem dX3_init_179 : decode cX3_init 179 = .ok (.aload_n 0, 1) := by decide +kernel
theorem dX3_init_180 : decode cX3_init 180 = .ok (.iconst 0, 1) := by decide +kernel
theorem dX3_init_181 : decode cX3_init 181 = .ok (.putfield 67, 3) := by decide +kernel
theorem dX3_init_184 : decode cX3_init 184 = .ok (.return_, 1) := by decide +kernel
theorem dX3_feed_0 : decode cX3_feed 0 = .ok (.iload_n 1, 1) := by decide +kernel
theorem dX3_feed_1 : decode cX3_feed 1 = .ok (.iconst 0, 1) := by decide +kernel
theorem dX3_feed_2 : decode cX3_feed 2 = .ok (.bipush 127, 2) := by decide +kernel
theorem dX3_feed_4 : decode cX3_feed 4 = .ok (.invokestatic 70, 3) := by decide +kernel
theorem dX3_feed_7 : decode cX3_feed 7 = .ok (.ifCond .ne 5, 3) := by decide +kernel
theorem dX3_feed_10 : decode cX3_feed 10 = .ok (.iconst (-1), 1) := by decide +kernel
theorem dX3_feed_11 : decode cX3_feed 11 = .ok (.ireturn, 1) := by decide +kernel
theorem dX3_feed_12 : decode cX3_feed 12 = .ok (.aload_n 0, 1) := by decide +kernel
theorem dX3_feed_13 : decode cX3_feed 13 = .ok (.getfield 13, 3) := by decide +kernel
theorem dX3_feed_16 : decode cX3_feed 16 = .ok (.sipush 160, 3) := by decide +kernel
theorem dX3_feed_19 : decode cX3_feed 19 = .ok (.if_icmp .lt 6, 3) := by decide +kernel
theorem dX3_feed_22 : decode cX3_feed 22 = .ok (.bipush (-3), 2) := by decide +kernel
theorem dX3_feed_24 : decode cX3_feed 24 = .ok (.ireturn, 1) := by decide +kernel
theorem dX3_feed_25 : decode cX3_feed 25 = .ok (.aload_n 0, 1) := by decide +kernel
theorem dX3_feed_26 : decode cX3_feed 26 = .ok (.getfield 9, 3) := by decide +kernel
theorem dX3_feed_29 : decode cX3_feed 29 = .ok (.aload_n 0, 1) := by decide +kernel
theorem dX3_feed_30 : decode cX3_feed 30 = .ok (.getfield 13, 3) := by decide +kernel
theorem dX3_feed_33 : decode cX3_feed 33 = .ok (.iload_n 1, 1) := by decide +kernel
theorem dX3_feed_34 : decode cX3_feed 34 = .ok (.i2b, 1) := by decide +kernel
theorem dX3_feed_35 : decode cX3_feed 35 = .ok (.bastore, 1) := by decide +kernel
theorem dX3_feed_36 : decode cX3_feed 36 = .ok (.aload_n 0, 1) := by decide +kernel
theorem dX3_feed_37 : decode cX3_feed 37 = .ok (.dup, 1) := by decide +kernel
theorem dX3_feed_38 : decode cX3_feed 38 = .ok (.getfield 13, 3) := by decide +kernel
theorem dX3_feed_41 : decode cX3_feed 41 = .ok (.iconst 1, 1) := by decide +kernel
theorem dX3_feed_42 : decode cX3_feed 42 = .ok (.iadd, 1) := by decide +kernel
theorem dX3_feed_43 : decode cX3_feed 43 = .ok (.putfield 13, 3) := by decide +kernel
theorem dX3_feed_46 : decode cX3_feed 46 = .ok (.aload_n 0, 1) := by decide +kernel
theorem dX3_feed_47 : decode cX3_feed 47 = .ok (.getfield 13, 3) := by decide +kernel
theorem dX3_feed_50 : decode cX3_feed 50 = .ok (.ireturn, 1) := by decide +kernel
theorem dX3_end_0 : decode cX3_end 0 = .ok (.iload_n 1, 1) := by decide +kernel
theorem dX3_end_1 : decode cX3_end 1 = .ok (.iconst 0, 1) := by decide +kernel
theorem dX3_end_2 : decode cX3_end 2 = .ok (.aload_n 0, 1) := by decide +kernel
theorem dX3_end_3 : decode cX3_end 3 = .ok (.getfield 13, 3) := by decide +kernel
theorem dX3_end_6 : decode cX3_end 6 = .ok (.invokestatic 70, 3) := by decide +kernel
theorem dX3_end_9 : decode cX3_end 9 = .ok (.ifCond .ne 5, 3) := by decide +kernel
theorem dX3_end_12 : decode cX3_end 12 = .ok (.iconst (-1), 1) := by decide +kernel
theorem dX3_end_13 : decode cX3_end 13 = .ok (.ireturn, 1) := by decide +kernel
theorem dX3_end_14 : decode cX3_end 14 = .ok (.aload_n 0, 1) := by decide +kernel
theorem dX3_end_15 : decode cX3_end 15 = .ok (.getfield 13, 3) := by decide +kernel
theorem dX3_end_18 : decode cX3_end 18 = .ok (.istore_n 2, 1) := by decide +kernel
theorem dX3_end_19 : decode cX3_end 19 = .ok (.aload_n 0, 1) := by decide +kernel
theorem dX3_end_20 : decode cX3_end 20 = .ok (.iload_n 1, 1) := by decide +kernel
theorem dX3_end_21 : decode cX3_end 21 = .ok (.putfield 13, 3) := by decide +kernel
theorem dX3_end_24 : decode cX3_end 24 = .ok (.iload_n 2, 1) := by decide +kernel
theorem dX3_end_25 : decode cX3_end 25 = .ok (.ireturn, 1) := by decide +kernel
theorem dX3_text_0 : decode cX3_text 0 = .ok (.aload_n 0, 1) := by decide +kernel
theorem dX3_text_1 : decode cX3_text 1 = .ok (.getfield 13, 3) := by decide +kernel
theorem dX3_text_4 : decode cX3_text 4 = .ok (.istore_n 1, 1) := by decide +kernel
theorem dX3_text_5 : decode cX3_text 5 = .ok (.aload_n 0, 1) := by decide +kernel
theorem dX3_text_6 : decode cX3_text 6 = .ok (.iconst 0, 1) := by decide +kernel
theorem dX3_text_7 : decode cX3_text 7 = .ok (.putfield 13, 3) := by decide +kernel
theorem dX3_text_10 : decode cX3_text 10 = .ok (.aload_n 0, 1) := by decide +kernel
theorem dX3_text_11 : decode cX3_text 11 = .ok (.getfield 38, 3) := by decide +kernel
theorem dX3_text_14 : decode cX3_text 14 = .ok (.iload_n 1, 1) := by decide +kernel
theorem dX3_text_15 : decode cX3_text 15 = .ok (.invokevirtual 74, 3) := by decide +kernel
theorem dX3_text_18 : decode cX3_text 18 = .ok (.aload_n 0, 1) := by decide +kernel
theorem dX3_text_19 : decode cX3_text 19 = .ok (.aload_n 0, 1) := by decide +kernel
theorem dX3_text_20 : decode cX3_text 20 = .ok (.getfield 38, 3) := by decide +kernel
theorem dX3_text_23 : decode cX3_text 23 = .ok (.getfield 78, 3) := by decide +kernel
theorem dX3_text_26 : decode cX3_text 26 = .ok (.putfield 17, 3) := by decide +kernel
theorem dX3_text_29 : decode cX3_text 29 = .ok (.aload_n 0, 1) := by decide +kernel
theorem dX3_text_30 : decode cX3_text 30 = .ok (.getfield 17, 3) := by decide +kernel
theorem dX3_text_33 : decode cX3_text 33 = .ok (.ifCond .eq 14, 3) := by decide +kernel
theorem dX3_text_36 : decode cX3_text 36 = .ok (.bipush (-10), 2) := by decide +kernel
theorem dX3_text_38 : decode cX3_text 38 = .ok (.aload_n 0, 1) := by decide +kernel
theorem dX3_text_39 : decode cX3_text 39 = .ok (.getfield 38, 3) := by decide +kernel
theorem dX3_text_42 : decode cX3_text 42 = .ok (.getfield 81, 3) := by decide +kernel
theorem dX3_text_45 : decode cX3_text 45 = .ok (.isub, 1) := by decide +kernel
theorem dX3_text_46 : decode cX3_text 46 = .ok (.ireturn, 1) := by decide +kernel
theorem dX3_text_47 : decode cX3_text 47 = .ok (.aload_n 0, 1) := by decide +kernel
theorem dX3_text_48 : decode cX3_text 48 = .ok (.getfield 23, 3) := by decide +kernel
theorem dX3_text_51 : decode cX3_text 51 = .ok (.aload_n 0, 1) := by decide +kernel
theorem dX3_text_52 : decode cX3_text 52 = .ok (.getfield 27, 3) := by decide +kernel
theorem dX3_text_55 : decode cX3_text 55 = .ok (.invokevirtual 84, 3) := by decide +kernel
theorem dX3_text_58 : decode cX3_text 58 = .ok (.aload_n 0, 1) := by decide +kernel
theorem dX3_text_59 : decode cX3_text 59 = .ok (.iconst 0, 1) := by decide +kernel
theorem dX3_text_60 : decode cX3_text 60 = .ok (.putfield 57, 3) := by decide +kernel
theorem dX3_text_63 : decode cX3_text 63 = .ok (.iconst 0, 1) := by decide +kernel
theorem dX3_text_64 : decode cX3_text 64 = .ok (.istore_n 2, 1) := by decide +kernel
theorem dX3_text_65 : decode cX3_text 65 = .ok (.iload_n 2, 1) := by decide +kernel
theorem dX3_text_66 : decode cX3_text 66 = .ok (.iconst 2, 1) := by decide +kernel
theorem dX3_text_67 : decode cX3_text 67 = .ok (.if_icmp .ge 16, 3) := by decide +kernel
theorem dX3_text_70 : decode cX3_text 70 = .ok (.aload_n 0, 1) := by decide +kernel
theorem dX3_text_71 : decode cX3_text 71 = .ok (.getfield 46, 3) := by decide +kernel
theorem dX3_text_74 : decode cX3_text 74 = .ok (.iload_n 2, 1) := by decide +kernel
theorem dX3_text_75 : decode cX3_text 75 = .ok (.iconst 0, 1) := by decide +kernel
theorem dX3_text_76 : decode cX3_text 76 = .ok (.bastore, 1) := by decide +kernel
theorem dX3_text_77 : decode cX3_text 77 = .ok (.iinc 2 1, 3) := by decide +kernel
theorem dX3_text_80 : decode cX3_text 80 = .ok (.goto (-15), 3) := by decide +kernel
theorem dX3_text_83 : decode cX3_text 83 = .ok (.aload_n 0, 1) := by decide +kernel
theorem dX3_text_84 : decode cX3_text 84 = .ok (.getfield 38, 3) := by decide +kernel
theorem dX3_text_87 : decode cX3_text 87 = .ok (.getfield 88, 3) := by decide +kernel
theorem dX3_text_90 : decode cX3_text 90 = .ok (.ireturn, 1) := by decide +kernel
theorem dX3_fault_0 : decode cX3_fault 0 = .ok (.aload_n 0, 1) := by decide +kernel
theorem dX3_fault_1 : decode cX3_fault 1 = .ok (.getfield 17, 3) := by decide +kernel
theorem dX3_fault_4 : decode cX3_fault 4 = .ok (.ireturn, 1) := by decide +kernel
theorem dX3_rule_0 : decode cX3_rule 0 = .ok (.iload_n 1, 1) := by decide +kernel
theorem dX3_rule_1 : decode cX3_rule 1 = .ok (.tableswitch 123 0 8 #[51, 59, 67, 75, 83, 91, 99, 107, 115], 51) := by decide +kernel
theorem dX3_rule_52 : decode cX3_rule 52 = .ok (.aload_n 0, 1) := by decide +kernel
theorem dX3_rule_53 : decode cX3_rule 53 = .ok (.getfield 23, 3) := by decide +kernel
theorem dX3_rule_56 : decode cX3_rule 56 = .ok (.getfield 91, 3) := by decide +kernel
theorem dX3_rule_59 : decode cX3_rule 59 = .ok (.ireturn, 1) := by decide +kernel
theorem dX3_rule_60 : decode cX3_rule 60 = .ok (.aload_n 0, 1) := by decide +kernel
theorem dX3_rule_61 : decode cX3_rule 61 = .ok (.getfield 23, 3) := by decide +kernel
theorem dX3_rule_64 : decode cX3_rule 64 = .ok (.getfield 94, 3) := by decide +kernel
theorem dX3_rule_67 : decode cX3_rule 67 = .ok (.ireturn, 1) := by decide +kernel
theorem dX3_rule_68 : decode cX3_rule 68 = .ok (.aload_n 0, 1) := by decide +kernel
theorem dX3_rule_69 : decode cX3_rule 69 = .ok (.getfield 23, 3) := by decide +kernel
theorem dX3_rule_72 : decode cX3_rule 72 = .ok (.getfield 97, 3) := by decide +kernel
theorem dX3_rule_75 : decode cX3_rule 75 = .ok (.ireturn, 1) := by decide +kernel
theorem dX3_rule_76 : decode cX3_rule 76 = .ok (.aload_n 0, 1) := by decide +kernel
theorem dX3_rule_77 : decode cX3_rule 77 = .ok (.getfield 23, 3) := by decide +kernel
theorem dX3_rule_80 : decode cX3_rule 80 = .ok (.getfield 100, 3) := by decide +kernel
theorem dX3_rule_83 : decode cX3_rule 83 = .ok (.ireturn, 1) := by decide +kernel
theorem dX3_rule_84 : decode cX3_rule 84 = .ok (.aload_n 0, 1) := by decide +kernel
theorem dX3_rule_85 : decode cX3_rule 85 = .ok (.getfield 23, 3) := by decide +kernel
theorem dX3_rule_88 : decode cX3_rule 88 = .ok (.getfield 103, 3) := by decide +kernel
theorem dX3_rule_91 : decode cX3_rule 91 = .ok (.ireturn, 1) := by decide +kernel
theorem dX3_rule_92 : decode cX3_rule 92 = .ok (.aload_n 0, 1) := by decide +kernel
theorem dX3_rule_93 : decode cX3_rule 93 = .ok (.getfield 23, 3) := by decide +kernel
theorem dX3_rule_96 : decode cX3_rule 96 = .ok (.getfield 106, 3) := by decide +kernel
theorem dX3_rule_99 : decode cX3_rule 99 = .ok (.ireturn, 1) := by decide +kernel
theorem dX3_rule_100 : decode cX3_rule 100 = .ok (.aload_n 0, 1) := by decide +kernel
theorem dX3_rule_101 : decode cX3_rule 101 = .ok (.getfield 23, 3) := by decide +kernel
theorem dX3_rule_104 : decode cX3_rule 104 = .ok (.getfield 109, 3) := by decide +kernel
theorem dX3_rule_107 : decode cX3_rule 107 = .ok (.ireturn, 1) := by decide +kernel
theorem dX3_rule_108 : decode cX3_rule 108 = .ok (.aload_n 0, 1) := by decide +kernel
theorem dX3_rule_109 : decode cX3_rule 109 = .ok (.getfield 23, 3) := by decide +kernel
theorem dX3_rule_112 : decode cX3_rule 112 = .ok (.getfield 112, 3) := by decide +kernel
theorem dX3_rule_115 : decode cX3_rule 115 = .ok (.ireturn, 1) := by decide +kernel
theorem dX3_rule_116 : decode cX3_rule 116 = .ok (.aload_n 0, 1) := by decide +kernel
theorem dX3_rule_117 : decode cX3_rule 117 = .ok (.getfield 23, 3) := by decide +kernel
theorem dX3_rule_120 : decode cX3_rule 120 = .ok (.getfield 115, 3) := by decide +kernel
theorem dX3_rule_123 : decode cX3_rule 123 = .ok (.ireturn, 1) := by decide +kernel
theorem dX3_rule_124 : decode cX3_rule 124 = .ok (.iconst (-1), 1) := by decide +kernel
theorem dX3_rule_125 : decode cX3_rule 125 = .ok (.ireturn, 1) := by decide +kernel
theorem dX3_one_0 : decode cX3_one 0 = .ok (.aload_n 0, 1) := by decide +kernel
theorem dX3_one_1 : decode cX3_one 1 = .ok (.iload_n 1, 1) := by decide +kernel
theorem dX3_one_2 : decode cX3_one 2 = .ok (.invokevirtual 118, 3) := by decide +kernel
theorem dX3_one_5 : decode cX3_one 5 = .ok (.ifCond .ne 5, 3) := by decide +kernel
theorem dX3_one_8 : decode cX3_one 8 = .ok (.iconst (-1), 1) := by decide +kernel
theorem dX3_one_9 : decode cX3_one 9 = .ok (.ireturn, 1) := by decide +kernel
theorem dX3_one_10 : decode cX3_one 10 = .ok (.iload_n 2, 1) := by decide +kernel
theorem dX3_one_11 : decode cX3_one 11 = .ok (.tableswitch 68 0 3 #[29, 39, 49, 59], 29) := by decide +kernel
theorem dX3_one_40 : decode cX3_one 40 = .ok (.aload_n 0, 1) := by decide +kernel
theorem dX3_one_41 : decode cX3_one 41 = .ok (.getfield 23, 3) := by decide +kernel
theorem dX3_one_44 : decode cX3_one 44 = .ok (.getfield 122, 3) := by decide +kernel
theorem dX3_one_47 : decode cX3_one 47 = .ok (.iload_n 1, 1) := by decide +kernel
theorem dX3_one_48 : decode cX3_one 48 = .ok (.iaload, 1) := by decide +kernel
theorem dX3_one_49 : decode cX3_one 49 = .ok (.ireturn, 1) := by decide +kernel
theorem dX3_one_50 : decode cX3_one 50 = .ok (.aload_n 0, 1) := by decide +kernel
theorem dX3_one_51 : decode cX3_one 51 = .ok (.getfield 23, 3) := by decide +kernel
theorem dX3_one_54 : decode cX3_one 54 = .ok (.getfield 125, 3) := by decide +kernel
theorem dX3_one_57 : decode cX3_one 57 = .ok (.iload_n 1, 1) := by decide +kernel
theorem dX3_one_58 : decode cX3_one 58 = .ok (.iaload, 1) := by decide +kernel
theorem dX3_one_59 : decode cX3_one 59 = .ok (.ireturn, 1) := by decide +kernel
theorem dX3_one_60 : decode cX3_one 60 = .ok (.aload_n 0, 1) := by decide +kernel
theorem dX3_one_61 : decode cX3_one 61 = .ok (.getfield 23, 3) := by decide +kernel
theorem dX3_one_64 : decode cX3_one 64 = .ok (.getfield 128, 3) := by decide +kernel
theorem dX3_one_67 : decode cX3_one 67 = .ok (.iload_n 1, 1) := by decide +kernel
theorem dX3_one_68 : decode cX3_one 68 = .ok (.iaload, 1) := by decide +kernel
theorem dX3_one_69 : decode cX3_one 69 = .ok (.ireturn, 1) := by decide +kernel
theorem dX3_one_70 : decode cX3_one 70 = .ok (.aload_n 0, 1) := by decide +kernel
theorem dX3_one_71 : decode cX3_one 71 = .ok (.getfield 23, 3) := by decide +kernel
theorem dX3_one_74 : decode cX3_one 74 = .ok (.iload_n 1, 1) := by decide +kernel
theorem dX3_one_75 : decode cX3_one 75 = .ok (.invokevirtual 131, 3) := by decide +kernel
theorem dX3_one_78 : decode cX3_one 78 = .ok (.ireturn, 1) := by decide +kernel
theorem dX3_one_79 : decode cX3_one 79 = .ok (.iconst (-1), 1) := by decide +kernel
theorem dX3_one_80 : decode cX3_one 80 = .ok (.ireturn, 1) := by decide +kernel
theorem dX3_well_0 : decode cX3_well 0 = .ok (.aload_n 0, 1) := by decide +kernel
theorem dX3_well_1 : decode cX3_well 1 = .ok (.iload_n 1, 1) := by decide +kernel
theorem dX3_well_2 : decode cX3_well 2 = .ok (.invokevirtual 135, 3) := by decide +kernel
theorem dX3_well_5 : decode cX3_well 5 = .ok (.ifCond .ne 5, 3) := by decide +kernel
theorem dX3_well_8 : decode cX3_well 8 = .ok (.iconst (-1), 1) := by decide +kernel
theorem dX3_well_9 : decode cX3_well 9 = .ok (.ireturn, 1) := by decide +kernel
theorem dX3_well_10 : decode cX3_well 10 = .ok (.iload_n 2, 1) := by decide +kernel
theorem dX3_well_11 : decode cX3_well 11 = .ok (.tableswitch 72 0 3 #[29, 39, 49, 59], 29) := by decide +kernel
theorem dX3_well_40 : decode cX3_well 40 = .ok (.aload_n 0, 1) := by decide +kernel
theorem dX3_well_41 : decode cX3_well 41 = .ok (.getfield 23, 3) := by decide +kernel
theorem dX3_well_44 : decode cX3_well 44 = .ok (.getfield 138, 3) := by decide +kernel
theorem dX3_well_47 : decode cX3_well 47 = .ok (.iload_n 1, 1) := by decide +kernel
theorem dX3_well_48 : decode cX3_well 48 = .ok (.iaload, 1) := by decide +kernel
theorem dX3_well_49 : decode cX3_well 49 = .ok (.ireturn, 1) := by decide +kernel
theorem dX3_well_50 : decode cX3_well 50 = .ok (.aload_n 0, 1) := by decide +kernel
theorem dX3_well_51 : decode cX3_well 51 = .ok (.getfield 23, 3) := by decide +kernel
theorem dX3_well_54 : decode cX3_well 54 = .ok (.getfield 141, 3) := by decide +kernel
theorem dX3_well_57 : decode cX3_well 57 = .ok (.iload_n 1, 1) := by decide +kernel
theorem dX3_well_58 : decode cX3_well 58 = .ok (.iaload, 1) := by decide +kernel
theorem dX3_well_59 : decode cX3_well 59 = .ok (.ireturn, 1) := by decide +kernel
theorem dX3_well_60 : decode cX3_well 60 = .ok (.aload_n 0, 1) := by decide +kernel
theorem dX3_well_61 : decode cX3_well 61 = .ok (.getfield 23, 3) := by decide +kernel
theorem dX3_well_64 : decode cX3_well 64 = .ok (.getfield 144, 3) := by decide +kernel
theorem dX3_well_67 : decode cX3_well 67 = .ok (.iload_n 1, 1) := by decide +kernel
theorem dX3_well_68 : decode cX3_well 68 = .ok (.iaload, 1) := by decide +kernel
theorem dX3_well_69 : decode cX3_well 69 = .ok (.ireturn, 1) := by decide +kernel
theorem dX3_well_70 : decode cX3_well 70 = .ok (.aload_n 0, 1) := by decide +kernel
theorem dX3_well_71 : decode cX3_well 71 = .ok (.getfield 23, 3) := by decide +kernel
theorem dX3_well_74 : decode cX3_well 74 = .ok (.getfield 147, 3) := by decide +kernel
theorem dX3_well_77 : decode cX3_well 77 = .ok (.iload_n 1, 1) := by decide +kernel
theorem dX3_well_78 : decode cX3_well 78 = .ok (.baload, 1) := by decide +kernel
theorem dX3_well_79 : decode cX3_well 79 = .ok (.invokestatic 150, 3) := by decide +kernel
theorem dX3_well_82 : decode cX3_well 82 = .ok (.ireturn, 1) := by decide +kernel
theorem dX3_well_83 : decode cX3_well 83 = .ok (.iconst (-1), 1) := by decide +kernel
theorem dX3_well_84 : decode cX3_well 84 = .ok (.ireturn, 1) := by decide +kernel
theorem dX3_pours_0 : decode cX3_pours 0 = .ok (.aload_n 0, 1) := by decide +kernel
theorem dX3_pours_1 : decode cX3_pours 1 = .ok (.getfield 23, 3) := by decide +kernel
theorem dX3_pours_4 : decode cX3_pours 4 = .ok (.invokevirtual 154, 3) := by decide +kernel
theorem dX3_pours_7 : decode cX3_pours 7 = .ok (.ireturn, 1) := by decide +kernel
theorem dX3_loses_0 : decode cX3_loses 0 = .ok (.aload_n 0, 1) := by decide +kernel
theorem dX3_loses_1 : decode cX3_loses 1 = .ok (.iload_n 1, 1) := by decide +kernel
theorem dX3_loses_2 : decode cX3_loses 2 = .ok (.invokevirtual 118, 3) := by decide +kernel
theorem dX3_loses_5 : decode cX3_loses 5 = .ok (.ifCond .eq 15, 3) := by decide +kernel
theorem dX3_loses_8 : decode cX3_loses 8 = .ok (.aload_n 0, 1) := by decide +kernel
theorem dX3_loses_9 : decode cX3_loses 9 = .ok (.getfield 23, 3) := by decide +kernel
theorem dX3_loses_12 : decode cX3_loses 12 = .ok (.iload_n 1, 1) := by decide +kernel
theorem dX3_loses_13 : decode cX3_loses 13 = .ok (.iload_n 2, 1) := by decide +kernel
theorem dX3_loses_14 : decode cX3_loses 14 = .ok (.invokevirtual 158, 3) := by decide +kernel
theorem dX3_loses_17 : decode cX3_loses 17 = .ok (.goto 4, 3) := by decide +kernel
theorem dX3_loses_20 : decode cX3_loses 20 = .ok (.iconst (-1), 1) := by decide +kernel
theorem dX3_loses_21 : decode cX3_loses 21 = .ok (.ireturn, 1) := by decide +kernel
theorem dX3_teach_0 : decode cX3_teach 0 = .ok (.aload_n 0, 1) := by decide +kernel
theorem dX3_teach_1 : decode cX3_teach 1 = .ok (.iload_n 1, 1) := by decide +kernel
theorem dX3_teach_2 : decode cX3_teach 2 = .ok (.invokevirtual 118, 3) := by decide +kernel
theorem dX3_teach_5 : decode cX3_teach 5 = .ok (.ifCond .eq 10, 3) := by decide +kernel
theorem dX3_teach_8 : decode cX3_teach 8 = .ok (.iload_n 2, 1) := by decide +kernel
theorem dX3_teach_9 : decode cX3_teach 9 = .ok (.invokestatic 162, 3) := by decide +kernel
theorem dX3_teach_12 : decode cX3_teach 12 = .ok (.ifCond .ne 5, 3) := by decide +kernel
theorem dX3_teach_15 : decode cX3_teach 15 = .ok (.iconst (-1), 1) := by decide +kernel
theorem dX3_teach_16 : decode cX3_teach 16 = .ok (.ireturn, 1) := by decide +kernel
theorem dX3_teach_17 : decode cX3_teach 17 = .ok (.aload_n 0, 1) := by decide +kernel
theorem dX3_teach_18 : decode cX3_teach 18 = .ok (.getfield 23, 3) := by decide +kernel
theorem dX3_teach_21 : decode cX3_teach 21 = .ok (.getfield 122, 3) := by decide +kernel
theorem dX3_teach_24 : decode cX3_teach 24 = .ok (.iload_n 1, 1) := by decide +kernel
theorem dX3_teach_25 : decode cX3_teach 25 = .ok (.iaload, 1) := by decide +kernel
theorem dX3_teach_26 : decode cX3_teach 26 = .ok (.istore_n 3, 1) := by decide +kernel
theorem dX3_teach_27 : decode cX3_teach 27 = .ok (.aload_n 0, 1) := by decide +kernel
theorem dX3_teach_28 : decode cX3_teach 28 = .ok (.getfield 23, 3) := by decide +kernel
theorem dX3_teach_31 : decode cX3_teach 31 = .ok (.getfield 122, 3) := by decide +kernel
theorem dX3_teach_34 : decode cX3_teach 34 = .ok (.iload_n 1, 1) := by decide +kernel
theorem dX3_teach_35 : decode cX3_teach 35 = .ok (.iload_n 2, 1) := by decide +kernel
theorem dX3_teach_36 : decode cX3_teach 36 = .ok (.iastore, 1) := by decide +kernel
theorem dX3_teach_37 : decode cX3_teach 37 = .ok (.iload_n 3, 1) := by decide +kernel
theorem dX3_teach_38 : decode cX3_teach 38 = .ok (.ireturn, 1) := by decide +kernel
theorem dX3_drink_0 : decode cX3_drink 0 = .ok (.aload_n 0, 1) := by decide +kernel
theorem dX3_drink_1 : decode cX3_drink 1 = .ok (.getfield 23, 3) := by decide +kernel
theorem dX3_drink_4 : decode cX3_drink 4 = .ok (.iload_n 1, 1) := by decide +kernel
theorem dX3_drink_5 : decode cX3_drink 5 = .ok (.iload_n 2, 1) := by decide +kernel
theorem dX3_drink_6 : decode cX3_drink 6 = .ok (.invokevirtual 165, 3) := by decide +kernel
theorem dX3_drink_9 : decode cX3_drink 9 = .ok (.ireturn, 1) := by decide +kernel
theorem dX3_fill_0 : decode cX3_fill 0 = .ok (.iload_n 1, 1) := by decide +kernel
theorem dX3_fill_1 : decode cX3_fill 1 = .ok (.iconst 0, 1) := by decide +kernel
theorem dX3_fill_2 : decode cX3_fill 2 = .ok (.bipush 60, 2) := by decide +kernel
theorem dX3_fill_4 : decode cX3_fill 4 = .ok (.invokestatic 70, 3) := by decide +kernel
theorem dX3_fill_7 : decode cX3_fill 7 = .ok (.ifCond .ne 5, 3) := by decide +kernel
theorem dX3_fill_10 : decode cX3_fill 10 = .ok (.iconst (-1), 1) := by decide +kernel
theorem dX3_fill_11 : decode cX3_fill 11 = .ok (.ireturn, 1) := by decide +kernel
theorem dX3_fill_12 : decode cX3_fill 12 = .ok (.aload_n 0, 1) := by decide +kernel
theorem dX3_fill_13 : decode cX3_fill 13 = .ok (.getfield 23, 3) := by decide +kernel
theorem dX3_fill_16 : decode cX3_fill 16 = .ok (.getfield 106, 3) := by decide +kernel
theorem dX3_fill_19 : decode cX3_fill 19 = .ok (.istore_n 2, 1) := by decide +kernel
theorem dX3_fill_20 : decode cX3_fill 20 = .ok (.aload_n 0, 1) := by decide +kernel
theorem dX3_fill_21 : decode cX3_fill 21 = .ok (.getfield 23, 3) := by decide +kernel
theorem dX3_fill_24 : decode cX3_fill 24 = .ok (.iload_n 1, 1) := by decide +kernel
theorem dX3_fill_25 : decode cX3_fill 25 = .ok (.putfield 106, 3) := by decide +kernel
theorem dX3_fill_28 : decode cX3_fill 28 = .ok (.iload_n 2, 1) := by decide +kernel
theorem dX3_fill_29 : decode cX3_fill 29 = .ok (.ireturn, 1) := by decide +kernel
theorem dX3_plan_0 : decode cX3_plan 0 = .ok (.iload_n 1, 1) := by decide +kernel
theorem dX3_plan_1 : decode cX3_plan 1 = .ok (.invokestatic 169, 3) := by decide +kernel
theorem dX3_plan_4 : decode cX3_plan 4 = .ok (.ifCond .ne 5, 3) := by decide +kernel
theorem dX3_plan_7 : decode cX3_plan 7 = .ok (.iconst (-1), 1) := by decide +kernel
theorem dX3_plan_8 : decode cX3_plan 8 = .ok (.ireturn, 1) := by decide +kernel
theorem dX3_plan_9 : decode cX3_plan 9 = .ok (.aload_n 0, 1) := by decide +kernel
theorem dX3_plan_10 : decode cX3_plan 10 = .ok (.getfield 23, 3) := by decide +kernel
theorem dX3_plan_13 : decode cX3_plan 13 = .ok (.getfield 109, 3) := by decide +kernel
theorem dX3_plan_16 : decode cX3_plan 16 = .ok (.istore_n 2, 1) := by decide +kernel
theorem dX3_plan_17 : decode cX3_plan 17 = .ok (.aload_n 0, 1) := by decide +kernel
theorem dX3_plan_18 : decode cX3_plan 18 = .ok (.getfield 23, 3) := by decide +kernel
theorem dX3_plan_21 : decode cX3_plan 21 = .ok (.iload_n 1, 1) := by decide +kernel
theorem dX3_plan_22 : decode cX3_plan 22 = .ok (.putfield 109, 3) := by decide +kernel
theorem dX3_plan_25 : decode cX3_plan 25 = .ok (.iload_n 2, 1) := by decide +kernel
theorem dX3_plan_26 : decode cX3_plan 26 = .ok (.ireturn, 1) := by decide +kernel
theorem dX3_wet_0 : decode cX3_wet 0 = .ok (.aload_n 0, 1) := by decide +kernel
theorem dX3_wet_1 : decode cX3_wet 1 = .ok (.iload_n 1, 1) := by decide +kernel
theorem dX3_wet_2 : decode cX3_wet 2 = .ok (.invokevirtual 135, 3) := by decide +kernel
theorem dX3_wet_5 : decode cX3_wet 5 = .ok (.ifCond .ne 5, 3) := by decide +kernel
theorem dX3_wet_8 : decode cX3_wet 8 = .ok (.iconst (-1), 1) := by decide +kernel
theorem dX3_wet_9 : decode cX3_wet 9 = .ok (.ireturn, 1) := by decide +kernel
theorem dX3_wet_10 : decode cX3_wet 10 = .ok (.aload_n 0, 1) := by decide +kernel
theorem dX3_wet_11 : decode cX3_wet 11 = .ok (.getfield 23, 3) := by decide +kernel
theorem dX3_wet_14 : decode cX3_wet 14 = .ok (.getfield 147, 3) := by decide +kernel
theorem dX3_wet_17 : decode cX3_wet 17 = .ok (.iload_n 1, 1) := by decide +kernel
theorem dX3_wet_18 : decode cX3_wet 18 = .ok (.baload, 1) := by decide +kernel
theorem dX3_wet_19 : decode cX3_wet 19 = .ok (.istore_n 3, 1) := by decide +kernel
theorem dX3_wet_20 : decode cX3_wet 20 = .ok (.aload_n 0, 1) := by decide +kernel
theorem dX3_wet_21 : decode cX3_wet 21 = .ok (.getfield 23, 3) := by decide +kernel
theorem dX3_wet_24 : decode cX3_wet 24 = .ok (.getfield 147, 3) := by decide +kernel
theorem dX3_wet_27 : decode cX3_wet 27 = .ok (.iload_n 1, 1) := by decide +kernel
theorem dX3_wet_28 : decode cX3_wet 28 = .ok (.iload_n 2, 1) := by decide +kernel
theorem dX3_wet_29 : decode cX3_wet 29 = .ok (.bastore, 1) := by decide +kernel
theorem dX3_wet_30 : decode cX3_wet 30 = .ok (.iload_n 3, 1) := by decide +kernel
theorem dX3_wet_31 : decode cX3_wet 31 = .ok (.invokestatic 150, 3) := by decide +kernel
theorem dX3_wet_34 : decode cX3_wet 34 = .ok (.ireturn, 1) := by decide +kernel
theorem dX3_odd_0 : decode cX3_odd 0 = .ok (.aload_n 0, 1) := by decide +kernel
theorem dX3_odd_1 : decode cX3_odd 1 = .ok (.iload_n 1, 1) := by decide +kernel
theorem dX3_odd_2 : decode cX3_odd 2 = .ok (.invokevirtual 135, 3) := by decide +kernel
theorem dX3_odd_5 : decode cX3_odd 5 = .ok (.ifCond .eq 13, 3) := by decide +kernel
theorem dX3_odd_8 : decode cX3_odd 8 = .ok (.iload_n 2, 1) := by decide +kernel
theorem dX3_odd_9 : decode cX3_odd 9 = .ok (.iconst 0, 1) := by decide +kernel
theorem dX3_odd_10 : decode cX3_odd 10 = .ok (.bipush 10, 2) := by decide +kernel
theorem dX3_odd_12 : decode cX3_odd 12 = .ok (.invokestatic 70, 3) := by decide +kernel
theorem dX3_odd_15 : decode cX3_odd 15 = .ok (.ifCond .ne 5, 3) := by decide +kernel
theorem dX3_odd_18 : decode cX3_odd 18 = .ok (.iconst (-1), 1) := by decide +kernel
theorem dX3_odd_19 : decode cX3_odd 19 = .ok (.ireturn, 1) := by decide +kernel
theorem dX3_odd_20 : decode cX3_odd 20 = .ok (.aload_n 0, 1) := by decide +kernel
theorem dX3_odd_21 : decode cX3_odd 21 = .ok (.getfield 23, 3) := by decide +kernel
theorem dX3_odd_24 : decode cX3_odd 24 = .ok (.getfield 141, 3) := by decide +kernel
theorem dX3_odd_27 : decode cX3_odd 27 = .ok (.iload_n 1, 1) := by decide +kernel
theorem dX3_odd_28 : decode cX3_odd 28 = .ok (.iaload, 1) := by decide +kernel
theorem dX3_odd_29 : decode cX3_odd 29 = .ok (.istore_n 3, 1) := by decide +kernel
theorem dX3_odd_30 : decode cX3_odd 30 = .ok (.aload_n 0, 1) := by decide +kernel
theorem dX3_odd_31 : decode cX3_odd 31 = .ok (.getfield 23, 3) := by decide +kernel
theorem dX3_odd_34 : decode cX3_odd 34 = .ok (.getfield 141, 3) := by decide +kernel
theorem dX3_odd_37 : decode cX3_odd 37 = .ok (.iload_n 1, 1) := by decide +kernel
theorem dX3_odd_38 : decode cX3_odd 38 = .ok (.iload_n 2, 1) := by decide +kernel
theorem dX3_odd_39 : decode cX3_odd 39 = .ok (.iastore, 1) := by decide +kernel
theorem dX3_odd_40 : decode cX3_odd 40 = .ok (.iload_n 3, 1) := by decide +kernel
theorem dX3_odd_41 : decode cX3_odd 41 = .ok (.ireturn, 1) := by decide +kernel
theorem dX3_lay_0 : decode cX3_lay 0 = .ok (.iload_n 1, 1) := by decide +kernel
theorem dX3_lay_1 : decode cX3_lay 1 = .ok (.ifCond .ne 31, 3) := by decide +kernel
theorem dX3_lay_4 : decode cX3_lay 4 = .ok (.iload_n 2, 1) := by decide +kernel
theorem dX3_lay_5 : decode cX3_lay 5 = .ok (.iconst 0, 1) := by decide +kernel
theorem dX3_lay_6 : decode cX3_lay 6 = .ok (.bipush 9, 2) := by decide +kernel
theorem dX3_lay_8 : decode cX3_lay 8 = .ok (.invokestatic 70, 3) := by decide +kernel
theorem dX3_lay_11 : decode cX3_lay 11 = .ok (.ifCond .eq 21, 3) := by decide +kernel
theorem dX3_lay_14 : decode cX3_lay 14 = .ok (.aload_n 0, 1) := by decide +kernel
theorem dX3_lay_15 : decode cX3_lay 15 = .ok (.getfield 23, 3) := by decide +kernel
theorem dX3_lay_18 : decode cX3_lay 18 = .ok (.getfield 112, 3) := by decide +kernel
theorem dX3_lay_21 : decode cX3_lay 21 = .ok (.istore_n 3, 1) := by decide +kernel
theorem dX3_lay_22 : decode cX3_lay 22 = .ok (.aload_n 0, 1) := by decide +kernel
theorem dX3_lay_23 : decode cX3_lay 23 = .ok (.getfield 23, 3) := by decide +kernel
theorem dX3_lay_26 : decode cX3_lay 26 = .ok (.iload_n 2, 1) := by decide +kernel
theorem dX3_lay_27 : decode cX3_lay 27 = .ok (.putfield 112, 3) := by decide +kernel
theorem dX3_lay_30 : decode cX3_lay 30 = .ok (.iload_n 3, 1) := by decide +kernel
theorem dX3_lay_31 : decode cX3_lay 31 = .ok (.ireturn, 1) := by decide +kernel
theorem dX3_lay_32 : decode cX3_lay 32 = .ok (.iload_n 1, 1) := by decide +kernel
theorem dX3_lay_33 : decode cX3_lay 33 = .ok (.iconst 1, 1) := by decide +kernel
theorem dX3_lay_34 : decode cX3_lay 34 = .ok (.if_icmp .ne 31, 3) := by decide +kernel
theorem dX3_lay_37 : decode cX3_lay 37 = .ok (.iload_n 2, 1) := by decide +kernel
theorem dX3_lay_38 : decode cX3_lay 38 = .ok (.iconst 0, 1) := by decide +kernel
theorem dX3_lay_39 : decode cX3_lay 39 = .ok (.bipush 10, 2) := by decide +kernel
theorem dX3_lay_41 : decode cX3_lay 41 = .ok (.invokestatic 70, 3) := by decide +kernel
theorem dX3_lay_44 : decode cX3_lay 44 = .ok (.ifCond .eq 21, 3) := by decide +kernel
theorem dX3_lay_47 : decode cX3_lay 47 = .ok (.aload_n 0, 1) := by decide +kernel
theorem dX3_lay_48 : decode cX3_lay 48 = .ok (.getfield 23, 3) := by decide +kernel
theorem dX3_lay_51 : decode cX3_lay 51 = .ok (.getfield 115, 3) := by decide +kernel
theorem dX3_lay_54 : decode cX3_lay 54 = .ok (.istore_n 3, 1) := by decide +kernel
theorem dX3_lay_55 : decode cX3_lay 55 = .ok (.aload_n 0, 1) := by decide +kernel
theorem dX3_lay_56 : decode cX3_lay 56 = .ok (.getfield 23, 3) := by decide +kernel
theorem dX3_lay_59 : decode cX3_lay 59 = .ok (.iload_n 2, 1) := by decide +kernel
theorem dX3_lay_60 : decode cX3_lay 60 = .ok (.putfield 115, 3) := by decide +kernel
theorem dX3_lay_63 : decode cX3_lay 63 = .ok (.iload_n 3, 1) := by decide +kernel
theorem dX3_lay_64 : decode cX3_lay 64 = .ok (.ireturn, 1) := by decide +kernel
theorem dX3_lay_65 : decode cX3_lay 65 = .ok (.iconst (-1), 1) := by decide +kernel
theorem dX3_lay_66 : decode cX3_lay 66 = .ok (.ireturn, 1) := by decide +kernel
theorem dX3_go_0 : decode cX3_go 0 = .ok (.iload_n 1, 1) := by decide +kernel
theorem dX3_go_1 : decode cX3_go 1 = .ok (.iconst 0, 1) := by decide +kernel
theorem dX3_go_2 : decode cX3_go 2 = .ok (.bipush 60, 2) := by decide +kernel
theorem dX3_go_4 : decode cX3_go 4 = .ok (.invokestatic 70, 3) := by decide +kernel
theorem dX3_go_7 : decode cX3_go 7 = .ok (.ifCond .ne 5, 3) := by decide +kernel
theorem dX3_go_10 : decode cX3_go 10 = .ok (.iconst (-1), 1) := by decide +kernel
theorem dX3_go_11 : decode cX3_go 11 = .ok (.ireturn, 1) := by decide +kernel
theorem dX3_go_12 : decode cX3_go 12 = .ok (.aload_n 0, 1) := by decide +kernel
theorem dX3_go_13 : decode cX3_go 13 = .ok (.getfield 23, 3) := by decide +kernel
theorem dX3_go_16 : decode cX3_go 16 = .ok (.getfield 103, 3) := by decide +kernel
theorem dX3_go_19 : decode cX3_go 19 = .ok (.iload_n 1, 1) := by decide +kernel
theorem dX3_go_20 : decode cX3_go 20 = .ok (.iadd, 1) := by decide +kernel
theorem dX3_go_21 : decode cX3_go 21 = .ok (.sipush 1000, 3) := by decide +kernel
theorem dX3_go_24 : decode cX3_go 24 = .ok (.if_icmp .lt 6, 3) := by decide +kernel
theorem dX3_go_27 : decode cX3_go 27 = .ok (.bipush (-3), 2) := by decide +kernel
theorem dX3_go_29 : decode cX3_go 29 = .ok (.ireturn, 1) := by decide +kernel
theorem dX3_go_30 : decode cX3_go 30 = .ok (.aload_n 0, 1) := by decide +kernel
theorem dX3_go_31 : decode cX3_go 31 = .ok (.getfield 23, 3) := by decide +kernel
theorem dX3_go_34 : decode cX3_go 34 = .ok (.iload_n 1, 1) := by decide +kernel
theorem dX3_go_35 : decode cX3_go 35 = .ok (.aload_n 0, 1) := by decide +kernel
theorem dX3_go_36 : decode cX3_go 36 = .ok (.getfield 23, 3) := by decide +kernel
theorem dX3_go_39 : decode cX3_go 39 = .ok (.getfield 109, 3) := by decide +kernel
theorem dX3_go_42 : decode cX3_go 42 = .ok (.invokevirtual 172, 3) := by decide +kernel
theorem dX3_go_45 : decode cX3_go 45 = .ok (.aload_n 0, 1) := by decide +kernel
theorem dX3_go_46 : decode cX3_go 46 = .ok (.getfield 23, 3) := by decide +kernel
theorem dX3_go_49 : decode cX3_go 49 = .ok (.invokevirtual 176, 3) := by decide +kernel
theorem dX3_go_52 : decode cX3_go 52 = .ok (.ireturn, 1) := by decide +kernel
theorem dX3_ahead_0 : decode cX3_ahead 0 = .ok (.iload_n 2, 1) := by decide +kernel
theorem dX3_ahead_1 : decode cX3_ahead 1 = .ok (.bipush 10, 2) := by decide +kernel
theorem dX3_ahead_3 : decode cX3_ahead 3 = .ok (.if_icmp .lt 18, 3) := by decide +kernel
theorem dX3_ahead_6 : decode cX3_ahead 6 = .ok (.aload_n 0, 1) := by decide +kernel
theorem dX3_ahead_7 : decode cX3_ahead 7 = .ok (.iload_n 2, 1) := by decide +kernel
theorem dX3_ahead_8 : decode cX3_ahead 8 = .ok (.bipush 10, 2) := by decide +kernel
theorem dX3_ahead_10 : decode cX3_ahead 10 = .ok (.isub, 1) := by decide +kernel
theorem dX3_ahead_11 : decode cX3_ahead 11 = .ok (.invokevirtual 118, 3) := by decide +kernel
theorem dX3_ahead_14 : decode cX3_ahead 14 = .ok (.ifCond .eq 7, 3) := by decide +kernel
theorem dX3_ahead_17 : decode cX3_ahead 17 = .ok (.iconst 1, 1) := by decide +kernel
theorem dX3_ahead_18 : decode cX3_ahead 18 = .ok (.goto 4, 3) := by decide +kernel
theorem dX3_ahead_21 : decode cX3_ahead 21 = .ok (.iconst 0, 1) := by decide +kernel
theorem dX3_ahead_22 : decode cX3_ahead 22 = .ok (.istore_n 3, 1) := by decide +kernel
theorem dX3_ahead_23 : decode cX3_ahead 23 = .ok (.iload_n 1, 1) := by decide +kernel
theorem dX3_ahead_24 : decode cX3_ahead 24 = .ok (.iconst 0, 1) := by decide +kernel
theorem dX3_ahead_25 : decode cX3_ahead 25 = .ok (.bipush 96, 2) := by decide +kernel
theorem dX3_ahead_27 : decode cX3_ahead 27 = .ok (.invokestatic 70, 3) := by decide +kernel
theorem dX3_ahead_30 : decode cX3_ahead 30 = .ok (.ifCond .eq 16, 3) := by decide +kernel
theorem dX3_ahead_33 : decode cX3_ahead 33 = .ok (.iload_n 2, 1) := by decide +kernel
theorem dX3_ahead_34 : decode cX3_ahead 34 = .ok (.iconst 0, 1) := by decide +kernel
theorem dX3_ahead_35 : decode cX3_ahead 35 = .ok (.iconst 2, 1) := by decide +kernel
theorem dX3_ahead_36 : decode cX3_ahead 36 = .ok (.invokestatic 70, 3) := by decide +kernel
theorem dX3_ahead_39 : decode cX3_ahead 39 = .ok (.ifCond .ne 9, 3) := by decide +kernel
theorem dX3_ahead_42 : decode cX3_ahead 42 = .ok (.iload_n 3, 1) := by decide +kernel
theorem dX3_ahead_43 : decode cX3_ahead 43 = .ok (.ifCond .ne 5, 3) := by decide +kernel
theorem dX3_ahead_46 : decode cX3_ahead 46 = .ok (.iconst (-1), 1) := by decide +kernel
theorem dX3_ahead_47 : decode cX3_ahead 47 = .ok (.ireturn, 1) := by decide +kernel
theorem dX3_ahead_48 : decode cX3_ahead 48 = .ok (.aload_n 0, 1) := by decide +kernel
theorem dX3_ahead_49 : decode cX3_ahead 49 = .ok (.getfield 27, 3) := by decide +kernel
theorem dX3_ahead_52 : decode cX3_ahead 52 = .ok (.aload_n 0, 1) := by decide +kernel
theorem dX3_ahead_53 : decode cX3_ahead 53 = .ok (.getfield 23, 3) := by decide +kernel
theorem dX3_ahead_56 : decode cX3_ahead 56 = .ok (.invokevirtual 84, 3) := by decide +kernel
theorem dX3_ahead_59 : decode cX3_ahead 59 = .ok (.aload_n 0, 1) := by decide +kernel
theorem dX3_ahead_60 : decode cX3_ahead 60 = .ok (.getfield 27, 3) := by decide +kernel
theorem dX3_ahead_63 : decode cX3_ahead 63 = .ok (.iload_n 1, 1) := by decide +kernel
theorem dX3_ahead_64 : decode cX3_ahead 64 = .ok (.aload_n 0, 1) := by decide +kernel
theorem dX3_ahead_65 : decode cX3_ahead 65 = .ok (.getfield 23, 3) := by decide +kernel
theorem dX3_ahead_68 : decode cX3_ahead 68 = .ok (.getfield 109, 3) := by decide +kernel
theorem dX3_ahead_71 : decode cX3_ahead 71 = .ok (.invokevirtual 172, 3) := by decide +kernel
theorem dX3_ahead_74 : decode cX3_ahead 74 = .ok (.iload_n 3, 1) := by decide +kernel
theorem dX3_ahead_75 : decode cX3_ahead 75 = .ok (.ifCond .eq 18, 3) := by decide +kernel
theorem dX3_ahead_78 : decode cX3_ahead 78 = .ok (.aload_n 0, 1) := by decide +kernel
theorem dX3_ahead_79 : decode cX3_ahead 79 = .ok (.getfield 27, 3) := by decide +kernel
theorem dX3_ahead_82 : decode cX3_ahead 82 = .ok (.getfield 128, 3) := by decide +kernel
theorem dX3_ahead_85 : decode cX3_ahead 85 = .ok (.iload_n 2, 1) := by decide +kernel
theorem dX3_ahead_86 : decode cX3_ahead 86 = .ok (.bipush 10, 2) := by decide +kernel
theorem dX3_ahead_88 : decode cX3_ahead 88 = .ok (.isub, 1) := by decide +kernel
theorem dX3_ahead_89 : decode cX3_ahead 89 = .ok (.iaload, 1) := by decide +kernel
theorem dX3_ahead_90 : decode cX3_ahead 90 = .ok (.goto 11, 3) := by decide +kernel
theorem dX3_ahead_93 : decode cX3_ahead 93 = .ok (.aload_n 0, 1) := by decide +kernel
theorem dX3_ahead_94 : decode cX3_ahead 94 = .ok (.getfield 27, 3) := by decide +kernel
theorem dX3_ahead_97 : decode cX3_ahead 97 = .ok (.iload_n 2, 1) := by decide +kernel
theorem dX3_ahead_98 : decode cX3_ahead 98 = .ok (.invokestatic 179, 3) := by decide +kernel
theorem dX3_ahead_101 : decode cX3_ahead 101 = .ok (.ireturn, 1) := by decide +kernel
theorem dX3_down_0 : decode cX3_down 0 = .ok (.aload_n 0, 1) := by decide +kernel
theorem dX3_down_1 : decode cX3_down 1 = .ok (.iload_n 1, 1) := by decide +kernel
theorem dX3_down_2 : decode cX3_down 2 = .ok (.invokevirtual 118, 3) := by decide +kernel
theorem dX3_down_5 : decode cX3_down 5 = .ok (.ifCond .ne 5, 3) := by decide +kernel
theorem dX3_down_8 : decode cX3_down 8 = .ok (.iconst (-1), 1) := by decide +kernel
theorem dX3_down_9 : decode cX3_down 9 = .ok (.ireturn, 1) := by decide +kernel
theorem dX3_down_10 : decode cX3_down 10 = .ok (.aload_n 0, 1) := by decide +kernel
theorem dX3_down_11 : decode cX3_down 11 = .ok (.getfield 27, 3) := by decide +kernel
theorem dX3_down_14 : decode cX3_down 14 = .ok (.aload_n 0, 1) := by decide +kernel
theorem dX3_down_15 : decode cX3_down 15 = .ok (.getfield 23, 3) := by decide +kernel
theorem dX3_down_18 : decode cX3_down 18 = .ok (.invokevirtual 84, 3) := by decide +kernel
theorem dX3_down_21 : decode cX3_down 21 = .ok (.iconst 0, 1) := by decide +kernel
theorem dX3_down_22 : decode cX3_down 22 = .ok (.istore_n 2, 1) := by decide +kernel
theorem dX3_down_23 : decode cX3_down 23 = .ok (.iload_n 2, 1) := by decide +kernel
theorem dX3_down_24 : decode cX3_down 24 = .ok (.bipush 96, 2) := by decide +kernel
theorem dX3_down_26 : decode cX3_down 26 = .ok (.if_icmp .gt 37, 3) := by decide +kernel
theorem dX3_down_29 : decode cX3_down 29 = .ok (.aload_n 0, 1) := by decide +kernel
theorem dX3_down_30 : decode cX3_down 30 = .ok (.getfield 27, 3) := by decide +kernel
theorem dX3_down_33 : decode cX3_down 33 = .ok (.iload_n 1, 1) := by decide +kernel
theorem dX3_down_34 : decode cX3_down 34 = .ok (.invokevirtual 183, 3) := by decide +kernel
theorem dX3_down_37 : decode cX3_down 37 = .ok (.ifCond .eq 5, 3) := by decide +kernel
theorem dX3_down_40 : decode cX3_down 40 = .ok (.iload_n 2, 1) := by decide +kernel
theorem dX3_down_41 : decode cX3_down 41 = .ok (.ireturn, 1) := by decide +kernel
theorem dX3_down_42 : decode cX3_down 42 = .ok (.aload_n 0, 1) := by decide +kernel
theorem dX3_down_43 : decode cX3_down 43 = .ok (.getfield 27, 3) := by decide +kernel
theorem dX3_down_46 : decode cX3_down 46 = .ok (.iconst 1, 1) := by decide +kernel
theorem dX3_down_47 : decode cX3_down 47 = .ok (.aload_n 0, 1) := by decide +kernel
theorem dX3_down_48 : decode cX3_down 48 = .ok (.getfield 23, 3) := by decide +kernel
theorem dX3_down_51 : decode cX3_down 51 = .ok (.getfield 109, 3) := by decide +kernel
theorem dX3_down_54 : decode cX3_down 54 = .ok (.invokevirtual 172, 3) := by decide +kernel
theorem dX3_down_57 : decode cX3_down 57 = .ok (.iinc 2 1, 3) := by decide +kernel
theorem dX3_down_60 : decode cX3_down 60 = .ok (.goto (-37), 3) := by decide +kernel
theorem dX3_down_63 : decode cX3_down 63 = .ok (.bipush (-4), 2) := by decide +kernel
theorem dX3_down_65 : decode cX3_down 65 = .ok (.ireturn, 1) := by decide +kernel
theorem dX3_arrive_0 : decode cX3_arrive 0 = .ok (.iload_n 1, 1) := by decide +kernel
theorem dX3_arrive_1 : decode cX3_arrive 1 = .ok (.invokestatic 169, 3) := by decide +kernel
theorem dX3_arrive_4 : decode cX3_arrive 4 = .ok (.ifCond .eq 12, 3) := by decide +kernel
theorem dX3_arrive_7 : decode cX3_arrive 7 = .ok (.iload_n 2, 1) := by decide +kernel
theorem dX3_arrive_8 : decode cX3_arrive 8 = .ok (.iconst 0, 1) := by decide +kernel
theorem dX3_arrive_9 : decode cX3_arrive 9 = .ok (.iconst 1, 1) := by decide +kernel
theorem dX3_arrive_10 : decode cX3_arrive 10 = .ok (.invokestatic 70, 3) := by decide +kernel
theorem dX3_arrive_13 : decode cX3_arrive 13 = .ok (.ifCond .ne 5, 3) := by decide +kernel
theorem dX3_arrive_16 : decode cX3_arrive 16 = .ok (.iconst (-1), 1) := by decide +kernel
theorem dX3_arrive_17 : decode cX3_arrive 17 = .ok (.ireturn, 1) := by decide +kernel
theorem dX3_arrive_18 : decode cX3_arrive 18 = .ok (.aload_n 0, 1) := by decide +kernel
theorem dX3_arrive_19 : decode cX3_arrive 19 = .ok (.getfield 27, 3) := by decide +kernel
theorem dX3_arrive_22 : decode cX3_arrive 22 = .ok (.aload_n 0, 1) := by decide +kernel
theorem dX3_arrive_23 : decode cX3_arrive 23 = .ok (.getfield 23, 3) := by decide +kernel
theorem dX3_arrive_26 : decode cX3_arrive 26 = .ok (.invokevirtual 84, 3) := by decide +kernel
theorem dX3_arrive_29 : decode cX3_arrive 29 = .ok (.aload_n 0, 1) := by decide +kernel
theorem dX3_arrive_30 : decode cX3_arrive 30 = .ok (.getfield 27, 3) := by decide +kernel
theorem dX3_arrive_33 : decode cX3_arrive 33 = .ok (.iload_n 1, 1) := by decide +kernel
theorem dX3_arrive_34 : decode cX3_arrive 34 = .ok (.invokevirtual 186, 3) := by decide +kernel
theorem dX3_arrive_37 : decode cX3_arrive 37 = .ok (.istore_n 3, 1) := by decide +kernel
theorem dX3_arrive_38 : decode cX3_arrive 38 = .ok (.aload_n 0, 1) := by decide +kernel
theorem dX3_arrive_39 : decode cX3_arrive 39 = .ok (.getfield 27, 3) := by decide +kernel
theorem dX3_arrive_42 : decode cX3_arrive 42 = .ok (.invokevirtual 189, 3) := by decide +kernel
theorem dX3_arrive_45 : decode cX3_arrive 45 = .ok (.istore 4, 2) := by decide +kernel
theorem dX3_arrive_47 : decode cX3_arrive 47 = .ok (.iload_n 2, 1) := by decide +kernel
theorem dX3_arrive_48 : decode cX3_arrive 48 = .ok (.ifCond .ne 6, 3) := by decide +kernel
theorem dX3_arrive_51 : decode cX3_arrive 51 = .ok (.iload 4, 2) := by decide +kernel
theorem dX3_arrive_53 : decode cX3_arrive 53 = .ok (.ireturn, 1) := by decide +kernel
theorem dX3_arrive_54 : decode cX3_arrive 54 = .ok (.iload 4, 2) := by decide +kernel
theorem dX3_arrive_56 : decode cX3_arrive 56 = .ok (.ifCond .le 7, 3) := by decide +kernel
theorem dX3_arrive_59 : decode cX3_arrive 59 = .ok (.iload_n 3, 1) := by decide +kernel
theorem dX3_arrive_60 : decode cX3_arrive 60 = .ok (.goto 5, 3) := by decide +kernel
theorem dX3_arrive_63 : decode cX3_arrive 63 = .ok (.bipush (-4), 2) := by decide +kernel
theorem dX3_arrive_65 : decode cX3_arrive 65 = .ok (.ireturn, 1) := by decide +kernel
theorem dX3_best_0 : decode cX3_best 0 = .ok (.iload_n 1, 1) := by decide +kernel
theorem dX3_best_1 : decode cX3_best 1 = .ok (.iconst 0, 1) := by decide +kernel
theorem dX3_best_2 : decode cX3_best 2 = .ok (.iconst 1, 1) := by decide +kernel
theorem dX3_best_3 : decode cX3_best 3 = .ok (.invokestatic 70, 3) := by decide +kernel
theorem dX3_best_6 : decode cX3_best 6 = .ok (.ifCond .ne 5, 3) := by decide +kernel
theorem dX3_best_9 : decode cX3_best 9 = .ok (.iconst (-1), 1) := by decide +kernel
theorem dX3_best_10 : decode cX3_best 10 = .ok (.ireturn, 1) := by decide +kernel
theorem dX3_best_11 : decode cX3_best 11 = .ok (.iconst 0, 1) := by decide +kernel
theorem dX3_best_12 : decode cX3_best 12 = .ok (.istore_n 2, 1) := by decide +kernel
theorem dX3_best_13 : decode cX3_best 13 = .ok (.iconst 0, 1) := by decide +kernel
theorem dX3_best_14 : decode cX3_best 14 = .ok (.istore_n 3, 1) := by decide +kernel
theorem dX3_best_15 : decode cX3_best 15 = .ok (.iconst 0, 1) := by decide +kernel
theorem dX3_best_16 : decode cX3_best 16 = .ok (.istore 4, 2) := by decide +kernel
theorem dX3_best_18 : decode cX3_best 18 = .ok (.iconst 0, 1) := by decide +kernel
theorem dX3_best_19 : decode cX3_best 19 = .ok (.istore 5, 2) := by decide +kernel
theorem dX3_best_21 : decode cX3_best 21 = .ok (.iload 5, 2) := by decide +kernel
theorem dX3_best_23 : decode cX3_best 23 = .ok (.iconst 2, 1) := by decide +kernel
theorem dX3_best_24 : decode cX3_best 24 = .ok (.if_icmp .gt 74, 3) := by decide +kernel
theorem dX3_best_27 : decode cX3_best 27 = .ok (.aload_n 0, 1) := by decide +kernel
theorem dX3_best_28 : decode cX3_best 28 = .ok (.getfield 27, 3) := by decide +kernel
theorem dX3_best_31 : decode cX3_best 31 = .ok (.aload_n 0, 1) := by decide +kernel
theorem dX3_best_32 : decode cX3_best 32 = .ok (.getfield 23, 3) := by decide +kernel
theorem dX3_best_35 : decode cX3_best 35 = .ok (.invokevirtual 84, 3) := by decide +kernel
theorem dX3_best_38 : decode cX3_best 38 = .ok (.aload_n 0, 1) := by decide +kernel
theorem dX3_best_39 : decode cX3_best 39 = .ok (.getfield 27, 3) := by decide +kernel
theorem dX3_best_42 : decode cX3_best 42 = .ok (.iload 5, 2) := by decide +kernel
theorem dX3_best_44 : decode cX3_best 44 = .ok (.invokevirtual 186, 3) := by decide +kernel
theorem dX3_best_47 : decode cX3_best 47 = .ok (.istore 6, 2) := by decide +kernel
theorem dX3_best_49 : decode cX3_best 49 = .ok (.aload_n 0, 1) := by decide +kernel
theorem dX3_best_50 : decode cX3_best 50 = .ok (.getfield 27, 3) := by decide +kernel
theorem dX3_best_53 : decode cX3_best 53 = .ok (.invokevirtual 189, 3) := by decide +kernel
theorem dX3_best_56 : decode cX3_best 56 = .ok (.istore 7, 2) := by decide +kernel
theorem dX3_best_58 : decode cX3_best 58 = .ok (.iload 7, 2) := by decide +kernel
theorem dX3_best_60 : decode cX3_best 60 = .ok (.iload_n 3, 1) := by decide +kernel
theorem dX3_best_61 : decode cX3_best 61 = .ok (.if_icmp .gt 21, 3) := by decide +kernel
theorem dX3_best_64 : decode cX3_best 64 = .ok (.iload 7, 2) := by decide +kernel
theorem dX3_best_66 : decode cX3_best 66 = .ok (.ifCond .le 26, 3) := by decide +kernel
theorem dX3_best_69 : decode cX3_best 69 = .ok (.iload 7, 2) := by decide +kernel
theorem dX3_best_71 : decode cX3_best 71 = .ok (.iload_n 3, 1) := by decide +kernel
theorem dX3_best_72 : decode cX3_best 72 = .ok (.if_icmp .ne 20, 3) := by decide +kernel
theorem dX3_best_75 : decode cX3_best 75 = .ok (.iload 6, 2) := by decide +kernel
theorem dX3_best_77 : decode cX3_best 77 = .ok (.iload 4, 2) := by decide +kernel
theorem dX3_best_79 : decode cX3_best 79 = .ok (.if_icmp .ge 13, 3) := by decide +kernel
theorem dX3_best_82 : decode cX3_best 82 = .ok (.iload 5, 2) := by decide +kernel
theorem dX3_best_84 : decode cX3_best 84 = .ok (.istore_n 2, 1) := by decide +kernel
theorem dX3_best_85 : decode cX3_best 85 = .ok (.iload 7, 2) := by decide +kernel
theorem dX3_best_87 : decode cX3_best 87 = .ok (.istore_n 3, 1) := by decide +kernel
theorem dX3_best_88 : decode cX3_best 88 = .ok (.iload 6, 2) := by decide +kernel
theorem dX3_best_90 : decode cX3_best 90 = .ok (.istore 4, 2) := by decide +kernel
theorem dX3_best_92 : decode cX3_best 92 = .ok (.iinc 5 1, 3) := by decide +kernel
theorem dX3_best_95 : decode cX3_best 95 = .ok (.goto (-74), 3) := by decide +kernel
theorem dX3_best_98 : decode cX3_best 98 = .ok (.iload_n 1, 1) := by decide +kernel
theorem dX3_best_99 : decode cX3_best 99 = .ok (.ifCond .ne 7, 3) := by decide +kernel
theorem dX3_best_102 : decode cX3_best 102 = .ok (.iload_n 2, 1) := by decide +kernel
theorem dX3_best_103 : decode cX3_best 103 = .ok (.goto 4, 3) := by decide +kernel
theorem dX3_best_106 : decode cX3_best 106 = .ok (.iload_n 3, 1) := by decide +kernel
theorem dX3_best_107 : decode cX3_best 107 = .ok (.ireturn, 1) := by decide +kernel
theorem dX3_late_0 : decode cX3_late 0 = .ok (.iload_n 1, 1) := by decide +kernel
theorem dX3_late_1 : decode cX3_late 1 = .ok (.iconst 1, 1) := by decide +kernel
theorem dX3_late_2 : decode cX3_late 2 = .ok (.iconst 4, 1) := by decide +kernel
theorem dX3_late_3 : decode cX3_late 3 = .ok (.invokestatic 70, 3) := by decide +kernel
theorem dX3_late_6 : decode cX3_late 6 = .ok (.ifCond .ne 5, 3) := by decide +kernel
theorem dX3_late_9 : decode cX3_late 9 = .ok (.iconst (-1), 1) := by decide +kernel
theorem dX3_late_10 : decode cX3_late 10 = .ok (.ireturn, 1) := by decide +kernel
theorem dX3_late_11 : decode cX3_late 11 = .ok (.bipush (-4), 2) := by decide +kernel
theorem dX3_late_13 : decode cX3_late 13 = .ok (.istore_n 2, 1) := by decide +kernel
theorem dX3_late_14 : decode cX3_late 14 = .ok (.aload_n 0, 1) := by decide +kernel
theorem dX3_late_15 : decode cX3_late 15 = .ok (.getfield 30, 3) := by decide +kernel
theorem dX3_late_18 : decode cX3_late 18 = .ok (.aload_n 0, 1) := by decide +kernel
theorem dX3_late_19 : decode cX3_late 19 = .ok (.getfield 23, 3) := by decide +kernel
theorem dX3_late_22 : decode cX3_late 22 = .ok (.invokevirtual 84, 3) := by decide +kernel
theorem dX3_late_25 : decode cX3_late 25 = .ok (.iconst 0, 1) := by decide +kernel
theorem dX3_late_26 : decode cX3_late 26 = .ok (.istore_n 3, 1) := by decide +kernel
theorem dX3_late_27 : decode cX3_late 27 = .ok (.iload_n 3, 1) := by decide +kernel
theorem dX3_late_28 : decode cX3_late 28 = .ok (.bipush 72, 2) := by decide +kernel
theorem dX3_late_30 : decode cX3_late 30 = .ok (.if_icmp .gt 50, 3) := by decide +kernel
theorem dX3_late_33 : decode cX3_late 33 = .ok (.aload_n 0, 1) := by decide +kernel
theorem dX3_late_34 : decode cX3_late 34 = .ok (.getfield 27, 3) := by decide +kernel
theorem dX3_late_37 : decode cX3_late 37 = .ok (.aload_n 0, 1) := by decide +kernel
theorem dX3_late_38 : decode cX3_late 38 = .ok (.getfield 30, 3) := by decide +kernel
theorem dX3_late_41 : decode cX3_late 41 = .ok (.invokevirtual 84, 3) := by decide +kernel
theorem dX3_late_44 : decode cX3_late 44 = .ok (.aload_n 0, 1) := by decide +kernel
theorem dX3_late_45 : decode cX3_late 45 = .ok (.getfield 27, 3) := by decide +kernel
theorem dX3_late_48 : decode cX3_late 48 = .ok (.iconst 2, 1) := by decide +kernel
theorem dX3_late_49 : decode cX3_late 49 = .ok (.invokevirtual 186, 3) := by decide +kernel
theorem dX3_late_52 : decode cX3_late 52 = .ok (.pop, 1) := by decide +kernel
theorem dX3_late_53 : decode cX3_late 53 = .ok (.aload_n 0, 1) := by decide +kernel
theorem dX3_late_54 : decode cX3_late 54 = .ok (.getfield 27, 3) := by decide +kernel
theorem dX3_late_57 : decode cX3_late 57 = .ok (.invokevirtual 189, 3) := by decide +kernel
theorem dX3_late_60 : decode cX3_late 60 = .ok (.iload_n 1, 1) := by decide +kernel
theorem dX3_late_61 : decode cX3_late 61 = .ok (.if_icmp .lt 5, 3) := by decide +kernel
theorem dX3_late_64 : decode cX3_late 64 = .ok (.iload_n 3, 1) := by decide +kernel
theorem dX3_late_65 : decode cX3_late 65 = .ok (.istore_n 2, 1) := by decide +kernel
theorem dX3_late_66 : decode cX3_late 66 = .ok (.aload_n 0, 1) := by decide +kernel
theorem dX3_late_67 : decode cX3_late 67 = .ok (.getfield 30, 3) := by decide +kernel
theorem dX3_late_70 : decode cX3_late 70 = .ok (.iconst 0, 1) := by decide +kernel
theorem dX3_late_71 : decode cX3_late 71 = .ok (.invokevirtual 192, 3) := by decide +kernel
theorem dX3_late_74 : decode cX3_late 74 = .ok (.iinc 3 1, 3) := by decide +kernel
theorem dX3_late_77 : decode cX3_late 77 = .ok (.goto (-50), 3) := by decide +kernel
theorem dX3_late_80 : decode cX3_late 80 = .ok (.iload_n 2, 1) := by decide +kernel
theorem dX3_late_81 : decode cX3_late 81 = .ok (.ireturn, 1) := by decide +kernel
theorem dX3_least_0 : decode cX3_least 0 = .ok (.aload_n 0, 1) := by decide +kernel
theorem dX3_least_1 : decode cX3_least 1 = .ok (.getfield 23, 3) := by decide +kernel
theorem dX3_least_4 : decode cX3_least 4 = .ok (.invokevirtual 176, 3) := by decide +kernel
theorem dX3_least_7 : decode cX3_least 7 = .ok (.istore_n 1, 1) := by decide +kernel
theorem dX3_least_8 : decode cX3_least 8 = .ok (.iconst 0, 1) := by decide +kernel
theorem dX3_least_9 : decode cX3_least 9 = .ok (.istore_n 2, 1) := by decide +kernel
theorem dX3_least_10 : decode cX3_least 10 = .ok (.iload_n 2, 1) := by decide +kernel
theorem dX3_least_11 : decode cX3_least 11 = .ok (.bipush 60, 2) := by decide +kernel
theorem dX3_least_13 : decode cX3_least 13 = .ok (.if_icmp .gt 66, 3) := by decide +kernel
theorem dX3_least_16 : decode cX3_least 16 = .ok (.aload_n 0, 1) := by decide +kernel
theorem dX3_least_17 : decode cX3_least 17 = .ok (.getfield 27, 3) := by decide +kernel
theorem dX3_least_20 : decode cX3_least 20 = .ok (.aload_n 0, 1) := by decide +kernel
theorem dX3_least_21 : decode cX3_least 21 = .ok (.getfield 23, 3) := by decide +kernel
theorem dX3_least_24 : decode cX3_least 24 = .ok (.invokevirtual 84, 3) := by decide +kernel
theorem dX3_least_27 : decode cX3_least 27 = .ok (.aload_n 0, 1) := by decide +kernel
theorem dX3_least_28 : decode cX3_least 28 = .ok (.getfield 27, 3) := by decide +kernel
theorem dX3_least_31 : decode cX3_least 31 = .ok (.iload_n 2, 1) := by decide +kernel
theorem dX3_least_32 : decode cX3_least 32 = .ok (.putfield 106, 3) := by decide +kernel
theorem dX3_least_35 : decode cX3_least 35 = .ok (.aload_n 0, 1) := by decide +kernel
theorem dX3_least_36 : decode cX3_least 36 = .ok (.getfield 27, 3) := by decide +kernel
theorem dX3_least_39 : decode cX3_least 39 = .ok (.aload_n 0, 1) := by decide +kernel
theorem dX3_least_40 : decode cX3_least 40 = .ok (.getfield 23, 3) := by decide +kernel
theorem dX3_least_43 : decode cX3_least 43 = .ok (.getfield 109, 3) := by decide +kernel
theorem dX3_least_46 : decode cX3_least 46 = .ok (.invokevirtual 186, 3) := by decide +kernel
theorem dX3_least_49 : decode cX3_least 49 = .ok (.pop, 1) := by decide +kernel
theorem dX3_least_50 : decode cX3_least 50 = .ok (.aload_n 0, 1) := by decide +kernel
theorem dX3_least_51 : decode cX3_least 51 = .ok (.getfield 27, 3) := by decide +kernel
theorem dX3_least_54 : decode cX3_least 54 = .ok (.invokevirtual 196, 3) := by decide +kernel
theorem dX3_least_57 : decode cX3_least 57 = .ok (.ifCond .eq 16, 3) := by decide +kernel
theorem dX3_least_60 : decode cX3_least 60 = .ok (.aload_n 0, 1) := by decide +kernel
theorem dX3_least_61 : decode cX3_least 61 = .ok (.getfield 27, 3) := by decide +kernel
theorem dX3_least_64 : decode cX3_least 64 = .ok (.invokevirtual 176, 3) := by decide +kernel
theorem dX3_least_67 : decode cX3_least 67 = .ok (.iload_n 1, 1) := by decide +kernel
theorem dX3_least_68 : decode cX3_least 68 = .ok (.if_icmp .ne 5, 3) := by decide +kernel
theorem dX3_least_71 : decode cX3_least 71 = .ok (.iload_n 2, 1) := by decide +kernel
theorem dX3_least_72 : decode cX3_least 72 = .ok (.ireturn, 1) := by decide +kernel
theorem dX3_least_73 : decode cX3_least 73 = .ok (.iinc 2 1, 3) := by decide +kernel
theorem dX3_least_76 : decode cX3_least 76 = .ok (.goto (-66), 3) := by decide +kernel
theorem dX3_least_79 : decode cX3_least 79 = .ok (.bipush (-4), 2) := by decide +kernel
theorem dX3_least_81 : decode cX3_least 81 = .ok (.ireturn, 1) := by decide +kernel
theorem dX3_alike_0 : decode cX3_alike 0 = .ok (.iload_n 1, 1) := by decide +kernel
theorem dX3_alike_1 : decode cX3_alike 1 = .ok (.invokestatic 162, 3) := by decide +kernel
theorem dX3_alike_4 : decode cX3_alike 4 = .ok (.ifCond .ne 5, 3) := by decide +kernel
theorem dX3_alike_7 : decode cX3_alike 7 = .ok (.iconst (-1), 1) := by decide +kernel
theorem dX3_alike_8 : decode cX3_alike 8 = .ok (.ireturn, 1) := by decide +kernel
theorem dX3_alike_9 : decode cX3_alike 9 = .ok (.aload_n 0, 1) := by decide +kernel
theorem dX3_alike_10 : decode cX3_alike 10 = .ok (.getfield 27, 3) := by decide +kernel
theorem dX3_alike_13 : decode cX3_alike 13 = .ok (.aload_n 0, 1) := by decide +kernel
theorem dX3_alike_14 : decode cX3_alike 14 = .ok (.getfield 23, 3) := by decide +kernel
theorem dX3_alike_17 : decode cX3_alike 17 = .ok (.invokevirtual 84, 3) := by decide +kernel
theorem dX3_alike_20 : decode cX3_alike 20 = .ok (.iconst 0, 1) := by decide +kernel
theorem dX3_alike_21 : decode cX3_alike 21 = .ok (.istore_n 2, 1) := by decide +kernel
theorem dX3_alike_22 : decode cX3_alike 22 = .ok (.iload_n 2, 1) := by decide +kernel
theorem dX3_alike_23 : decode cX3_alike 23 = .ok (.aload_n 0, 1) := by decide +kernel
theorem dX3_alike_24 : decode cX3_alike 24 = .ok (.getfield 27, 3) := by decide +kernel
theorem dX3_alike_27 : decode cX3_alike 27 = .ok (.getfield 91, 3) := by decide +kernel
theorem dX3_alike_30 : decode cX3_alike 30 = .ok (.if_icmp .ge 19, 3) := by decide +kernel
theorem dX3_alike_33 : decode cX3_alike 33 = .ok (.aload_n 0, 1) := by decide +kernel
theorem dX3_alike_34 : decode cX3_alike 34 = .ok (.getfield 27, 3) := by decide +kernel
theorem dX3_alike_37 : decode cX3_alike 37 = .ok (.getfield 122, 3) := by decide +kernel
theorem dX3_alike_40 : decode cX3_alike 40 = .ok (.iload_n 2, 1) := by decide +kernel
theorem dX3_alike_41 : decode cX3_alike 41 = .ok (.iload_n 1, 1) := by decide +kernel
theorem dX3_alike_42 : decode cX3_alike 42 = .ok (.iastore, 1) := by decide +kernel
theorem dX3_alike_43 : decode cX3_alike 43 = .ok (.iinc 2 1, 3) := by decide +kernel
theorem dX3_alike_46 : decode cX3_alike 46 = .ok (.goto (-24), 3) := by decide +kernel
theorem dX3_alike_49 : decode cX3_alike 49 = .ok (.aload_n 0, 1) := by decide +kernel
theorem dX3_alike_50 : decode cX3_alike 50 = .ok (.getfield 27, 3) := by decide +kernel
theorem dX3_alike_53 : decode cX3_alike 53 = .ok (.aload_n 0, 1) := by decide +kernel
theorem dX3_alike_54 : decode cX3_alike 54 = .ok (.getfield 23, 3) := by decide +kernel
theorem dX3_alike_57 : decode cX3_alike 57 = .ok (.getfield 109, 3) := by decide +kernel
theorem dX3_alike_60 : decode cX3_alike 60 = .ok (.invokevirtual 186, 3) := by decide +kernel
theorem dX3_alike_63 : decode cX3_alike 63 = .ok (.pop, 1) := by decide +kernel
theorem dX3_alike_64 : decode cX3_alike 64 = .ok (.aload_n 0, 1) := by decide +kernel
theorem dX3_alike_65 : decode cX3_alike 65 = .ok (.getfield 27, 3) := by decide +kernel
theorem dX3_alike_68 : decode cX3_alike 68 = .ok (.invokevirtual 189, 3) := by decide +kernel
theorem dX3_alike_71 : decode cX3_alike 71 = .ok (.ireturn, 1) := by decide +kernel
theorem dX3_alone_0 : decode cX3_alone 0 = .ok (.aload_n 0, 1) := by decide +kernel
theorem dX3_alone_1 : decode cX3_alone 1 = .ok (.iload_n 1, 1) := by decide +kernel
theorem dX3_alone_2 : decode cX3_alone 2 = .ok (.invokevirtual 118, 3) := by decide +kernel
theorem dX3_alone_5 : decode cX3_alone 5 = .ok (.ifCond .eq 13, 3) := by decide +kernel
theorem dX3_alone_8 : decode cX3_alone 8 = .ok (.iload_n 2, 1) := by decide +kernel
theorem dX3_alone_9 : decode cX3_alone 9 = .ok (.iconst 0, 1) := by decide +kernel
theorem dX3_alone_10 : decode cX3_alone 10 = .ok (.bipush 20, 2) := by decide +kernel
theorem dX3_alone_12 : decode cX3_alone 12 = .ok (.invokestatic 70, 3) := by decide +kernel
theorem dX3_alone_15 : decode cX3_alone 15 = .ok (.ifCond .ne 5, 3) := by decide +kernel
theorem dX3_alone_18 : decode cX3_alone 18 = .ok (.iconst (-1), 1) := by decide +kernel
theorem dX3_alone_19 : decode cX3_alone 19 = .ok (.ireturn, 1) := by decide +kernel
theorem dX3_alone_20 : decode cX3_alone 20 = .ok (.aload_n 0, 1) := by decide +kernel
theorem dX3_alone_21 : decode cX3_alone 21 = .ok (.getfield 23, 3) := by decide +kernel
theorem dX3_alone_24 : decode cX3_alone 24 = .ok (.iload_n 1, 1) := by decide +kernel
theorem dX3_alone_25 : decode cX3_alone 25 = .ok (.invokevirtual 183, 3) := by decide +kernel
theorem dX3_alone_28 : decode cX3_alone 28 = .ok (.ifCond .eq 6, 3) := by decide +kernel
theorem dX3_alone_31 : decode cX3_alone 31 = .ok (.bipush (-2), 2) := by decide +kernel
theorem dX3_alone_33 : decode cX3_alone 33 = .ok (.ireturn, 1) := by decide +kernel
theorem dX3_alone_34 : decode cX3_alone 34 = .ok (.aload_n 0, 1) := by decide +kernel
theorem dX3_alone_35 : decode cX3_alone 35 = .ok (.getfield 27, 3) := by decide +kernel
theorem dX3_alone_38 : decode cX3_alone 38 = .ok (.aload_n 0, 1) := by decide +kernel
theorem dX3_alone_39 : decode cX3_alone 39 = .ok (.getfield 23, 3) := by decide +kernel
theorem dX3_alone_42 : decode cX3_alone 42 = .ok (.invokevirtual 84, 3) := by decide +kernel
theorem dX3_alone_45 : decode cX3_alone 45 = .ok (.aload_n 0, 1) := by decide +kernel
theorem dX3_alone_46 : decode cX3_alone 46 = .ok (.getfield 27, 3) := by decide +kernel
theorem dX3_alone_49 : decode cX3_alone 49 = .ok (.iload_n 1, 1) := by decide +kernel
theorem dX3_alone_50 : decode cX3_alone 50 = .ok (.invokevirtual 200, 3) := by decide +kernel
theorem dX3_alone_53 : decode cX3_alone 53 = .ok (.aload_n 0, 1) := by decide +kernel
theorem dX3_alone_54 : decode cX3_alone 54 = .ok (.getfield 27, 3) := by decide +kernel
theorem dX3_alone_57 : decode cX3_alone 57 = .ok (.iload_n 2, 1) := by decide +kernel
theorem dX3_alone_58 : decode cX3_alone 58 = .ok (.putfield 106, 3) := by decide +kernel
theorem dX3_alone_61 : decode cX3_alone 61 = .ok (.aload_n 0, 1) := by decide +kernel
theorem dX3_alone_62 : decode cX3_alone 62 = .ok (.getfield 27, 3) := by decide +kernel
theorem dX3_alone_65 : decode cX3_alone 65 = .ok (.aload_n 0, 1) := by decide +kernel
theorem dX3_alone_66 : decode cX3_alone 66 = .ok (.getfield 23, 3) := by decide +kernel
theorem dX3_alone_69 : decode cX3_alone 69 = .ok (.getfield 109, 3) := by decide +kernel
theorem dX3_alone_72 : decode cX3_alone 72 = .ok (.invokevirtual 186, 3) := by decide +kernel
theorem dX3_alone_75 : decode cX3_alone 75 = .ok (.istore_n 3, 1) := by decide +kernel
theorem dX3_alone_76 : decode cX3_alone 76 = .ok (.aload_n 0, 1) := by decide +kernel
theorem dX3_alone_77 : decode cX3_alone 77 = .ok (.getfield 27, 3) := by decide +kernel
theorem dX3_alone_80 : decode cX3_alone 80 = .ok (.invokevirtual 189, 3) := by decide +kernel
theorem dX3_alone_83 : decode cX3_alone 83 = .ok (.ifCond .le 7, 3) := by decide +kernel
theorem dX3_alone_86 : decode cX3_alone 86 = .ok (.iload_n 3, 1) := by decide +kernel
theorem dX3_alone_87 : decode cX3_alone 87 = .ok (.goto 5, 3) := by decide +kernel
theorem dX3_alone_90 : decode cX3_alone 90 = .ok (.bipush (-4), 2) := by decide +kernel
theorem dX3_alone_92 : decode cX3_alone 92 = .ok (.ireturn, 1) := by decide +kernel
theorem dX3_luck_0 : decode cX3_luck 0 = .ok (.iload_n 1, 1) := by decide +kernel
theorem dX3_luck_1 : decode cX3_luck 1 = .ok (.iconst 1, 1) := by decide +kernel
theorem dX3_luck_2 : decode cX3_luck 2 = .ok (.iconst 4, 1) := by decide +kernel
theorem dX3_luck_3 : decode cX3_luck 3 = .ok (.invokestatic 70, 3) := by decide +kernel
theorem dX3_luck_6 : decode cX3_luck 6 = .ok (.ifCond .eq 19, 3) := by decide +kernel
theorem dX3_luck_9 : decode cX3_luck 9 = .ok (.iload_n 2, 1) := by decide +kernel
theorem dX3_luck_10 : decode cX3_luck 10 = .ok (.invokestatic 169, 3) := by decide +kernel
theorem dX3_luck_13 : decode cX3_luck 13 = .ok (.ifCond .eq 12, 3) := by decide +kernel
theorem dX3_luck_16 : decode cX3_luck 16 = .ok (.iload_n 3, 1) := by decide +kernel
theorem dX3_luck_17 : decode cX3_luck 17 = .ok (.iconst 0, 1) := by decide +kernel
theorem dX3_luck_18 : decode cX3_luck 18 = .ok (.iconst 1, 1) := by decide +kernel
theorem dX3_luck_19 : decode cX3_luck 19 = .ok (.invokestatic 70, 3) := by decide +kernel
theorem dX3_luck_22 : decode cX3_luck 22 = .ok (.ifCond .ne 7, 3) := by decide +kernel
theorem dX3_luck_25 : decode cX3_luck 25 = .ok (.ldc2_w 203, 3) := by decide +kernel
theorem dX3_luck_28 : decode cX3_luck 28 = .ok (.lreturn, 1) := by decide +kernel
theorem dX3_luck_29 : decode cX3_luck 29 = .ok (.lconst 0, 1) := by decide +kernel
theorem dX3_luck_30 : decode cX3_luck 30 = .ok (.lstore 4, 2) := by decide +kernel
theorem dX3_luck_32 : decode cX3_luck 32 = .ok (.iconst 0, 1) := by decide +kernel
theorem dX3_luck_33 : decode cX3_luck 33 = .ok (.istore 6, 2) := by decide +kernel
theorem dX3_luck_35 : decode cX3_luck 35 = .ok (.iload 6, 2) := by decide +kernel
theorem dX3_luck_37 : decode cX3_luck 37 = .ok (.iconst 1, 1) := by decide +kernel
theorem dX3_luck_38 : decode cX3_luck 38 = .ok (.aload_n 0, 1) := by decide +kernel
theorem dX3_luck_39 : decode cX3_luck 39 = .ok (.getfield 23, 3) := by decide +kernel
theorem dX3_luck_42 : decode cX3_luck 42 = .ok (.getfield 94, 3) := by decide +kernel
theorem dX3_luck_45 : decode cX3_luck 45 = .ok (.ishl, 1) := by decide +kernel
theorem dX3_luck_46 : decode cX3_luck 46 = .ok (.if_icmp .ge 42, 3) := by decide +kernel
theorem dX3_luck_49 : decode cX3_luck 49 = .ok (.aload_n 0, 1) := by decide +kernel
theorem dX3_luck_50 : decode cX3_luck 50 = .ok (.iload 6, 2) := by decide +kernel
theorem dX3_luck_52 : decode cX3_luck 52 = .ok (.invokevirtual 205, 3) := by decide +kernel
theorem dX3_luck_55 : decode cX3_luck 55 = .ok (.lstore 7, 2) := by decide +kernel
theorem dX3_luck_57 : decode cX3_luck 57 = .ok (.lload 7, 2) := by decide +kernel
theorem dX3_luck_59 : decode cX3_luck 59 = .ok (.lconst 0, 1) := by decide +kernel
theorem dX3_luck_60 : decode cX3_luck 60 = .ok (.lcmp, 1) := by decide +kernel
theorem dX3_luck_61 : decode cX3_luck 61 = .ok (.ifCond .le 21, 3) := by decide +kernel
theorem dX3_luck_64 : decode cX3_luck 64 = .ok (.aload_n 0, 1) := by decide +kernel
theorem dX3_luck_65 : decode cX3_luck 65 = .ok (.iload 6, 2) := by decide +kernel
theorem dX3_luck_67 : decode cX3_luck 67 = .ok (.iload_n 2, 1) := by decide +kernel
theorem dX3_luck_68 : decode cX3_luck 68 = .ok (.invokevirtual 209, 3) := by decide +kernel
theorem dX3_luck_71 : decode cX3_luck 71 = .ok (.iload_n 1, 1) := by decide +kernel
theorem dX3_luck_72 : decode cX3_luck 72 = .ok (.if_icmp .lt 10, 3) := by decide +kernel
theorem dX3_luck_75 : decode cX3_luck 75 = .ok (.lload 4, 2) := by decide +kernel
theorem dX3_luck_77 : decode cX3_luck 77 = .ok (.lload 7, 2) := by decide +kernel
theorem dX3_luck_79 : decode cX3_luck 79 = .ok (.ladd, 1) := by decide +kernel
theorem dX3_luck_80 : decode cX3_luck 80 = .ok (.lstore 4, 2) := by decide +kernel
theorem dX3_luck_82 : decode cX3_luck 82 = .ok (.iinc 6 1, 3) := by decide +kernel
theorem dX3_luck_85 : decode cX3_luck 85 = .ok (.goto (-50), 3) := by decide +kernel
theorem dX3_luck_88 : decode cX3_luck 88 = .ok (.lload 4, 2) := by decide +kernel
theorem dX3_luck_90 : decode cX3_luck 90 = .ok (.bipush 10, 2) := by decide +kernel
theorem dX3_luck_92 : decode cX3_luck 92 = .ok (.aload_n 0, 1) := by decide +kernel
theorem dX3_luck_93 : decode cX3_luck 93 = .ok (.getfield 23, 3) := by decide +kernel
theorem dX3_luck_96 : decode cX3_luck 96 = .ok (.getfield 94, 3) := by decide +kernel
theorem dX3_luck_99 : decode cX3_luck 99 = .ok (.invokestatic 212, 3) := by decide +kernel
theorem dX3_luck_102 : decode cX3_luck 102 = .ok (.iload_n 3, 1) := by decide +kernel
theorem dX3_luck_103 : decode cX3_luck 103 = .ok (.invokestatic 216, 3) := by decide +kernel
theorem dX3_luck_106 : decode cX3_luck 106 = .ok (.lreturn, 1) := by decide +kernel
theorem dX3_mean_0 : decode cX3_mean 0 = .ok (.iload_n 1, 1) := by decide +kernel
theorem dX3_mean_1 : decode cX3_mean 1 = .ok (.invokestatic 169, 3) := by decide +kernel
theorem dX3_mean_4 : decode cX3_mean 4 = .ok (.ifCond .eq 12, 3) := by decide +kernel
theorem dX3_mean_7 : decode cX3_mean 7 = .ok (.iload_n 2, 1) := by decide +kernel
theorem dX3_mean_8 : decode cX3_mean 8 = .ok (.iconst 0, 1) := by decide +kernel
theorem dX3_mean_9 : decode cX3_mean 9 = .ok (.iconst 1, 1) := by decide +kernel
theorem dX3_mean_10 : decode cX3_mean 10 = .ok (.invokestatic 70, 3) := by decide +kernel
theorem dX3_mean_13 : decode cX3_mean 13 = .ok (.ifCond .ne 7, 3) := by decide +kernel
theorem dX3_mean_16 : decode cX3_mean 16 = .ok (.ldc2_w 203, 3) := by decide +kernel
theorem dX3_mean_19 : decode cX3_mean 19 = .ok (.lreturn, 1) := by decide +kernel
theorem dX3_mean_20 : decode cX3_mean 20 = .ok (.lconst 0, 1) := by decide +kernel
theorem dX3_mean_21 : decode cX3_mean 21 = .ok (.lstore_n 3, 1) := by decide +kernel
theorem dX3_mean_22 : decode cX3_mean 22 = .ok (.iconst 0, 1) := by decide +kernel
theorem dX3_mean_23 : decode cX3_mean 23 = .ok (.istore 5, 2) := by decide +kernel
theorem dX3_mean_25 : decode cX3_mean 25 = .ok (.iload 5, 2) := by decide +kernel
theorem dX3_mean_27 : decode cX3_mean 27 = .ok (.iconst 1, 1) := by decide +kernel
theorem dX3_mean_28 : decode cX3_mean 28 = .ok (.aload_n 0, 1) := by decide +kernel
theorem dX3_mean_29 : decode cX3_mean 29 = .ok (.getfield 23, 3) := by decide +kernel
theorem dX3_mean_32 : decode cX3_mean 32 = .ok (.getfield 94, 3) := by decide +kernel
theorem dX3_mean_35 : decode cX3_mean 35 = .ok (.ishl, 1) := by decide +kernel
theorem dX3_mean_36 : decode cX3_mean 36 = .ok (.if_icmp .ge 38, 3) := by decide +kernel
theorem dX3_mean_39 : decode cX3_mean 39 = .ok (.aload_n 0, 1) := by decide +kernel
theorem dX3_mean_40 : decode cX3_mean 40 = .ok (.iload 5, 2) := by decide +kernel
theorem dX3_mean_42 : decode cX3_mean 42 = .ok (.invokevirtual 205, 3) := by decide +kernel
theorem dX3_mean_45 : decode cX3_mean 45 = .ok (.lstore 6, 2) := by decide +kernel
theorem dX3_mean_47 : decode cX3_mean 47 = .ok (.lload 6, 2) := by decide +kernel
theorem dX3_mean_49 : decode cX3_mean 49 = .ok (.lconst 0, 1) := by decide +kernel
theorem dX3_mean_50 : decode cX3_mean 50 = .ok (.lcmp, 1) := by decide +kernel
theorem dX3_mean_51 : decode cX3_mean 51 = .ok (.ifCond .le 17, 3) := by decide +kernel
theorem dX3_mean_54 : decode cX3_mean 54 = .ok (.lload_n 3, 1) := by decide +kernel
theorem dX3_mean_55 : decode cX3_mean 55 = .ok (.lload 6, 2) := by decide +kernel
theorem dX3_mean_57 : decode cX3_mean 57 = .ok (.aload_n 0, 1) := by decide +kernel
theorem dX3_mean_58 : decode cX3_mean 58 = .ok (.iload 5, 2) := by decide +kernel
theorem dX3_mean_60 : decode cX3_mean 60 = .ok (.iload_n 1, 1) := by decide +kernel
theorem dX3_mean_61 : decode cX3_mean 61 = .ok (.invokevirtual 209, 3) := by decide +kernel
theorem dX3_mean_64 : decode cX3_mean 64 = .ok (.i2l, 1) := by decide +kernel
theorem dX3_mean_65 : decode cX3_mean 65 = .ok (.lmul, 1) := by decide +kernel
theorem dX3_mean_66 : decode cX3_mean 66 = .ok (.ladd, 1) := by decide +kernel
theorem dX3_mean_67 : decode cX3_mean 67 = .ok (.lstore_n 3, 1) := by decide +kernel
theorem dX3_mean_68 : decode cX3_mean 68 = .ok (.iinc 5 1, 3) := by decide +kernel
theorem dX3_mean_71 : decode cX3_mean 71 = .ok (.goto (-46), 3) := by decide +kernel
theorem dX3_mean_74 : decode cX3_mean 74 = .ok (.lload_n 3, 1) := by decide +kernel
theorem dX3_mean_75 : decode cX3_mean 75 = .ok (.bipush 10, 2) := by decide +kernel
theorem dX3_mean_77 : decode cX3_mean 77 = .ok (.aload_n 0, 1) := by decide +kernel
theorem dX3_mean_78 : decode cX3_mean 78 = .ok (.getfield 23, 3) := by decide +kernel
theorem dX3_mean_81 : decode cX3_mean 81 = .ok (.getfield 94, 3) := by decide +kernel
theorem dX3_mean_84 : decode cX3_mean 84 = .ok (.invokestatic 212, 3) := by decide +kernel
theorem dX3_mean_87 : decode cX3_mean 87 = .ok (.iload_n 2, 1) := by decide +kernel
theorem dX3_mean_88 : decode cX3_mean 88 = .ok (.invokestatic 216, 3) := by decide +kernel
theorem dX3_mean_91 : decode cX3_mean 91 = .ok (.lreturn, 1) := by decide +kernel
theorem dX3_stay_0 : decode cX3_stay 0 = .ok (.iload_n 1, 1) := by decide +kernel
theorem dX3_stay_1 : decode cX3_stay 1 = .ok (.iconst 0, 1) := by decide +kernel
theorem dX3_stay_2 : decode cX3_stay 2 = .ok (.bipush 96, 2) := by decide +kernel
theorem dX3_stay_4 : decode cX3_stay 4 = .ok (.invokestatic 70, 3) := by decide +kernel
theorem dX3_stay_7 : decode cX3_stay 7 = .ok (.ifCond .eq 12, 3) := by decide +kernel
theorem dX3_stay_10 : decode cX3_stay 10 = .ok (.iload_n 2, 1) := by decide +kernel
theorem dX3_stay_11 : decode cX3_stay 11 = .ok (.iconst 0, 1) := by decide +kernel
theorem dX3_stay_12 : decode cX3_stay 12 = .ok (.iconst 1, 1) := by decide +kernel
theorem dX3_stay_13 : decode cX3_stay 13 = .ok (.invokestatic 70, 3) := by decide +kernel
theorem dX3_stay_16 : decode cX3_stay 16 = .ok (.ifCond .ne 7, 3) := by decide +kernel
theorem dX3_stay_19 : decode cX3_stay 19 = .ok (.ldc2_w 203, 3) := by decide +kernel
theorem dX3_stay_22 : decode cX3_stay 22 = .ok (.lreturn, 1) := by decide +kernel
theorem dX3_stay_23 : decode cX3_stay 23 = .ok (.iconst 0, 1) := by decide +kernel
theorem dX3_stay_24 : decode cX3_stay 24 = .ok (.istore_n 3, 1) := by decide +kernel
theorem dX3_stay_25 : decode cX3_stay 25 = .ok (.aload_n 0, 1) := by decide +kernel
theorem dX3_stay_26 : decode cX3_stay 26 = .ok (.getfield 27, 3) := by decide +kernel
theorem dX3_stay_29 : decode cX3_stay 29 = .ok (.aload_n 0, 1) := by decide +kernel
theorem dX3_stay_30 : decode cX3_stay 30 = .ok (.getfield 23, 3) := by decide +kernel
theorem dX3_stay_33 : decode cX3_stay 33 = .ok (.invokevirtual 84, 3) := by decide +kernel
theorem dX3_stay_36 : decode cX3_stay 36 = .ok (.iconst 0, 1) := by decide +kernel
theorem dX3_stay_37 : decode cX3_stay 37 = .ok (.istore 4, 2) := by decide +kernel
theorem dX3_stay_39 : decode cX3_stay 39 = .ok (.iload 4, 2) := by decide +kernel
theorem dX3_stay_41 : decode cX3_stay 41 = .ok (.iload_n 1, 1) := by decide +kernel
theorem dX3_stay_42 : decode cX3_stay 42 = .ok (.if_icmp .ge 45, 3) := by decide +kernel
theorem dX3_stay_45 : decode cX3_stay 45 = .ok (.aload_n 0, 1) := by decide +kernel
theorem dX3_stay_46 : decode cX3_stay 46 = .ok (.getfield 27, 3) := by decide +kernel
theorem dX3_stay_49 : decode cX3_stay 49 = .ok (.getfield 103, 3) := by decide +kernel
theorem dX3_stay_52 : decode cX3_stay 52 = .ok (.bipush 24, 2) := by decide +kernel
theorem dX3_stay_54 : decode cX3_stay 54 = .ok (.irem, 1) := by decide +kernel
theorem dX3_stay_55 : decode cX3_stay 55 = .ok (.bipush 12, 2) := by decide +kernel
theorem dX3_stay_57 : decode cX3_stay 57 = .ok (.if_icmp .ne 16, 3) := by decide +kernel
theorem dX3_stay_60 : decode cX3_stay 60 = .ok (.aload_n 0, 1) := by decide +kernel
theorem dX3_stay_61 : decode cX3_stay 61 = .ok (.getfield 27, 3) := by decide +kernel
theorem dX3_stay_64 : decode cX3_stay 64 = .ok (.invokevirtual 176, 3) := by decide +kernel
theorem dX3_stay_67 : decode cX3_stay 67 = .ok (.ifCond .le 6, 3) := by decide +kernel
theorem dX3_stay_70 : decode cX3_stay 70 = .ok (.iinc 3 1, 3) := by decide +kernel
theorem dX3_stay_73 : decode cX3_stay 73 = .ok (.aload_n 0, 1) := by decide +kernel
theorem dX3_stay_74 : decode cX3_stay 74 = .ok (.getfield 27, 3) := by decide +kernel
theorem dX3_stay_77 : decode cX3_stay 77 = .ok (.iconst 0, 1) := by decide +kernel
theorem dX3_stay_78 : decode cX3_stay 78 = .ok (.invokevirtual 192, 3) := by decide +kernel
theorem dX3_stay_81 : decode cX3_stay 81 = .ok (.iinc 4 1, 3) := by decide +kernel
theorem dX3_stay_84 : decode cX3_stay 84 = .ok (.goto (-45), 3) := by decide +kernel
theorem dX3_stay_87 : decode cX3_stay 87 = .ok (.bipush 10, 2) := by decide +kernel
theorem dX3_stay_89 : decode cX3_stay 89 = .ok (.iload_n 3, 1) := by decide +kernel
theorem dX3_stay_90 : decode cX3_stay 90 = .ok (.invokestatic 212, 3) := by decide +kernel
theorem dX3_stay_93 : decode cX3_stay 93 = .ok (.lstore 4, 2) := by decide +kernel
theorem dX3_stay_95 : decode cX3_stay 95 = .ok (.lload 4, 2) := by decide +kernel
theorem dX3_stay_97 : decode cX3_stay 97 = .ok (.bipush 10, 2) := by decide +kernel
theorem dX3_stay_99 : decode cX3_stay 99 = .ok (.aload_n 0, 1) := by decide +kernel
theorem dX3_stay_100 : decode cX3_stay 100 = .ok (.getfield 23, 3) := by decide +kernel
theorem dX3_stay_103 : decode cX3_stay 103 = .ok (.getfield 115, 3) := by decide +kernel
theorem dX3_stay_106 : decode cX3_stay 106 = .ok (.isub, 1) := by decide +kernel
theorem dX3_stay_107 : decode cX3_stay 107 = .ok (.iload_n 3, 1) := by decide +kernel
theorem dX3_stay_108 : decode cX3_stay 108 = .ok (.invokestatic 212, 3) := by decide +kernel
theorem dX3_stay_111 : decode cX3_stay 111 = .ok (.lsub, 1) := by decide +kernel
theorem dX3_stay_112 : decode cX3_stay 112 = .ok (.lload 4, 2) := by decide +kernel
theorem dX3_stay_114 : decode cX3_stay 114 = .ok (.iload_n 2, 1) := by decide +kernel
theorem dX3_stay_115 : decode cX3_stay 115 = .ok (.invokestatic 216, 3) := by decide +kernel
theorem dX3_stay_118 : decode cX3_stay 118 = .ok (.lreturn, 1) := by decide +kernel
theorem dX3_see_0 : decode cX3_see 0 = .ok (.iload_n 1, 1) := by decide +kernel
theorem dX3_see_1 : decode cX3_see 1 = .ok (.iconst 1, 1) := by decide +kernel
theorem dX3_see_2 : decode cX3_see 2 = .ok (.bipush 24, 2) := by decide +kernel
theorem dX3_see_4 : decode cX3_see 4 = .ok (.invokestatic 70, 3) := by decide +kernel
theorem dX3_see_7 : decode cX3_see 7 = .ok (.ifCond .eq 13, 3) := by decide +kernel
theorem dX3_see_10 : decode cX3_see 10 = .ok (.iload_n 2, 1) := by decide +kernel
theorem dX3_see_11 : decode cX3_see 11 = .ok (.iconst 0, 1) := by decide +kernel
theorem dX3_see_12 : decode cX3_see 12 = .ok (.bipush 60, 2) := by decide +kernel
theorem dX3_see_14 : decode cX3_see 14 = .ok (.invokestatic 70, 3) := by decide +kernel
theorem dX3_see_17 : decode cX3_see 17 = .ok (.ifCond .ne 5, 3) := by decide +kernel
theorem dX3_see_20 : decode cX3_see 20 = .ok (.iconst (-1), 1) := by decide +kernel
theorem dX3_see_21 : decode cX3_see 21 = .ok (.ireturn, 1) := by decide +kernel
theorem dX3_see_22 : decode cX3_see 22 = .ok (.aload_n 0, 1) := by decide +kernel
theorem dX3_see_23 : decode cX3_see 23 = .ok (.getfield 57, 3) := by decide +kernel
theorem dX3_see_26 : decode cX3_see 26 = .ok (.bipush 6, 2) := by decide +kernel
theorem dX3_see_28 : decode cX3_see 28 = .ok (.if_icmp .lt 6, 3) := by decide +kernel
theorem dX3_see_31 : decode cX3_see 31 = .ok (.bipush (-3), 2) := by decide +kernel
theorem dX3_see_33 : decode cX3_see 33 = .ok (.ireturn, 1) := by decide +kernel
theorem dX3_see_34 : decode cX3_see 34 = .ok (.aload_n 0, 1) := by decide +kernel
theorem dX3_see_35 : decode cX3_see 35 = .ok (.getfield 50, 3) := by decide +kernel
theorem dX3_see_38 : decode cX3_see 38 = .ok (.aload_n 0, 1) := by decide +kernel
theorem dX3_see_39 : decode cX3_see 39 = .ok (.getfield 57, 3) := by decide +kernel
theorem dX3_see_42 : decode cX3_see 42 = .ok (.iload_n 1, 1) := by decide +kernel
theorem dX3_see_43 : decode cX3_see 43 = .ok (.iastore, 1) := by decide +kernel
theorem dX3_see_44 : decode cX3_see 44 = .ok (.aload_n 0, 1) := by decide +kernel
theorem dX3_see_45 : decode cX3_see 45 = .ok (.getfield 54, 3) := by decide +kernel
theorem dX3_see_48 : decode cX3_see 48 = .ok (.aload_n 0, 1) := by decide +kernel
theorem dX3_see_49 : decode cX3_see 49 = .ok (.getfield 57, 3) := by decide +kernel
theorem dX3_see_52 : decode cX3_see 52 = .ok (.iload_n 2, 1) := by decide +kernel
theorem dX3_see_53 : decode cX3_see 53 = .ok (.iastore, 1) := by decide +kernel
theorem dX3_see_54 : decode cX3_see 54 = .ok (.aload_n 0, 1) := by decide +kernel
theorem dX3_see_55 : decode cX3_see 55 = .ok (.dup, 1) := by decide +kernel
theorem dX3_see_56 : decode cX3_see 56 = .ok (.getfield 57, 3) := by decide +kernel
theorem dX3_see_59 : decode cX3_see 59 = .ok (.iconst 1, 1) := by decide +kernel
theorem dX3_see_60 : decode cX3_see 60 = .ok (.iadd, 1) := by decide +kernel
theorem dX3_see_61 : decode cX3_see 61 = .ok (.putfield 57, 3) := by decide +kernel
theorem dX3_see_64 : decode cX3_see 64 = .ok (.aload_n 0, 1) := by decide +kernel
theorem dX3_see_65 : decode cX3_see 65 = .ok (.getfield 57, 3) := by decide +kernel
theorem dX3_see_68 : decode cX3_see 68 = .ok (.ireturn, 1) := by decide +kernel
theorem dX3_forget_0 : decode cX3_forget 0 = .ok (.iload_n 1, 1) := by decide +kernel
theorem dX3_forget_1 : decode cX3_forget 1 = .ok (.iconst 0, 1) := by decide +kernel
theorem dX3_forget_2 : decode cX3_forget 2 = .ok (.aload_n 0, 1) := by decide +kernel
theorem dX3_forget_3 : decode cX3_forget 3 = .ok (.getfield 57, 3) := by decide +kernel
theorem dX3_forget_6 : decode cX3_forget 6 = .ok (.invokestatic 70, 3) := by decide +kernel
theorem dX3_forget_9 : decode cX3_forget 9 = .ok (.ifCond .ne 5, 3) := by decide +kernel
theorem dX3_forget_12 : decode cX3_forget 12 = .ok (.iconst (-1), 1) := by decide +kernel
theorem dX3_forget_13 : decode cX3_forget 13 = .ok (.ireturn, 1) := by decide +kernel
theorem dX3_forget_14 : decode cX3_forget 14 = .ok (.aload_n 0, 1) := by decide +kernel
theorem dX3_forget_15 : decode cX3_forget 15 = .ok (.getfield 57, 3) := by decide +kernel
theorem dX3_forget_18 : decode cX3_forget 18 = .ok (.istore_n 2, 1) := by decide +kernel
theorem dX3_forget_19 : decode cX3_forget 19 = .ok (.aload_n 0, 1) := by decide +kernel
theorem dX3_forget_20 : decode cX3_forget 20 = .ok (.iload_n 1, 1) := by decide +kernel
theorem dX3_forget_21 : decode cX3_forget 21 = .ok (.putfield 57, 3) := by decide +kernel
theorem dX3_forget_24 : decode cX3_forget 24 = .ok (.iload_n 2, 1) := by decide +kernel
theorem dX3_forget_25 : decode cX3_forget 25 = .ok (.ireturn, 1) := by decide +kernel
theorem dX3_fits_0 : decode cX3_fits 0 = .ok (.iload_n 1, 1) := by decide +kernel
theorem dX3_fits_1 : decode cX3_fits 1 = .ok (.iconst 0, 1) := by decide +kernel
theorem dX3_fits_2 : decode cX3_fits 2 = .ok (.iconst 1, 1) := by decide +kernel
theorem dX3_fits_3 : decode cX3_fits 3 = .ok (.invokestatic 70, 3) := by decide +kernel
theorem dX3_fits_6 : decode cX3_fits 6 = .ok (.ifCond .ne 5, 3) := by decide +kernel
theorem dX3_fits_9 : decode cX3_fits 9 = .ok (.iconst (-1), 1) := by decide +kernel
theorem dX3_fits_10 : decode cX3_fits 10 = .ok (.ireturn, 1) := by decide +kernel
theorem dX3_fits_11 : decode cX3_fits 11 = .ok (.iconst 0, 1) := by decide +kernel
theorem dX3_fits_12 : decode cX3_fits 12 = .ok (.istore_n 2, 1) := by decide +kernel
theorem dX3_fits_13 : decode cX3_fits 13 = .ok (.iconst 5, 1) := by decide +kernel
theorem dX3_fits_14 : decode cX3_fits 14 = .ok (.aload_n 0, 1) := by decide +kernel
theorem dX3_fits_15 : decode cX3_fits 15 = .ok (.getfield 23, 3) := by decide +kernel
theorem dX3_fits_18 : decode cX3_fits 18 = .ok (.getfield 91, 3) := by decide +kernel
theorem dX3_fits_21 : decode cX3_fits 21 = .ok (.invokestatic 212, 3) := by decide +kernel
theorem dX3_fits_24 : decode cX3_fits 24 = .ok (.lstore_n 3, 1) := by decide +kernel
theorem dX3_fits_25 : decode cX3_fits 25 = .ok (.iconst 0, 1) := by decide +kernel
theorem dX3_fits_26 : decode cX3_fits 26 = .ok (.istore 5, 2) := by decide +kernel
theorem dX3_fits_28 : decode cX3_fits 28 = .ok (.iload 5, 2) := by decide +kernel
theorem dX3_fits_30 : decode cX3_fits 30 = .ok (.i2l, 1) := by decide +kernel
theorem dX3_fits_31 : decode cX3_fits 31 = .ok (.lload_n 3, 1) := by decide +kernel
theorem dX3_fits_32 : decode cX3_fits 32 = .ok (.lcmp, 1) := by decide +kernel
theorem dX3_fits_33 : decode cX3_fits 33 = .ok (.ifCond .ge 29, 3) := by decide +kernel
theorem dX3_fits_36 : decode cX3_fits 36 = .ok (.aload_n 0, 1) := by decide +kernel
theorem dX3_fits_37 : decode cX3_fits 37 = .ok (.iload 5, 2) := by decide +kernel
theorem dX3_fits_39 : decode cX3_fits 39 = .ok (.invokevirtual 220, 3) := by decide +kernel
theorem dX3_fits_42 : decode cX3_fits 42 = .ok (.ifCond .eq 14, 3) := by decide +kernel
theorem dX3_fits_45 : decode cX3_fits 45 = .ok (.iload_n 1, 1) := by decide +kernel
theorem dX3_fits_46 : decode cX3_fits 46 = .ok (.iconst 1, 1) := by decide +kernel
theorem dX3_fits_47 : decode cX3_fits 47 = .ok (.if_icmp .ne 6, 3) := by decide +kernel
theorem dX3_fits_50 : decode cX3_fits 50 = .ok (.iload 5, 2) := by decide +kernel
theorem dX3_fits_52 : decode cX3_fits 52 = .ok (.ireturn, 1) := by decide +kernel
theorem dX3_fits_53 : decode cX3_fits 53 = .ok (.iinc 2 1, 3) := by decide +kernel
theorem dX3_fits_56 : decode cX3_fits 56 = .ok (.iinc 5 1, 3) := by decide +kernel
theorem dX3_fits_59 : decode cX3_fits 59 = .ok (.goto (-31), 3) := by decide +kernel
theorem dX3_fits_62 : decode cX3_fits 62 = .ok (.iload_n 1, 1) := by decide +kernel
theorem dX3_fits_63 : decode cX3_fits 63 = .ok (.ifCond .ne 7, 3) := by decide +kernel
theorem dX3_fits_66 : decode cX3_fits 66 = .ok (.iload_n 2, 1) := by decide +kernel
theorem dX3_fits_67 : decode cX3_fits 67 = .ok (.goto 5, 3) := by decide +kernel
theorem dX3_fits_70 : decode cX3_fits 70 = .ok (.bipush (-4), 2) := by decide +kernel
theorem dX3_fits_72 : decode cX3_fits 72 = .ok (.ireturn, 1) := by decide +kernel
theorem dX3_kinds_0 : decode cX3_kinds 0 = .ok (.aload_n 0, 1) := by decide +kernel
theorem dX3_kinds_1 : decode cX3_kinds 1 = .ok (.iload_n 1, 1) := by decide +kernel
theorem dX3_kinds_2 : decode cX3_kinds 2 = .ok (.invokevirtual 118, 3) := by decide +kernel
theorem dX3_kinds_5 : decode cX3_kinds 5 = .ok (.ifCond .ne 5, 3) := by decide +kernel
theorem dX3_kinds_8 : decode cX3_kinds 8 = .ok (.iconst (-1), 1) := by decide +kernel
theorem dX3_kinds_9 : decode cX3_kinds 9 = .ok (.ireturn, 1) := by decide +kernel
theorem dX3_kinds_10 : decode cX3_kinds 10 = .ok (.iconst 0, 1) := by decide +kernel
theorem dX3_kinds_11 : decode cX3_kinds 11 = .ok (.istore_n 2, 1) := by decide +kernel
theorem dX3_kinds_12 : decode cX3_kinds 12 = .ok (.iconst 5, 1) := by decide +kernel
theorem dX3_kinds_13 : decode cX3_kinds 13 = .ok (.aload_n 0, 1) := by decide +kernel
theorem dX3_kinds_14 : decode cX3_kinds 14 = .ok (.getfield 23, 3) := by decide +kernel
theorem dX3_kinds_17 : decode cX3_kinds 17 = .ok (.getfield 91, 3) := by decide +kernel
theorem dX3_kinds_20 : decode cX3_kinds 20 = .ok (.invokestatic 212, 3) := by decide +kernel
theorem dX3_kinds_23 : decode cX3_kinds 23 = .ok (.lstore_n 3, 1) := by decide +kernel
theorem dX3_kinds_24 : decode cX3_kinds 24 = .ok (.iconst 0, 1) := by decide +kernel
theorem dX3_kinds_25 : decode cX3_kinds 25 = .ok (.istore 5, 2) := by decide +kernel
theorem dX3_kinds_27 : decode cX3_kinds 27 = .ok (.iload 5, 2) := by decide +kernel
theorem dX3_kinds_29 : decode cX3_kinds 29 = .ok (.i2l, 1) := by decide +kernel
theorem dX3_kinds_30 : decode cX3_kinds 30 = .ok (.lload_n 3, 1) := by decide +kernel
theorem dX3_kinds_31 : decode cX3_kinds 31 = .ok (.lcmp, 1) := by decide +kernel
theorem dX3_kinds_32 : decode cX3_kinds 32 = .ok (.ifCond .ge 32, 3) := by decide +kernel
theorem dX3_kinds_35 : decode cX3_kinds 35 = .ok (.aload_n 0, 1) := by decide +kernel
theorem dX3_kinds_36 : decode cX3_kinds 36 = .ok (.iload 5, 2) := by decide +kernel
theorem dX3_kinds_38 : decode cX3_kinds 38 = .ok (.invokevirtual 220, 3) := by decide +kernel
theorem dX3_kinds_41 : decode cX3_kinds 41 = .ok (.ifCond .eq 17, 3) := by decide +kernel
theorem dX3_kinds_44 : decode cX3_kinds 44 = .ok (.iload_n 2, 1) := by decide +kernel
theorem dX3_kinds_45 : decode cX3_kinds 45 = .ok (.iconst 1, 1) := by decide +kernel
theorem dX3_kinds_46 : decode cX3_kinds 46 = .ok (.aload_n 0, 1) := by decide +kernel
theorem dX3_kinds_47 : decode cX3_kinds 47 = .ok (.getfield 27, 3) := by decide +kernel
theorem dX3_kinds_50 : decode cX3_kinds 50 = .ok (.getfield 122, 3) := by decide +kernel
theorem dX3_kinds_53 : decode cX3_kinds 53 = .ok (.iload_n 1, 1) := by decide +kernel
theorem dX3_kinds_54 : decode cX3_kinds 54 = .ok (.iaload, 1) := by decide +kernel
theorem dX3_kinds_55 : decode cX3_kinds 55 = .ok (.ishl, 1) := by decide +kernel
theorem dX3_kinds_56 : decode cX3_kinds 56 = .ok (.ior, 1) := by decide +kernel
theorem dX3_kinds_57 : decode cX3_kinds 57 = .ok (.istore_n 2, 1) := by decide +kernel
theorem dX3_kinds_58 : decode cX3_kinds 58 = .ok (.iinc 5 1, 3) := by decide +kernel
theorem dX3_kinds_61 : decode cX3_kinds 61 = .ok (.goto (-34), 3) := by decide +kernel
theorem dX3_kinds_64 : decode cX3_kinds 64 = .ok (.iload_n 2, 1) := by decide +kernel
theorem dX3_kinds_65 : decode cX3_kinds 65 = .ok (.ireturn, 1) := by decide +kernel
theorem dX3_drift_0 : decode cX3_drift 0 = .ok (.iload_n 2, 1) := by decide +kernel
theorem dX3_drift_1 : decode cX3_drift 1 = .ok (.iconst 1, 1) := by decide +kernel
theorem dX3_drift_2 : decode cX3_drift 2 = .ok (.bipush 60, 2) := by decide +kernel
theorem dX3_drift_4 : decode cX3_drift 4 = .ok (.invokestatic 70, 3) := by decide +kernel
theorem dX3_drift_7 : decode cX3_drift 7 = .ok (.ifCond .eq 12, 3) := by decide +kernel
theorem dX3_drift_10 : decode cX3_drift 10 = .ok (.iload_n 3, 1) := by decide +kernel
theorem dX3_drift_11 : decode cX3_drift 11 = .ok (.iconst 0, 1) := by decide +kernel
theorem dX3_drift_12 : decode cX3_drift 12 = .ok (.iconst 2, 1) := by decide +kernel
theorem dX3_drift_13 : decode cX3_drift 13 = .ok (.invokestatic 70, 3) := by decide +kernel
theorem dX3_drift_16 : decode cX3_drift 16 = .ok (.ifCond .ne 5, 3) := by decide +kernel
theorem dX3_drift_19 : decode cX3_drift 19 = .ok (.iconst (-1), 1) := by decide +kernel
theorem dX3_drift_20 : decode cX3_drift 20 = .ok (.ireturn, 1) := by decide +kernel
theorem dX3_drift_21 : decode cX3_drift 21 = .ok (.aload_n 0, 1) := by decide +kernel
theorem dX3_drift_22 : decode cX3_drift 22 = .ok (.getfield 27, 3) := by decide +kernel
theorem dX3_drift_25 : decode cX3_drift 25 = .ok (.aload_n 0, 1) := by decide +kernel
theorem dX3_drift_26 : decode cX3_drift 26 = .ok (.getfield 23, 3) := by decide +kernel
theorem dX3_drift_29 : decode cX3_drift 29 = .ok (.invokevirtual 84, 3) := by decide +kernel
theorem dX3_drift_32 : decode cX3_drift 32 = .ok (.iload_n 1, 1) := by decide +kernel
theorem dX3_drift_33 : decode cX3_drift 33 = .ok (.istore 4, 2) := by decide +kernel
theorem dX3_drift_35 : decode cX3_drift 35 = .ok (.iconst 0, 1) := by decide +kernel
theorem dX3_drift_36 : decode cX3_drift 36 = .ok (.istore 5, 2) := by decide +kernel
theorem dX3_drift_38 : decode cX3_drift 38 = .ok (.iload 5, 2) := by decide +kernel
theorem dX3_drift_40 : decode cX3_drift 40 = .ok (.iload_n 2, 1) := by decide +kernel
theorem dX3_drift_41 : decode cX3_drift 41 = .ok (.if_icmp .ge 46, 3) := by decide +kernel
theorem dX3_drift_44 : decode cX3_drift 44 = .ok (.iload 4, 2) := by decide +kernel
theorem dX3_drift_46 : decode cX3_drift 46 = .ok (.ldc 223, 2) := by decide +kernel
theorem dX3_drift_48 : decode cX3_drift 48 = .ok (.imul, 1) := by decide +kernel
theorem dX3_drift_49 : decode cX3_drift 49 = .ok (.sipush 12345, 3) := by decide +kernel
theorem dX3_drift_52 : decode cX3_drift 52 = .ok (.iadd, 1) := by decide +kernel
theorem dX3_drift_53 : decode cX3_drift 53 = .ok (.istore 4, 2) := by decide +kernel
theorem dX3_drift_55 : decode cX3_drift 55 = .ok (.aload_n 0, 1) := by decide +kernel
theorem dX3_drift_56 : decode cX3_drift 56 = .ok (.getfield 27, 3) := by decide +kernel
theorem dX3_drift_59 : decode cX3_drift 59 = .ok (.iload 4, 2) := by decide +kernel
theorem dX3_drift_61 : decode cX3_drift 61 = .ok (.bipush 16, 2) := by decide +kernel
theorem dX3_drift_63 : decode cX3_drift 63 = .ok (.iushr, 1) := by decide +kernel
theorem dX3_drift_64 : decode cX3_drift 64 = .ok (.sipush 32767, 3) := by decide +kernel
theorem dX3_drift_67 : decode cX3_drift 67 = .ok (.iand, 1) := by decide +kernel
theorem dX3_drift_68 : decode cX3_drift 68 = .ok (.iconst 3, 1) := by decide +kernel
theorem dX3_drift_69 : decode cX3_drift 69 = .ok (.irem, 1) := by decide +kernel
theorem dX3_drift_70 : decode cX3_drift 70 = .ok (.ifCond .eq 7, 3) := by decide +kernel
theorem dX3_drift_73 : decode cX3_drift 73 = .ok (.iconst 1, 1) := by decide +kernel
theorem dX3_drift_74 : decode cX3_drift 74 = .ok (.goto 4, 3) := by decide +kernel
theorem dX3_drift_77 : decode cX3_drift 77 = .ok (.iconst 0, 1) := by decide +kernel
theorem dX3_drift_78 : decode cX3_drift 78 = .ok (.invokevirtual 192, 3) := by decide +kernel
theorem dX3_drift_81 : decode cX3_drift 81 = .ok (.iinc 5 1, 3) := by decide +kernel
theorem dX3_drift_84 : decode cX3_drift 84 = .ok (.goto (-46), 3) := by decide +kernel
theorem dX3_drift_87 : decode cX3_drift 87 = .ok (.aload_n 0, 1) := by decide +kernel
theorem dX3_drift_88 : decode cX3_drift 88 = .ok (.getfield 27, 3) := by decide +kernel
theorem dX3_drift_91 : decode cX3_drift 91 = .ok (.iload_n 3, 1) := by decide +kernel
theorem dX3_drift_92 : decode cX3_drift 92 = .ok (.invokestatic 179, 3) := by decide +kernel
theorem dX3_drift_95 : decode cX3_drift 95 = .ok (.ireturn, 1) := by decide +kernel
theorem dX3_keep_0 : decode cX3_keep 0 = .ok (.iload_n 1, 1) := by decide +kernel
theorem dX3_keep_1 : decode cX3_keep 1 = .ok (.invokestatic 224, 3) := by decide +kernel
theorem dX3_keep_4 : decode cX3_keep 4 = .ok (.ifCond .ne 5, 3) := by decide +kernel
theorem dX3_keep_7 : decode cX3_keep 7 = .ok (.iconst (-1), 1) := by decide +kernel
theorem dX3_keep_8 : decode cX3_keep 8 = .ok (.ireturn, 1) := by decide +kernel
theorem dX3_keep_9 : decode cX3_keep 9 = .ok (.aload_n 0, 1) := by decide +kernel
theorem dX3_keep_10 : decode cX3_keep 10 = .ok (.getfield 46, 3) := by decide +kernel
theorem dX3_keep_13 : decode cX3_keep 13 = .ok (.iload_n 1, 1) := by decide +kernel
theorem dX3_keep_14 : decode cX3_keep 14 = .ok (.baload, 1) := by decide +kernel
theorem dX3_keep_15 : decode cX3_keep 15 = .ok (.istore_n 2, 1) := by decide +kernel
theorem dX3_keep_16 : decode cX3_keep 16 = .ok (.aload_n 0, 1) := by decide +kernel
theorem dX3_keep_17 : decode cX3_keep 17 = .ok (.getfield 42, 3) := by decide +kernel
theorem dX3_keep_20 : decode cX3_keep 20 = .ok (.iload_n 1, 1) := by decide +kernel
theorem dX3_keep_21 : decode cX3_keep 21 = .ok (.aaload, 1) := by decide +kernel
theorem dX3_keep_22 : decode cX3_keep 22 = .ok (.aload_n 0, 1) := by decide +kernel
theorem dX3_keep_23 : decode cX3_keep 23 = .ok (.getfield 23, 3) := by decide +kernel
theorem dX3_keep_26 : decode cX3_keep 26 = .ok (.invokevirtual 84, 3) := by decide +kernel
theorem dX3_keep_29 : decode cX3_keep 29 = .ok (.aload_n 0, 1) := by decide +kernel
theorem dX3_keep_30 : decode cX3_keep 30 = .ok (.getfield 46, 3) := by decide +kernel
theorem dX3_keep_33 : decode cX3_keep 33 = .ok (.iload_n 1, 1) := by decide +kernel
theorem dX3_keep_34 : decode cX3_keep 34 = .ok (.iconst 1, 1) := by decide +kernel
theorem dX3_keep_35 : decode cX3_keep 35 = .ok (.bastore, 1) := by decide +kernel
theorem dX3_keep_36 : decode cX3_keep 36 = .ok (.iload_n 2, 1) := by decide +kernel
theorem dX3_keep_37 : decode cX3_keep 37 = .ok (.invokestatic 150, 3) := by decide +kernel
theorem dX3_keep_40 : decode cX3_keep 40 = .ok (.ireturn, 1) := by decide +kernel
theorem dX3_back_0 : decode cX3_back 0 = .ok (.iload_n 1, 1) := by decide +kernel
theorem dX3_back_1 : decode cX3_back 1 = .ok (.invokestatic 224, 3) := by decide +kernel
theorem dX3_back_4 : decode cX3_back 4 = .ok (.ifCond .ne 5, 3) := by decide +kernel
theorem dX3_back_7 : decode cX3_back 7 = .ok (.iconst (-1), 1) := by decide +kernel
theorem dX3_back_8 : decode cX3_back 8 = .ok (.ireturn, 1) := by decide +kernel
theorem dX3_back_9 : decode cX3_back 9 = .ok (.aload_n 0, 1) := by decide +kernel
theorem dX3_back_10 : decode cX3_back 10 = .ok (.getfield 46, 3) := by decide +kernel
theorem dX3_back_13 : decode cX3_back 13 = .ok (.iload_n 1, 1) := by decide +kernel
theorem dX3_back_14 : decode cX3_back 14 = .ok (.baload, 1) := by decide +kernel
theorem dX3_back_15 : decode cX3_back 15 = .ok (.ifCond .ne 6, 3) := by decide +kernel
theorem dX3_back_18 : decode cX3_back 18 = .ok (.bipush (-2), 2) := by decide +kernel
theorem dX3_back_20 : decode cX3_back 20 = .ok (.ireturn, 1) := by decide +kernel
theorem dX3_back_21 : decode cX3_back 21 = .ok (.aload_n 0, 1) := by decide +kernel
theorem dX3_back_22 : decode cX3_back 22 = .ok (.getfield 23, 3) := by decide +kernel
theorem dX3_back_25 : decode cX3_back 25 = .ok (.aload_n 0, 1) := by decide +kernel
theorem dX3_back_26 : decode cX3_back 26 = .ok (.getfield 42, 3) := by decide +kernel
theorem dX3_back_29 : decode cX3_back 29 = .ok (.iload_n 1, 1) := by decide +kernel
theorem dX3_back_30 : decode cX3_back 30 = .ok (.aaload, 1) := by decide +kernel
theorem dX3_back_31 : decode cX3_back 31 = .ok (.invokevirtual 84, 3) := by decide +kernel
theorem dX3_back_34 : decode cX3_back 34 = .ok (.aload_n 0, 1) := by decide +kernel
theorem dX3_back_35 : decode cX3_back 35 = .ok (.getfield 23, 3) := by decide +kernel
theorem dX3_back_38 : decode cX3_back 38 = .ok (.getfield 103, 3) := by decide +kernel
theorem dX3_back_41 : decode cX3_back 41 = .ok (.ireturn, 1) := by decide +kernel
theorem dX3_sheet_0 : decode cX3_sheet 0 = .ok (.iload_n 1, 1) := by decide +kernel
theorem dX3_sheet_1 : decode cX3_sheet 1 = .ok (.invokestatic 227, 3) := by decide +kernel
theorem dX3_sheet_4 : decode cX3_sheet 4 = .ok (.ifCond .eq 16, 3) := by decide +kernel
theorem dX3_sheet_7 : decode cX3_sheet 7 = .ok (.iload_n 2, 1) := by decide +kernel
theorem dX3_sheet_8 : decode cX3_sheet 8 = .ok (.invokestatic 230, 3) := by decide +kernel
theorem dX3_sheet_11 : decode cX3_sheet 11 = .ok (.ifCond .eq 9, 3) := by decide +kernel
theorem dX3_sheet_14 : decode cX3_sheet 14 = .ok (.iload_n 3, 1) := by decide +kernel
theorem dX3_sheet_15 : decode cX3_sheet 15 = .ok (.bipush 40, 2) := by decide +kernel
theorem dX3_sheet_17 : decode cX3_sheet 17 = .ok (.if_icmp .le 5, 3) := by decide +kernel
theorem dX3_sheet_20 : decode cX3_sheet 20 = .ok (.iconst (-1), 1) := by decide +kernel
theorem dX3_sheet_21 : decode cX3_sheet 21 = .ok (.ireturn, 1) := by decide +kernel
theorem dX3_sheet_22 : decode cX3_sheet 22 = .ok (.iload_n 3, 1) := by decide +kernel
theorem dX3_sheet_23 : decode cX3_sheet 23 = .ok (.ifCond .ge 6, 3) := by decide +kernel
theorem dX3_sheet_26 : decode cX3_sheet 26 = .ok (.bipush (-14), 2) := by decide +kernel
theorem dX3_sheet_28 : decode cX3_sheet 28 = .ok (.ireturn, 1) := by decide +kernel
theorem dX3_sheet_29 : decode cX3_sheet 29 = .ok (.aload_n 0, 1) := by decide +kernel
theorem dX3_sheet_30 : decode cX3_sheet 30 = .ok (.getfield 63, 3) := by decide +kernel
theorem dX3_sheet_33 : decode cX3_sheet 33 = .ok (.iload_n 1, 1) := by decide +kernel
theorem dX3_sheet_34 : decode cX3_sheet 34 = .ok (.aaload, 1) := by decide +kernel
theorem dX3_sheet_35 : decode cX3_sheet 35 = .ok (.iload_n 2, 1) := by decide +kernel
theorem dX3_sheet_36 : decode cX3_sheet 36 = .ok (.iload_n 3, 1) := by decide +kernel
theorem dX3_sheet_37 : decode cX3_sheet 37 = .ok (.invokevirtual 233, 3) := by decide +kernel
theorem dX3_sheet_40 : decode cX3_sheet 40 = .ok (.iconst 1, 1) := by decide +kernel
theorem dX3_sheet_41 : decode cX3_sheet 41 = .ok (.ireturn, 1) := by decide +kernel
theorem dX3_put_0 : decode cX3_put 0 = .ok (.iload_n 1, 1) := by decide +kernel
theorem dX3_put_1 : decode cX3_put 1 = .ok (.invokestatic 227, 3) := by decide +kernel
theorem dX3_put_4 : decode cX3_put 4 = .ok (.ifCond .ne 5, 3) := by decide +kernel
theorem dX3_put_7 : decode cX3_put 7 = .ok (.iconst (-1), 1) := by decide +kernel
theorem dX3_put_8 : decode cX3_put 8 = .ok (.ireturn, 1) := by decide +kernel
theorem dX3_put_9 : decode cX3_put 9 = .ok (.aload_n 0, 1) := by decide +kernel
theorem dX3_put_10 : decode cX3_put 10 = .ok (.getfield 63, 3) := by decide +kernel
theorem dX3_put_13 : decode cX3_put 13 = .ok (.iload_n 1, 1) := by decide +kernel
theorem dX3_put_14 : decode cX3_put 14 = .ok (.aaload, 1) := by decide +kernel
theorem dX3_put_15 : decode cX3_put 15 = .ok (.iload_n 2, 1) := by decide +kernel
theorem dX3_put_16 : decode cX3_put 16 = .ok (.invokevirtual 236, 3) := by decide +kernel
theorem dX3_put_19 : decode cX3_put 19 = .ok (.istore 4, 2) := by decide +kernel
theorem dX3_put_21 : decode cX3_put 21 = .ok (.iload 4, 2) := by decide +kernel
theorem dX3_put_23 : decode cX3_put 23 = .ok (.ifCond .eq 9, 3) := by decide +kernel
theorem dX3_put_26 : decode cX3_put 26 = .ok (.bipush (-10), 2) := by decide +kernel
theorem dX3_put_28 : decode cX3_put 28 = .ok (.iload 4, 2) := by decide +kernel
theorem dX3_put_30 : decode cX3_put 30 = .ok (.isub, 1) := by decide +kernel
theorem dX3_put_31 : decode cX3_put 31 = .ok (.ireturn, 1) := by decide +kernel
theorem dX3_put_32 : decode cX3_put 32 = .ok (.aload_n 0, 1) := by decide +kernel
theorem dX3_put_33 : decode cX3_put 33 = .ok (.getfield 63, 3) := by decide +kernel
theorem dX3_put_36 : decode cX3_put 36 = .ok (.iload_n 1, 1) := by decide +kernel
theorem dX3_put_37 : decode cX3_put 37 = .ok (.aaload, 1) := by decide +kernel
theorem dX3_put_38 : decode cX3_put 38 = .ok (.iload_n 2, 1) := by decide +kernel
theorem dX3_put_39 : decode cX3_put 39 = .ok (.iload_n 3, 1) := by decide +kernel
theorem dX3_put_40 : decode cX3_put 40 = .ok (.invokevirtual 239, 3) := by decide +kernel
theorem dX3_put_43 : decode cX3_put 43 = .ok (.iconst 1, 1) := by decide +kernel
theorem dX3_put_44 : decode cX3_put 44 = .ok (.ireturn, 1) := by decide +kernel
theorem dX3_read_0 : decode cX3_read 0 = .ok (.iload_n 1, 1) := by decide +kernel
theorem dX3_read_1 : decode cX3_read 1 = .ok (.invokestatic 227, 3) := by decide +kernel
theorem dX3_read_4 : decode cX3_read 4 = .ok (.ifCond .eq 21, 3) := by decide +kernel
theorem dX3_read_7 : decode cX3_read 7 = .ok (.iload_n 2, 1) := by decide +kernel
theorem dX3_read_8 : decode cX3_read 8 = .ok (.invokestatic 230, 3) := by decide +kernel
theorem dX3_read_11 : decode cX3_read 11 = .ok (.ifCond .eq 14, 3) := by decide +kernel
theorem dX3_read_14 : decode cX3_read 14 = .ok (.iload 4, 2) := by decide +kernel
theorem dX3_read_16 : decode cX3_read 16 = .ok (.iconst 0, 1) := by decide +kernel
theorem dX3_read_17 : decode cX3_read 17 = .ok (.bipush 20, 2) := by decide +kernel
theorem dX3_read_19 : decode cX3_read 19 = .ok (.invokestatic 70, 3) := by decide +kernel
theorem dX3_read_22 : decode cX3_read 22 = .ok (.ifCond .ne 5, 3) := by decide +kernel
theorem dX3_read_25 : decode cX3_read 25 = .ok (.iconst (-1), 1) := by decide +kernel
theorem dX3_read_26 : decode cX3_read 26 = .ok (.ireturn, 1) := by decide +kernel
theorem dX3_read_27 : decode cX3_read 27 = .ok (.aload_n 0, 1) := by decide +kernel
theorem dX3_read_28 : decode cX3_read 28 = .ok (.getfield 63, 3) := by decide +kernel
theorem dX3_read_31 : decode cX3_read 31 = .ok (.iload_n 1, 1) := by decide +kernel
theorem dX3_read_32 : decode cX3_read 32 = .ok (.aaload, 1) := by decide +kernel
theorem dX3_read_33 : decode cX3_read 33 = .ok (.astore 5, 2) := by decide +kernel
theorem dX3_read_35 : decode cX3_read 35 = .ok (.aload_n 0, 1) := by decide +kernel
theorem dX3_read_36 : decode cX3_read 36 = .ok (.getfield 27, 3) := by decide +kernel
theorem dX3_read_39 : decode cX3_read 39 = .ok (.aload_n 0, 1) := by decide +kernel
theorem dX3_read_40 : decode cX3_read 40 = .ok (.getfield 23, 3) := by decide +kernel
theorem dX3_read_43 : decode cX3_read 43 = .ok (.invokevirtual 84, 3) := by decide +kernel
theorem dX3_read_46 : decode cX3_read 46 = .ok (.iconst 0, 1) := by decide +kernel
theorem dX3_read_47 : decode cX3_read 47 = .ok (.istore 6, 2) := by decide +kernel
theorem dX3_read_49 : decode cX3_read 49 = .ok (.iconst 0, 1) := by decide +kernel
theorem dX3_read_50 : decode cX3_read 50 = .ok (.istore 7, 2) := by decide +kernel
theorem dX3_read_52 : decode cX3_read 52 = .ok (.iconst 0, 1) := by decide +kernel
theorem dX3_read_53 : decode cX3_read 53 = .ok (.istore 8, 2) := by decide +kernel
theorem dX3_read_55 : decode cX3_read 55 = .ok (.iload 8, 2) := by decide +kernel
theorem dX3_read_57 : decode cX3_read 57 = .ok (.iload 4, 2) := by decide +kernel
theorem dX3_read_59 : decode cX3_read 59 = .ok (.if_icmp .ge 72, 3) := by decide +kernel
theorem dX3_read_62 : decode cX3_read 62 = .ok (.iload_n 3, 1) := by decide +kernel
theorem dX3_read_63 : decode cX3_read 63 = .ok (.iconst 2, 1) := by decide +kernel
theorem dX3_read_64 : decode cX3_read 64 = .ok (.iload 8, 2) := by decide +kernel
theorem dX3_read_66 : decode cX3_read 66 = .ok (.imul, 1) := by decide +kernel
theorem dX3_read_67 : decode cX3_read 67 = .ok (.iadd, 1) := by decide +kernel
theorem dX3_read_68 : decode cX3_read 68 = .ok (.istore 9, 2) := by decide +kernel
theorem dX3_read_70 : decode cX3_read 70 = .ok (.aload 5, 2) := by decide +kernel
theorem dX3_read_72 : decode cX3_read 72 = .ok (.iload_n 2, 1) := by decide +kernel
theorem dX3_read_73 : decode cX3_read 73 = .ok (.iload 9, 2) := by decide +kernel
theorem dX3_read_75 : decode cX3_read 75 = .ok (.invokevirtual 242, 3) := by decide +kernel
theorem dX3_read_78 : decode cX3_read 78 = .ok (.istore 6, 2) := by decide +kernel
theorem dX3_read_80 : decode cX3_read 80 = .ok (.iload 6, 2) := by decide +kernel
theorem dX3_read_82 : decode cX3_read 82 = .ok (.ifCond .eq 6, 3) := by decide +kernel
theorem dX3_read_85 : decode cX3_read 85 = .ok (.goto 46, 3) := by decide +kernel
theorem dX3_read_88 : decode cX3_read 88 = .ok (.aload_n 0, 1) := by decide +kernel
theorem dX3_read_89 : decode cX3_read 89 = .ok (.getfield 27, 3) := by decide +kernel
theorem dX3_read_92 : decode cX3_read 92 = .ok (.aload 5, 2) := by decide +kernel
theorem dX3_read_94 : decode cX3_read 94 = .ok (.getfield 245, 3) := by decide +kernel
theorem dX3_read_97 : decode cX3_read 97 = .ok (.iload 9, 2) := by decide +kernel
theorem dX3_read_99 : decode cX3_read 99 = .ok (.iaload, 1) := by decide +kernel
theorem dX3_read_100 : decode cX3_read 100 = .ok (.aload 5, 2) := by decide +kernel
theorem dX3_read_102 : decode cX3_read 102 = .ok (.getfield 245, 3) := by decide +kernel
theorem dX3_read_105 : decode cX3_read 105 = .ok (.iload 9, 2) := by decide +kernel
theorem dX3_read_107 : decode cX3_read 107 = .ok (.iconst 1, 1) := by decide +kernel
theorem dX3_read_108 : decode cX3_read 108 = .ok (.iadd, 1) := by decide +kernel
theorem dX3_read_109 : decode cX3_read 109 = .ok (.iaload, 1) := by decide +kernel
theorem dX3_read_110 : decode cX3_read 110 = .ok (.invokevirtual 165, 3) := by decide +kernel
theorem dX3_read_113 : decode cX3_read 113 = .ok (.ifCond .ge 9, 3) := by decide +kernel
theorem dX3_read_116 : decode cX3_read 116 = .ok (.bipush (-20), 2) := by decide +kernel
theorem dX3_read_118 : decode cX3_read 118 = .ok (.iload 8, 2) := by decide +kernel
theorem dX3_read_120 : decode cX3_read 120 = .ok (.isub, 1) := by decide +kernel
theorem dX3_read_121 : decode cX3_read 121 = .ok (.ireturn, 1) := by decide +kernel
theorem dX3_read_122 : decode cX3_read 122 = .ok (.iinc 7 1, 3) := by decide +kernel
theorem dX3_read_125 : decode cX3_read 125 = .ok (.iinc 8 1, 3) := by decide +kernel
theorem dX3_read_128 : decode cX3_read 128 = .ok (.goto (-73), 3) := by decide +kernel
theorem dX3_read_131 : decode cX3_read 131 = .ok (.aload_n 0, 1) := by decide +kernel
theorem dX3_read_132 : decode cX3_read 132 = .ok (.getfield 23, 3) := by decide +kernel
theorem dX3_read_135 : decode cX3_read 135 = .ok (.aload_n 0, 1) := by decide +kernel
theorem dX3_read_136 : decode cX3_read 136 = .ok (.getfield 27, 3) := by decide +kernel
theorem dX3_read_139 : decode cX3_read 139 = .ok (.invokevirtual 84, 3) := by decide +kernel
theorem dX3_read_142 : decode cX3_read 142 = .ok (.aload_n 0, 1) := by decide +kernel
theorem dX3_read_143 : decode cX3_read 143 = .ok (.iload 6, 2) := by decide +kernel
theorem dX3_read_145 : decode cX3_read 145 = .ok (.putfield 67, 3) := by decide +kernel
theorem dX3_read_148 : decode cX3_read 148 = .ok (.iload 7, 2) := by decide +kernel
theorem dX3_read_150 : decode cX3_read 150 = .ok (.ireturn, 1) := by decide +kernel
theorem dX3_torn_0 : decode cX3_torn 0 = .ok (.aload_n 0, 1) := by decide +kernel
theorem dX3_torn_1 : decode cX3_torn 1 = .ok (.getfield 67, 3) := by decide +kernel
theorem dX3_torn_4 : decode cX3_torn 4 = .ok (.ireturn, 1) := by decide +kernel
theorem dX3_count_0 : decode cX3_count 0 = .ok (.iload_n 1, 1) := by decide +kernel
theorem dX3_count_1 : decode cX3_count 1 = .ok (.tableswitch 124 0 6 #[43, 48, 68, 73, 100, 108, 116], 43) := by decide +kernel
theorem dX3_count_44 : decode cX3_count 44 = .ok (.aload_n 0, 1) := by decide +kernel
theorem dX3_count_45 : decode cX3_count 45 = .ok (.getfield 57, 3) := by decide +kernel
theorem dX3_count_48 : decode cX3_count 48 = .ok (.ireturn, 1) := by decide +kernel
theorem dX3_count_49 : decode cX3_count 49 = .ok (.aload_n 0, 1) := by decide +kernel
theorem dX3_count_50 : decode cX3_count 50 = .ok (.getfield 46, 3) := by decide +kernel
theorem dX3_count_53 : decode cX3_count 53 = .ok (.iconst 0, 1) := by decide +kernel
theorem dX3_count_54 : decode cX3_count 54 = .ok (.baload, 1) := by decide +kernel
theorem dX3_count_55 : decode cX3_count 55 = .ok (.invokestatic 150, 3) := by decide +kernel
theorem dX3_count_58 : decode cX3_count 58 = .ok (.aload_n 0, 1) := by decide +kernel
theorem dX3_count_59 : decode cX3_count 59 = .ok (.getfield 46, 3) := by decide +kernel
theorem dX3_count_62 : decode cX3_count 62 = .ok (.iconst 1, 1) := by decide +kernel
theorem dX3_count_63 : decode cX3_count 63 = .ok (.baload, 1) := by decide +kernel
theorem dX3_count_64 : decode cX3_count 64 = .ok (.invokestatic 150, 3) := by decide +kernel
theorem dX3_count_67 : decode cX3_count 67 = .ok (.iadd, 1) := by decide +kernel
theorem dX3_count_68 : decode cX3_count 68 = .ok (.ireturn, 1) := by decide +kernel
theorem dX3_count_69 : decode cX3_count 69 = .ok (.aload_n 0, 1) := by decide +kernel
theorem dX3_count_70 : decode cX3_count 70 = .ok (.getfield 13, 3) := by decide +kernel
theorem dX3_count_73 : decode cX3_count 73 = .ok (.ireturn, 1) := by decide +kernel
theorem dX3_count_74 : decode cX3_count 74 = .ok (.aload_n 0, 1) := by decide +kernel
theorem dX3_count_75 : decode cX3_count 75 = .ok (.getfield 63, 3) := by decide +kernel
theorem dX3_count_78 : decode cX3_count 78 = .ok (.iconst 0, 1) := by decide +kernel
theorem dX3_count_79 : decode cX3_count 79 = .ok (.aaload, 1) := by decide +kernel
theorem dX3_count_80 : decode cX3_count 80 = .ok (.invokevirtual 248, 3) := by decide +kernel
theorem dX3_count_83 : decode cX3_count 83 = .ok (.ifCond .eq 8, 3) := by decide +kernel
theorem dX3_count_86 : decode cX3_count 86 = .ok (.bipush (-4), 2) := by decide +kernel
theorem dX3_count_88 : decode cX3_count 88 = .ok (.goto 12, 3) := by decide +kernel
theorem dX3_count_91 : decode cX3_count 91 = .ok (.aload_n 0, 1) := by decide +kernel
theorem dX3_count_92 : decode cX3_count 92 = .ok (.getfield 63, 3) := by decide +kernel
theorem dX3_count_95 : decode cX3_count 95 = .ok (.iconst 0, 1) := by decide +kernel
theorem dX3_count_96 : decode cX3_count 96 = .ok (.aaload, 1) := by decide +kernel
theorem dX3_count_97 : decode cX3_count 97 = .ok (.getfield 251, 3) := by decide +kernel
theorem dX3_count_100 : decode cX3_count 100 = .ok (.ireturn, 1) := by decide +kernel
theorem dX3_count_101 : decode cX3_count 101 = .ok (.aload_n 0, 1) := by decide +kernel
theorem dX3_count_102 : decode cX3_count 102 = .ok (.getfield 23, 3) := by decide +kernel
theorem dX3_count_105 : decode cX3_count 105 = .ok (.invokevirtual 176, 3) := by decide +kernel
theorem dX3_count_108 : decode cX3_count 108 = .ok (.ireturn, 1) := by decide +kernel
theorem dX3_count_109 : decode cX3_count 109 = .ok (.aload_n 0, 1) := by decide +kernel
theorem dX3_count_110 : decode cX3_count 110 = .ok (.getfield 23, 3) := by decide +kernel
theorem dX3_count_113 : decode cX3_count 113 = .ok (.invokevirtual 254, 3) := by decide +kernel
theorem dX3_count_116 : decode cX3_count 116 = .ok (.ireturn, 1) := by decide +kernel
theorem dX3_count_117 : decode cX3_count 117 = .ok (.aload_n 0, 1) := by decide +kernel
theorem dX3_count_118 : decode cX3_count 118 = .ok (.getfield 23, 3) := by decide +kernel
theorem dX3_count_121 : decode cX3_count 121 = .ok (.invokevirtual 257, 3) := by decide +kernel
theorem dX3_count_124 : decode cX3_count 124 = .ok (.ireturn, 1) := by decide +kernel
theorem dX3_count_125 : decode cX3_count 125 = .ok (.iconst (-1), 1) := by decide +kernel
theorem dX3_count_126 : decode cX3_count 126 = .ok (.ireturn, 1) := by decide +kernel
theorem dX3_within_0 : decode cX3_within 0 = .ok (.iload_n 0, 1) := by decide +kernel
theorem dX3_within_1 : decode cX3_within 1 = .ok (.iload_n 1, 1) := by decide +kernel
theorem dX3_within_2 : decode cX3_within 2 = .ok (.if_icmp .lt 12, 3) := by decide +kernel
theorem dX3_within_5 : decode cX3_within 5 = .ok (.iload_n 0, 1) := by decide +kernel
theorem dX3_within_6 : decode cX3_within 6 = .ok (.iload_n 2, 1) := by decide +kernel
theorem dX3_within_7 : decode cX3_within 7 = .ok (.if_icmp .gt 7, 3) := by decide +kernel
theorem dX3_within_10 : decode cX3_within 10 = .ok (.iconst 1, 1) := by decide +kernel
theorem dX3_within_11 : decode cX3_within 11 = .ok (.goto 4, 3) := by decide +kernel
theorem dX3_within_14 : decode cX3_within 14 = .ok (.iconst 0, 1) := by decide +kernel
theorem dX3_within_15 : decode cX3_within 15 = .ok (.ireturn, 1) := by decide +kernel
theorem dX3_asNumber_0 : decode cX3_asNumber 0 = .ok (.iload_n 0, 1) := by decide +kernel
theorem dX3_asNumber_1 : decode cX3_asNumber 1 = .ok (.ifCond .eq 7, 3) := by decide +kernel
theorem dX3_asNumber_4 : decode cX3_asNumber 4 = .ok (.iconst 1, 1) := by decide +kernel
theorem dX3_asNumber_5 : decode cX3_asNumber 5 = .ok (.goto 4, 3) := by decide +kernel
theorem dX3_asNumber_8 : decode cX3_asNumber 8 = .ok (.iconst 0, 1) := by decide +kernel
theorem dX3_asNumber_9 : decode cX3_asNumber 9 = .ok (.ireturn, 1) := by decide +kernel
theorem dX3_isOne_0 : decode cX3_isOne 0 = .ok (.iload_n 1, 1) := by decide +kernel
theorem dX3_isOne_1 : decode cX3_isOne 1 = .ok (.iconst 0, 1) := by decide +kernel
theorem dX3_isOne_2 : decode cX3_isOne 2 = .ok (.aload_n 0, 1) := by decide +kernel
theorem dX3_isOne_3 : decode cX3_isOne 3 = .ok (.getfield 23, 3) := by decide +kernel
theorem dX3_isOne_6 : decode cX3_isOne 6 = .ok (.getfield 91, 3) := by decide +kernel
theorem dX3_isOne_9 : decode cX3_isOne 9 = .ok (.iconst 1, 1) := by decide +kernel
theorem dX3_isOne_10 : decode cX3_isOne 10 = .ok (.isub, 1) := by decide +kernel
theorem dX3_isOne_11 : decode cX3_isOne 11 = .ok (.invokestatic 70, 3) := by decide +kernel
theorem dX3_isOne_14 : decode cX3_isOne 14 = .ok (.ireturn, 1) := by decide +kernel
theorem dX3_isWell_0 : decode cX3_isWell 0 = .ok (.iload_n 1, 1) := by decide +kernel
theorem dX3_isWell_1 : decode cX3_isWell 1 = .ok (.iconst 0, 1) := by decide +kernel
theorem dX3_isWell_2 : decode cX3_isWell 2 = .ok (.aload_n 0, 1) := by decide +kernel
theorem dX3_isWell_3 : decode cX3_isWell 3 = .ok (.getfield 23, 3) := by decide +kernel
theorem dX3_isWell_6 : decode cX3_isWell 6 = .ok (.getfield 94, 3) := by decide +kernel
theorem dX3_isWell_9 : decode cX3_isWell 9 = .ok (.iconst 1, 1) := by decide +kernel
theorem dX3_isWell_10 : decode cX3_isWell 10 = .ok (.isub, 1) := by decide +kernel
theorem dX3_isWell_11 : decode cX3_isWell 11 = .ok (.invokestatic 70, 3) := by decide +kernel
theorem dX3_isWell_14 : decode cX3_isWell 14 = .ok (.ireturn, 1) := by decide +kernel
theorem dX3_isKind_0 : decode cX3_isKind 0 = .ok (.iload_n 0, 1) := by decide +kernel
theorem dX3_isKind_1 : decode cX3_isKind 1 = .ok (.iconst 0, 1) := by decide +kernel
theorem dX3_isKind_2 : decode cX3_isKind 2 = .ok (.iconst 4, 1) := by decide +kernel
theorem dX3_isKind_3 : decode cX3_isKind 3 = .ok (.invokestatic 70, 3) := by decide +kernel
theorem dX3_isKind_6 : decode cX3_isKind 6 = .ok (.ireturn, 1) := by decide +kernel
theorem dX3_isPlan_0 : decode cX3_isPlan 0 = .ok (.iload_n 0, 1) := by decide +kernel
theorem dX3_isPlan_1 : decode cX3_isPlan 1 = .ok (.iconst 0, 1) := by decide +kernel
theorem dX3_isPlan_2 : decode cX3_isPlan 2 = .ok (.iconst 3, 1) := by decide +kernel
theorem dX3_isPlan_3 : decode cX3_isPlan 3 = .ok (.invokestatic 70, 3) := by decide +kernel
theorem dX3_isPlan_6 : decode cX3_isPlan 6 = .ok (.ireturn, 1) := by decide +kernel
theorem dX3_isImage_0 : decode cX3_isImage 0 = .ok (.iload_n 0, 1) := by decide +kernel
theorem dX3_isImage_1 : decode cX3_isImage 1 = .ok (.iconst 0, 1) := by decide +kernel
theorem dX3_isImage_2 : decode cX3_isImage 2 = .ok (.iconst 1, 1) := by decide +kernel
theorem dX3_isImage_3 : decode cX3_isImage 3 = .ok (.invokestatic 70, 3) := by decide +kernel
theorem dX3_isImage_6 : decode cX3_isImage 6 = .ok (.ireturn, 1) := by decide +kernel
theorem dX3_isSheet_0 : decode cX3_isSheet 0 = .ok (.iload_n 0, 1) := by decide +kernel
theorem dX3_isSheet_1 : decode cX3_isSheet 1 = .ok (.iconst 0, 1) := by decide +kernel
theorem dX3_isSheet_2 : decode cX3_isSheet 2 = .ok (.iconst 3, 1) := by decide +kernel
theorem dX3_isSheet_3 : decode cX3_isSheet 3 = .ok (.invokestatic 70, 3) := by decide +kernel
theorem dX3_isSheet_6 : decode cX3_isSheet 6 = .ok (.ireturn, 1) := by decide +kernel
theorem dX3_isLane_0 : decode cX3_isLane 0 = .ok (.iload_n 0, 1) := by decide +kernel
theorem dX3_isLane_1 : decode cX3_isLane 1 = .ok (.iconst 0, 1) := by decide +kernel
theorem dX3_isLane_2 : decode cX3_isLane 2 = .ok (.iconst 2, 1) := by decide +kernel
theorem dX3_isLane_3 : decode cX3_isLane 3 = .ok (.invokestatic 70, 3) := by decide +kernel
theorem dX3_isLane_6 : decode cX3_isLane 6 = .ok (.ireturn, 1) := by decide +kernel
theorem dX3_told_0 : decode cX3_told 0 = .ok (.iload_n 1, 1) := by decide +kernel
theorem dX3_told_1 : decode cX3_told 1 = .ok (.lookupswitch 37 #[(0, 27), (1, 32)], 27) := by decide +kernel
theorem dX3_told_28 : decode cX3_told 28 = .ok (.aload_n 0, 1) := by decide +kernel
theorem dX3_told_29 : decode cX3_told 29 = .ok (.getfield 100, 3) := by decide +kernel
theorem dX3_told_32 : decode cX3_told 32 = .ok (.ireturn, 1) := by decide +kernel
theorem dX3_told_33 : decode cX3_told 33 = .ok (.aload_n 0, 1) := by decide +kernel
theorem dX3_told_34 : decode cX3_told 34 = .ok (.getfield 106, 3) := by decide +kernel
theorem dX3_told_37 : decode cX3_told 37 = .ok (.ireturn, 1) := by decide +kernel
theorem dX3_told_38 : decode cX3_told 38 = .ok (.aload_n 0, 1) := by decide +kernel
theorem dX3_told_39 : decode cX3_told 39 = .ok (.invokevirtual 176, 3) := by decide +kernel
theorem dX3_told_42 : decode cX3_told 42 = .ok (.ireturn, 1) := by decide +kernel
theorem dX3_weightOf_0 : decode cX3_weightOf 0 = .ok (.lconst 1, 1) := by decide +kernel
theorem dX3_weightOf_1 : decode cX3_weightOf 1 = .ok (.lstore_n 2, 1) := by decide +kernel
theorem dX3_weightOf_2 : decode cX3_weightOf 2 = .ok (.iconst 0, 1) := by decide +kernel
theorem dX3_weightOf_3 : decode cX3_weightOf 3 = .ok (.istore 4, 2) := by decide +kernel
theorem dX3_weightOf_5 : decode cX3_weightOf 5 = .ok (.iload 4, 2) := by decide +kernel
theorem dX3_weightOf_7 : decode cX3_weightOf 7 = .ok (.aload_n 0, 1) := by decide +kernel
theorem dX3_weightOf_8 : decode cX3_weightOf 8 = .ok (.getfield 23, 3) := by decide +kernel
theorem dX3_weightOf_11 : decode cX3_weightOf 11 = .ok (.getfield 94, 3) := by decide +kernel
theorem dX3_weightOf_14 : decode cX3_weightOf 14 = .ok (.if_icmp .ge 75, 3) := by decide +kernel
theorem dX3_weightOf_17 : decode cX3_weightOf 17 = .ok (.aload_n 0, 1) := by decide +kernel
theorem dX3_weightOf_18 : decode cX3_weightOf 18 = .ok (.getfield 23, 3) := by decide +kernel
theorem dX3_weightOf_21 : decode cX3_weightOf 21 = .ok (.getfield 147, 3) := by decide +kernel
theorem dX3_weightOf_24 : decode cX3_weightOf 24 = .ok (.iload 4, 2) := by decide +kernel
theorem dX3_weightOf_26 : decode cX3_weightOf 26 = .ok (.baload, 1) := by decide +kernel
theorem dX3_weightOf_27 : decode cX3_weightOf 27 = .ok (.ifCond .eq 16, 3) := by decide +kernel
theorem dX3_weightOf_30 : decode cX3_weightOf 30 = .ok (.aload_n 0, 1) := by decide +kernel
theorem dX3_weightOf_31 : decode cX3_weightOf 31 = .ok (.getfield 23, 3) := by decide +kernel
theorem dX3_weightOf_34 : decode cX3_weightOf 34 = .ok (.getfield 141, 3) := by decide +kernel
theorem dX3_weightOf_37 : decode cX3_weightOf 37 = .ok (.iload 4, 2) := by decide +kernel
end
section
theorem dX3_weightOf_39 : decode cX3_weightOf 39 = .ok (.iaload, 1) := by decide +kernel
theorem dX3_weightOf_40 : decode cX3_weightOf 40 = .ok (.goto 4, 3) := by decide +kernel
theorem dX3_weightOf_43 : decode cX3_weightOf 43 = .ok (.iconst 0, 1) := by decide +kernel
theorem dX3_weightOf_44 : decode cX3_weightOf 44 = .ok (.istore 5, 2) := by decide +kernel
theorem dX3_weightOf_46 : decode cX3_weightOf 46 = .ok (.iload_n 1, 1) := by decide +kernel
theorem dX3_weightOf_47 : decode cX3_weightOf 47 = .ok (.iload 4, 2) := by decide +kernel
theorem dX3_weightOf_49 : decode cX3_weightOf 49 = .ok (.ishr, 1) := by decide +kernel
theorem dX3_weightOf_50 : decode cX3_weightOf 50 = .ok (.iconst 1, 1) := by decide +kernel
theorem dX3_weightOf_51 : decode cX3_weightOf 51 = .ok (.iand, 1) := by decide +kernel
theorem dX3_weightOf_52 : decode cX3_weightOf 52 = .ok (.iconst 1, 1) := by decide +kernel
theorem dX3_weightOf_53 : decode cX3_weightOf 53 = .ok (.if_icmp .ne 7, 3) := by decide +kernel
theorem dX3_weightOf_56 : decode cX3_weightOf 56 = .ok (.iconst 1, 1) := by decide +kernel
theorem dX3_weightOf_57 : decode cX3_weightOf 57 = .ok (.goto 4, 3) := by decide +kernel
theorem dX3_weightOf_60 : decode cX3_weightOf 60 = .ok (.iconst 0, 1) := by decide +kernel
theorem dX3_weightOf_61 : decode cX3_weightOf 61 = .ok (.istore 6, 2) := by decide +kernel
theorem dX3_weightOf_63 : decode cX3_weightOf 63 = .ok (.lload_n 2, 1) := by decide +kernel
theorem dX3_weightOf_64 : decode cX3_weightOf 64 = .ok (.iload 6, 2) := by decide +kernel
theorem dX3_weightOf_66 : decode cX3_weightOf 66 = .ok (.ifCond .eq 9, 3) := by decide +kernel
theorem dX3_weightOf_69 : decode cX3_weightOf 69 = .ok (.iload 5, 2) := by decide +kernel
theorem dX3_weightOf_71 : decode cX3_weightOf 71 = .ok (.i2l, 1) := by decide +kernel
theorem dX3_weightOf_72 : decode cX3_weightOf 72 = .ok (.goto 9, 3) := by decide +kernel
theorem dX3_weightOf_75 : decode cX3_weightOf 75 = .ok (.bipush 10, 2) := by decide +kernel
theorem dX3_weightOf_77 : decode cX3_weightOf 77 = .ok (.iload 5, 2) := by decide +kernel
theorem dX3_weightOf_79 : decode cX3_weightOf 79 = .ok (.isub, 1) := by decide +kernel
theorem dX3_weightOf_80 : decode cX3_weightOf 80 = .ok (.i2l, 1) := by decide +kernel
theorem dX3_weightOf_81 : decode cX3_weightOf 81 = .ok (.lmul, 1) := by decide +kernel
theorem dX3_weightOf_82 : decode cX3_weightOf 82 = .ok (.lstore_n 2, 1) := by decide +kernel
theorem dX3_weightOf_83 : decode cX3_weightOf 83 = .ok (.iinc 4 1, 3) := by decide +kernel
theorem dX3_weightOf_86 : decode cX3_weightOf 86 = .ok (.goto (-81), 3) := by decide +kernel
theorem dX3_weightOf_89 : decode cX3_weightOf 89 = .ok (.lload_n 2, 1) := by decide +kernel
theorem dX3_weightOf_90 : decode cX3_weightOf 90 = .ok (.lreturn, 1) := by decide +kernel
theorem dX3_arrivingBy_0 : decode cX3_arrivingBy 0 = .ok (.aload_n 0, 1) := by decide +kernel
theorem dX3_arrivingBy_1 : decode cX3_arrivingBy 1 = .ok (.getfield 27, 3) := by decide +kernel
theorem dX3_arrivingBy_4 : decode cX3_arrivingBy 4 = .ok (.aload_n 0, 1) := by decide +kernel
theorem dX3_arrivingBy_5 : decode cX3_arrivingBy 5 = .ok (.getfield 23, 3) := by decide +kernel
theorem dX3_arrivingBy_8 : decode cX3_arrivingBy 8 = .ok (.invokevirtual 84, 3) := by decide +kernel
theorem dX3_arrivingBy_11 : decode cX3_arrivingBy 11 = .ok (.iconst 0, 1) := by decide +kernel
theorem dX3_arrivingBy_12 : decode cX3_arrivingBy 12 = .ok (.istore_n 3, 1) := by decide +kernel
theorem dX3_arrivingBy_13 : decode cX3_arrivingBy 13 = .ok (.iload_n 3, 1) := by decide +kernel
theorem dX3_arrivingBy_14 : decode cX3_arrivingBy 14 = .ok (.aload_n 0, 1) := by decide +kernel
theorem dX3_arrivingBy_15 : decode cX3_arrivingBy 15 = .ok (.getfield 27, 3) := by decide +kernel
theorem dX3_arrivingBy_18 : decode cX3_arrivingBy 18 = .ok (.getfield 94, 3) := by decide +kernel
theorem dX3_arrivingBy_21 : decode cX3_arrivingBy 21 = .ok (.if_icmp .ge 32, 3) := by decide +kernel
theorem dX3_arrivingBy_24 : decode cX3_arrivingBy 24 = .ok (.aload_n 0, 1) := by decide +kernel
theorem dX3_arrivingBy_25 : decode cX3_arrivingBy 25 = .ok (.getfield 27, 3) := by decide +kernel
theorem dX3_arrivingBy_28 : decode cX3_arrivingBy 28 = .ok (.getfield 147, 3) := by decide +kernel
theorem dX3_arrivingBy_31 : decode cX3_arrivingBy 31 = .ok (.iload_n 3, 1) := by decide +kernel
theorem dX3_arrivingBy_32 : decode cX3_arrivingBy 32 = .ok (.iload_n 1, 1) := by decide +kernel
theorem dX3_arrivingBy_33 : decode cX3_arrivingBy 33 = .ok (.iload_n 3, 1) := by decide +kernel
theorem dX3_arrivingBy_34 : decode cX3_arrivingBy 34 = .ok (.ishr, 1) := by decide +kernel
theorem dX3_arrivingBy_35 : decode cX3_arrivingBy 35 = .ok (.iconst 1, 1) := by decide +kernel
theorem dX3_arrivingBy_36 : decode cX3_arrivingBy 36 = .ok (.iand, 1) := by decide +kernel
theorem dX3_arrivingBy_37 : decode cX3_arrivingBy 37 = .ok (.iconst 1, 1) := by decide +kernel
theorem dX3_arrivingBy_38 : decode cX3_arrivingBy 38 = .ok (.if_icmp .ne 7, 3) := by decide +kernel
theorem dX3_arrivingBy_41 : decode cX3_arrivingBy 41 = .ok (.iconst 1, 1) := by decide +kernel
theorem dX3_arrivingBy_42 : decode cX3_arrivingBy 42 = .ok (.goto 4, 3) := by decide +kernel
theorem dX3_arrivingBy_45 : decode cX3_arrivingBy 45 = .ok (.iconst 0, 1) := by decide +kernel
theorem dX3_arrivingBy_46 : decode cX3_arrivingBy 46 = .ok (.bastore, 1) := by decide +kernel
theorem dX3_arrivingBy_47 : decode cX3_arrivingBy 47 = .ok (.iinc 3 1, 3) := by decide +kernel
theorem dX3_arrivingBy_50 : decode cX3_arrivingBy 50 = .ok (.goto (-37), 3) := by decide +kernel
theorem dX3_arrivingBy_53 : decode cX3_arrivingBy 53 = .ok (.aload_n 0, 1) := by decide +kernel
theorem dX3_arrivingBy_54 : decode cX3_arrivingBy 54 = .ok (.getfield 27, 3) := by decide +kernel
theorem dX3_arrivingBy_57 : decode cX3_arrivingBy 57 = .ok (.iload_n 2, 1) := by decide +kernel
theorem dX3_arrivingBy_58 : decode cX3_arrivingBy 58 = .ok (.invokevirtual 186, 3) := by decide +kernel
theorem dX3_arrivingBy_61 : decode cX3_arrivingBy 61 = .ok (.pop, 1) := by decide +kernel
theorem dX3_arrivingBy_62 : decode cX3_arrivingBy 62 = .ok (.aload_n 0, 1) := by decide +kernel
theorem dX3_arrivingBy_63 : decode cX3_arrivingBy 63 = .ok (.getfield 27, 3) := by decide +kernel
theorem dX3_arrivingBy_66 : decode cX3_arrivingBy 66 = .ok (.invokevirtual 189, 3) := by decide +kernel
theorem dX3_arrivingBy_69 : decode cX3_arrivingBy 69 = .ok (.ireturn, 1) := by decide +kernel
theorem dX3_isAsSeen_0 : decode cX3_isAsSeen 0 = .ok (.aload_n 0, 1) := by decide +kernel
theorem dX3_isAsSeen_1 : decode cX3_isAsSeen 1 = .ok (.getfield 27, 3) := by decide +kernel
theorem dX3_isAsSeen_4 : decode cX3_isAsSeen 4 = .ok (.aload_n 0, 1) := by decide +kernel
theorem dX3_isAsSeen_5 : decode cX3_isAsSeen 5 = .ok (.getfield 23, 3) := by decide +kernel
theorem dX3_isAsSeen_8 : decode cX3_isAsSeen 8 = .ok (.invokevirtual 84, 3) := by decide +kernel
theorem dX3_isAsSeen_11 : decode cX3_isAsSeen 11 = .ok (.iload_n 1, 1) := by decide +kernel
theorem dX3_isAsSeen_12 : decode cX3_isAsSeen 12 = .ok (.istore_n 2, 1) := by decide +kernel
theorem dX3_isAsSeen_13 : decode cX3_isAsSeen 13 = .ok (.aload_n 0, 1) := by decide +kernel
theorem dX3_isAsSeen_14 : decode cX3_isAsSeen 14 = .ok (.getfield 27, 3) := by decide +kernel
theorem dX3_isAsSeen_17 : decode cX3_isAsSeen 17 = .ok (.getfield 91, 3) := by decide +kernel
theorem dX3_isAsSeen_20 : decode cX3_isAsSeen 20 = .ok (.iconst 1, 1) := by decide +kernel
theorem dX3_isAsSeen_21 : decode cX3_isAsSeen 21 = .ok (.isub, 1) := by decide +kernel
theorem dX3_isAsSeen_22 : decode cX3_isAsSeen 22 = .ok (.istore_n 3, 1) := by decide +kernel
theorem dX3_isAsSeen_23 : decode cX3_isAsSeen 23 = .ok (.iload_n 3, 1) := by decide +kernel
theorem dX3_isAsSeen_24 : decode cX3_isAsSeen 24 = .ok (.ifCond .lt 25, 3) := by decide +kernel
theorem dX3_isAsSeen_27 : decode cX3_isAsSeen 27 = .ok (.aload_n 0, 1) := by decide +kernel
theorem dX3_isAsSeen_28 : decode cX3_isAsSeen 28 = .ok (.getfield 27, 3) := by decide +kernel
theorem dX3_isAsSeen_31 : decode cX3_isAsSeen 31 = .ok (.getfield 122, 3) := by decide +kernel
theorem dX3_isAsSeen_34 : decode cX3_isAsSeen 34 = .ok (.iload_n 3, 1) := by decide +kernel
theorem dX3_isAsSeen_35 : decode cX3_isAsSeen 35 = .ok (.iload_n 2, 1) := by decide +kernel
theorem dX3_isAsSeen_36 : decode cX3_isAsSeen 36 = .ok (.iconst 5, 1) := by decide +kernel
theorem dX3_isAsSeen_37 : decode cX3_isAsSeen 37 = .ok (.irem, 1) := by decide +kernel
theorem dX3_isAsSeen_38 : decode cX3_isAsSeen 38 = .ok (.iastore, 1) := by decide +kernel
theorem dX3_isAsSeen_39 : decode cX3_isAsSeen 39 = .ok (.iload_n 2, 1) := by decide +kernel
theorem dX3_isAsSeen_40 : decode cX3_isAsSeen 40 = .ok (.iconst 5, 1) := by decide +kernel
theorem dX3_isAsSeen_41 : decode cX3_isAsSeen 41 = .ok (.idiv, 1) := by decide +kernel
theorem dX3_isAsSeen_42 : decode cX3_isAsSeen 42 = .ok (.istore_n 2, 1) := by decide +kernel
theorem dX3_isAsSeen_43 : decode cX3_isAsSeen 43 = .ok (.iinc 3 (-1), 3) := by decide +kernel
theorem dX3_isAsSeen_46 : decode cX3_isAsSeen 46 = .ok (.goto (-23), 3) := by decide +kernel
theorem dX3_isAsSeen_49 : decode cX3_isAsSeen 49 = .ok (.aload_n 0, 1) := by decide +kernel
theorem dX3_isAsSeen_50 : decode cX3_isAsSeen 50 = .ok (.invokevirtual 260, 3) := by decide +kernel
theorem dX3_isAsSeen_53 : decode cX3_isAsSeen 53 = .ok (.istore_n 3, 1) := by decide +kernel
theorem dX3_isAsSeen_54 : decode cX3_isAsSeen 54 = .ok (.iconst 1, 1) := by decide +kernel
theorem dX3_isAsSeen_55 : decode cX3_isAsSeen 55 = .ok (.istore 4, 2) := by decide +kernel
theorem dX3_isAsSeen_57 : decode cX3_isAsSeen 57 = .ok (.iload 4, 2) := by decide +kernel
theorem dX3_isAsSeen_59 : decode cX3_isAsSeen 59 = .ok (.iload_n 3, 1) := by decide +kernel
theorem dX3_isAsSeen_60 : decode cX3_isAsSeen 60 = .ok (.if_icmp .gt 35, 3) := by decide +kernel
theorem dX3_isAsSeen_63 : decode cX3_isAsSeen 63 = .ok (.aload_n 0, 1) := by decide +kernel
theorem dX3_isAsSeen_64 : decode cX3_isAsSeen 64 = .ok (.getfield 27, 3) := by decide +kernel
theorem dX3_isAsSeen_67 : decode cX3_isAsSeen 67 = .ok (.iconst 1, 1) := by decide +kernel
theorem dX3_isAsSeen_68 : decode cX3_isAsSeen 68 = .ok (.aload_n 0, 1) := by decide +kernel
theorem dX3_isAsSeen_69 : decode cX3_isAsSeen 69 = .ok (.getfield 23, 3) := by decide +kernel
theorem dX3_isAsSeen_72 : decode cX3_isAsSeen 72 = .ok (.getfield 109, 3) := by decide +kernel
theorem dX3_isAsSeen_75 : decode cX3_isAsSeen 75 = .ok (.invokevirtual 172, 3) := by decide +kernel
theorem dX3_isAsSeen_78 : decode cX3_isAsSeen 78 = .ok (.aload_n 0, 1) := by decide +kernel
theorem dX3_isAsSeen_79 : decode cX3_isAsSeen 79 = .ok (.iload 4, 2) := by decide +kernel
theorem dX3_isAsSeen_81 : decode cX3_isAsSeen 81 = .ok (.invokevirtual 263, 3) := by decide +kernel
theorem dX3_isAsSeen_84 : decode cX3_isAsSeen 84 = .ok (.ifCond .ne 5, 3) := by decide +kernel
theorem dX3_isAsSeen_87 : decode cX3_isAsSeen 87 = .ok (.iconst 0, 1) := by decide +kernel
theorem dX3_isAsSeen_88 : decode cX3_isAsSeen 88 = .ok (.ireturn, 1) := by decide +kernel
theorem dX3_isAsSeen_89 : decode cX3_isAsSeen 89 = .ok (.iinc 4 1, 3) := by decide +kernel
theorem dX3_isAsSeen_92 : decode cX3_isAsSeen 92 = .ok (.goto (-35), 3) := by decide +kernel
theorem dX3_isAsSeen_95 : decode cX3_isAsSeen 95 = .ok (.iconst 1, 1) := by decide +kernel
theorem dX3_isAsSeen_96 : decode cX3_isAsSeen 96 = .ok (.ireturn, 1) := by decide +kernel
theorem dX3_lastHourSeen_0 : decode cX3_lastHourSeen 0 = .ok (.iconst 0, 1) := by decide +kernel
theorem dX3_lastHourSeen_1 : decode cX3_lastHourSeen 1 = .ok (.istore_n 1, 1) := by decide +kernel
theorem dX3_lastHourSeen_2 : decode cX3_lastHourSeen 2 = .ok (.iconst 0, 1) := by decide +kernel
theorem dX3_lastHourSeen_3 : decode cX3_lastHourSeen 3 = .ok (.istore_n 2, 1) := by decide +kernel
theorem dX3_lastHourSeen_4 : decode cX3_lastHourSeen 4 = .ok (.iload_n 2, 1) := by decide +kernel
theorem dX3_lastHourSeen_5 : decode cX3_lastHourSeen 5 = .ok (.aload_n 0, 1) := by decide +kernel
theorem dX3_lastHourSeen_6 : decode cX3_lastHourSeen 6 = .ok (.getfield 57, 3) := by decide +kernel
theorem dX3_lastHourSeen_9 : decode cX3_lastHourSeen 9 = .ok (.if_icmp .ge 20, 3) := by decide +kernel
theorem dX3_lastHourSeen_12 : decode cX3_lastHourSeen 12 = .ok (.iload_n 1, 1) := by decide +kernel
theorem dX3_lastHourSeen_13 : decode cX3_lastHourSeen 13 = .ok (.aload_n 0, 1) := by decide +kernel
theorem dX3_lastHourSeen_14 : decode cX3_lastHourSeen 14 = .ok (.getfield 50, 3) := by decide +kernel
theorem dX3_lastHourSeen_17 : decode cX3_lastHourSeen 17 = .ok (.iload_n 2, 1) := by decide +kernel
theorem dX3_lastHourSeen_18 : decode cX3_lastHourSeen 18 = .ok (.iaload, 1) := by decide +kernel
theorem dX3_lastHourSeen_19 : decode cX3_lastHourSeen 19 = .ok (.invokestatic 266, 3) := by decide +kernel
theorem dX3_lastHourSeen_22 : decode cX3_lastHourSeen 22 = .ok (.istore_n 1, 1) := by decide +kernel
theorem dX3_lastHourSeen_23 : decode cX3_lastHourSeen 23 = .ok (.iinc 2 1, 3) := by decide +kernel
theorem dX3_lastHourSeen_26 : decode cX3_lastHourSeen 26 = .ok (.goto (-22), 3) := by decide +kernel
theorem dX3_lastHourSeen_29 : decode cX3_lastHourSeen 29 = .ok (.iload_n 1, 1) := by decide +kernel
theorem dX3_lastHourSeen_30 : decode cX3_lastHourSeen 30 = .ok (.ireturn, 1) := by decide +kernel
theorem dX3_isAsSeenBehind_0 : decode cX3_isAsSeenBehind 0 = .ok (.iconst 0, 1) := by decide +kernel
theorem dX3_isAsSeenBehind_1 : decode cX3_isAsSeenBehind 1 = .ok (.istore_n 2, 1) := by decide +kernel
theorem dX3_isAsSeenBehind_2 : decode cX3_isAsSeenBehind 2 = .ok (.iload_n 2, 1) := by decide +kernel
theorem dX3_isAsSeenBehind_3 : decode cX3_isAsSeenBehind 3 = .ok (.aload_n 0, 1) := by decide +kernel
theorem dX3_isAsSeenBehind_4 : decode cX3_isAsSeenBehind 4 = .ok (.getfield 57, 3) := by decide +kernel
theorem dX3_isAsSeenBehind_7 : decode cX3_isAsSeenBehind 7 = .ok (.if_icmp .ge 37, 3) := by decide +kernel
theorem dX3_isAsSeenBehind_10 : decode cX3_isAsSeenBehind 10 = .ok (.aload_n 0, 1) := by decide +kernel
theorem dX3_isAsSeenBehind_11 : decode cX3_isAsSeenBehind 11 = .ok (.getfield 50, 3) := by decide +kernel
theorem dX3_isAsSeenBehind_14 : decode cX3_isAsSeenBehind 14 = .ok (.iload_n 2, 1) := by decide +kernel
theorem dX3_isAsSeenBehind_15 : decode cX3_isAsSeenBehind 15 = .ok (.iaload, 1) := by decide +kernel
theorem dX3_isAsSeenBehind_16 : decode cX3_isAsSeenBehind 16 = .ok (.iload_n 1, 1) := by decide +kernel
theorem dX3_isAsSeenBehind_17 : decode cX3_isAsSeenBehind 17 = .ok (.if_icmp .ne 21, 3) := by decide +kernel
theorem dX3_isAsSeenBehind_20 : decode cX3_isAsSeenBehind 20 = .ok (.aload_n 0, 1) := by decide +kernel
theorem dX3_isAsSeenBehind_21 : decode cX3_isAsSeenBehind 21 = .ok (.getfield 54, 3) := by decide +kernel
theorem dX3_isAsSeenBehind_24 : decode cX3_isAsSeenBehind 24 = .ok (.iload_n 2, 1) := by decide +kernel
theorem dX3_isAsSeenBehind_25 : decode cX3_isAsSeenBehind 25 = .ok (.iaload, 1) := by decide +kernel
theorem dX3_isAsSeenBehind_26 : decode cX3_isAsSeenBehind 26 = .ok (.aload_n 0, 1) := by decide +kernel
theorem dX3_isAsSeenBehind_27 : decode cX3_isAsSeenBehind 27 = .ok (.getfield 27, 3) := by decide +kernel
theorem dX3_isAsSeenBehind_30 : decode cX3_isAsSeenBehind 30 = .ok (.getfield 106, 3) := by decide +kernel
theorem dX3_isAsSeenBehind_33 : decode cX3_isAsSeenBehind 33 = .ok (.if_icmp .eq 5, 3) := by decide +kernel
theorem dX3_isAsSeenBehind_36 : decode cX3_isAsSeenBehind 36 = .ok (.iconst 0, 1) := by decide +kernel
theorem dX3_isAsSeenBehind_37 : decode cX3_isAsSeenBehind 37 = .ok (.ireturn, 1) := by decide +kernel
theorem dX3_isAsSeenBehind_38 : decode cX3_isAsSeenBehind 38 = .ok (.iinc 2 1, 3) := by decide +kernel
theorem dX3_isAsSeenBehind_41 : decode cX3_isAsSeenBehind 41 = .ok (.goto (-39), 3) := by decide +kernel
theorem dX3_isAsSeenBehind_44 : decode cX3_isAsSeenBehind 44 = .ok (.iconst 1, 1) := by decide +kernel
theorem dX3_isAsSeenBehind_45 : decode cX3_isAsSeenBehind 45 = .ok (.ireturn, 1) := by decide +kernel
theorem dX3_power_0 : decode cX3_power 0 = .ok (.lconst 1, 1) := by decide +kernel
theorem dX3_power_1 : decode cX3_power 1 = .ok (.lstore_n 2, 1) := by decide +kernel
theorem dX3_power_2 : decode cX3_power 2 = .ok (.iconst 0, 1) := by decide +kernel
theorem dX3_power_3 : decode cX3_power 3 = .ok (.istore 4, 2) := by decide +kernel
theorem dX3_power_5 : decode cX3_power 5 = .ok (.iload 4, 2) := by decide +kernel
theorem dX3_power_7 : decode cX3_power 7 = .ok (.iload_n 1, 1) := by decide +kernel
theorem dX3_power_8 : decode cX3_power 8 = .ok (.if_icmp .ge 14, 3) := by decide +kernel
theorem dX3_power_11 : decode cX3_power 11 = .ok (.lload_n 2, 1) := by decide +kernel
theorem dX3_power_12 : decode cX3_power 12 = .ok (.iload_n 0, 1) := by decide +kernel
theorem dX3_power_13 : decode cX3_power 13 = .ok (.i2l, 1) := by decide +kernel
theorem dX3_power_14 : decode cX3_power 14 = .ok (.lmul, 1) := by decide +kernel
theorem dX3_power_15 : decode cX3_power 15 = .ok (.lstore_n 2, 1) := by decide +kernel
theorem dX3_power_16 : decode cX3_power 16 = .ok (.iinc 4 1, 3) := by decide +kernel
theorem dX3_power_19 : decode cX3_power 19 = .ok (.goto (-14), 3) := by decide +kernel
theorem dX3_power_22 : decode cX3_power 22 = .ok (.lload_n 2, 1) := by decide +kernel
theorem dX3_power_23 : decode cX3_power 23 = .ok (.lreturn, 1) := by decide +kernel
theorem dX3_partOfFraction_0 : decode cX3_partOfFraction 0 = .ok (.lload_n 0, 1) := by decide +kernel
theorem dX3_partOfFraction_1 : decode cX3_partOfFraction 1 = .ok (.lload_n 2, 1) := by decide +kernel
theorem dX3_partOfFraction_2 : decode cX3_partOfFraction 2 = .ok (.invokestatic 271, 3) := by decide +kernel
theorem dX3_partOfFraction_5 : decode cX3_partOfFraction 5 = .ok (.lstore 5, 2) := by decide +kernel
theorem dX3_partOfFraction_7 : decode cX3_partOfFraction 7 = .ok (.lload 5, 2) := by decide +kernel
theorem dX3_partOfFraction_9 : decode cX3_partOfFraction 9 = .ok (.lconst 0, 1) := by decide +kernel
theorem dX3_partOfFraction_10 : decode cX3_partOfFraction 10 = .ok (.lcmp, 1) := by decide +kernel
theorem dX3_partOfFraction_11 : decode cX3_partOfFraction 11 = .ok (.ifCond .gt 14, 3) := by decide +kernel
theorem dX3_partOfFraction_14 : decode cX3_partOfFraction 14 = .ok (.iload 4, 2) := by decide +kernel
theorem dX3_partOfFraction_16 : decode cX3_partOfFraction 16 = .ok (.ifCond .ne 7, 3) := by decide +kernel
theorem dX3_partOfFraction_19 : decode cX3_partOfFraction 19 = .ok (.lconst 0, 1) := by decide +kernel
theorem dX3_partOfFraction_20 : decode cX3_partOfFraction 20 = .ok (.goto 4, 3) := by decide +kernel
theorem dX3_partOfFraction_23 : decode cX3_partOfFraction 23 = .ok (.lconst 1, 1) := by decide +kernel
theorem dX3_partOfFraction_24 : decode cX3_partOfFraction 24 = .ok (.lreturn, 1) := by decide +kernel
theorem dX3_partOfFraction_25 : decode cX3_partOfFraction 25 = .ok (.iload 4, 2) := by decide +kernel
theorem dX3_partOfFraction_27 : decode cX3_partOfFraction 27 = .ok (.ifCond .ne 7, 3) := by decide +kernel
theorem dX3_partOfFraction_30 : decode cX3_partOfFraction 30 = .ok (.lload_n 0, 1) := by decide +kernel
theorem dX3_partOfFraction_31 : decode cX3_partOfFraction 31 = .ok (.goto 4, 3) := by decide +kernel
theorem dX3_partOfFraction_34 : decode cX3_partOfFraction 34 = .ok (.lload_n 2, 1) := by decide +kernel
theorem dX3_partOfFraction_35 : decode cX3_partOfFraction 35 = .ok (.lload 5, 2) := by decide +kernel
theorem dX3_partOfFraction_37 : decode cX3_partOfFraction 37 = .ok (.ldiv, 1) := by decide +kernel
theorem dX3_partOfFraction_38 : decode cX3_partOfFraction 38 = .ok (.lreturn, 1) := by decide +kernel
theorem dX3_commonDivisor_0 : decode cX3_commonDivisor 0 = .ok (.lload_n 0, 1) := by decide +kernel
theorem dX3_commonDivisor_1 : decode cX3_commonDivisor 1 = .ok (.lstore 4, 2) := by decide +kernel
theorem dX3_commonDivisor_3 : decode cX3_commonDivisor 3 = .ok (.lload_n 2, 1) := by decide +kernel
theorem dX3_commonDivisor_4 : decode cX3_commonDivisor 4 = .ok (.lstore 6, 2) := by decide +kernel
theorem dX3_commonDivisor_6 : decode cX3_commonDivisor 6 = .ok (.iconst 0, 1) := by decide +kernel
theorem dX3_commonDivisor_7 : decode cX3_commonDivisor 7 = .ok (.istore 8, 2) := by decide +kernel
theorem dX3_commonDivisor_9 : decode cX3_commonDivisor 9 = .ok (.iload 8, 2) := by decide +kernel
theorem dX3_commonDivisor_11 : decode cX3_commonDivisor 11 = .ok (.sipush 200, 3) := by decide +kernel
theorem dX3_commonDivisor_14 : decode cX3_commonDivisor 14 = .ok (.if_icmp .ge 31, 3) := by decide +kernel
theorem dX3_commonDivisor_17 : decode cX3_commonDivisor 17 = .ok (.lload 6, 2) := by decide +kernel
theorem dX3_commonDivisor_19 : decode cX3_commonDivisor 19 = .ok (.lconst 0, 1) := by decide +kernel
theorem dX3_commonDivisor_20 : decode cX3_commonDivisor 20 = .ok (.lcmp, 1) := by decide +kernel
theorem dX3_commonDivisor_21 : decode cX3_commonDivisor 21 = .ok (.ifCond .eq 24, 3) := by decide +kernel
theorem dX3_commonDivisor_24 : decode cX3_commonDivisor 24 = .ok (.lload 4, 2) := by decide +kernel
theorem dX3_commonDivisor_26 : decode cX3_commonDivisor 26 = .ok (.lload 6, 2) := by decide +kernel
theorem dX3_commonDivisor_28 : decode cX3_commonDivisor 28 = .ok (.lrem, 1) := by decide +kernel
theorem dX3_commonDivisor_29 : decode cX3_commonDivisor 29 = .ok (.lstore 9, 2) := by decide +kernel
theorem dX3_commonDivisor_31 : decode cX3_commonDivisor 31 = .ok (.lload 6, 2) := by decide +kernel
theorem dX3_commonDivisor_33 : decode cX3_commonDivisor 33 = .ok (.lstore 4, 2) := by decide +kernel
theorem dX3_commonDivisor_35 : decode cX3_commonDivisor 35 = .ok (.lload 9, 2) := by decide +kernel
theorem dX3_commonDivisor_37 : decode cX3_commonDivisor 37 = .ok (.lstore 6, 2) := by decide +kernel
theorem dX3_commonDivisor_39 : decode cX3_commonDivisor 39 = .ok (.iinc 8 1, 3) := by decide +kernel
theorem dX3_commonDivisor_42 : decode cX3_commonDivisor 42 = .ok (.goto (-33), 3) := by decide +kernel
theorem dX3_commonDivisor_45 : decode cX3_commonDivisor 45 = .ok (.lload 4, 2) := by decide +kernel
theorem dX3_commonDivisor_47 : decode cX3_commonDivisor 47 = .ok (.lreturn, 1) := by decide +kernel
end
section
theorem dX4_init_0 : decode cX4_init 0 = .ok (.aload_n 0, 1) := by decide +kernel
theorem dX4_init_1 : decode cX4_init 1 = .ok (.invokespecial 1, 3) := by decide +kernel
theorem dX4_init_4 : decode cX4_init 4 = .ok (.aload_n 0, 1) := by decide +kernel
theorem dX4_init_5 : decode cX4_init 5 = .ok (.bipush 120, 2) := by decide +kernel
theorem dX4_init_7 : decode cX4_init 7 = .ok (.newarray .int, 2) := by decide +kernel
theorem dX4_init_9 : decode cX4_init 9 = .ok (.putfield 7, 3) := by decide +kernel
theorem dX4_init_12 : decode cX4_init 12 = .ok (.aload_n 0, 1) := by decide +kernel
theorem dX4_init_13 : decode cX4_init 13 = .ok (.iconst 4, 1) := by decide +kernel
theorem dX4_init_14 : decode cX4_init 14 = .ok (.newarray .int, 2) := by decide +kernel
theorem dX4_init_16 : decode cX4_init 16 = .ok (.putfield 13, 3) := by decide +kernel
theorem dX4_init_19 : decode cX4_init 19 = .ok (.aload_n 0, 1) := by decide +kernel
theorem dX4_init_20 : decode cX4_init 20 = .ok (.bipush 6, 2) := by decide +kernel
theorem dX4_init_22 : decode cX4_init 22 = .ok (.newarray .int, 2) := by decide +kernel
theorem dX4_init_24 : decode cX4_init 24 = .ok (.putfield 16, 3) := by decide +kernel
theorem dX4_init_27 : decode cX4_init 27 = .ok (.aload_n 0, 1) := by decide +kernel
theorem dX4_init_28 : decode cX4_init 28 = .ok (.bipush 20, 2) := by decide +kernel
theorem dX4_init_30 : decode cX4_init 30 = .ok (.putfield 19, 3) := by decide +kernel
theorem dX4_init_33 : decode cX4_init 33 = .ok (.aload_n 0, 1) := by decide +kernel
theorem dX4_init_34 : decode cX4_init 34 = .ok (.bipush 20, 2) := by decide +kernel
theorem dX4_init_36 : decode cX4_init 36 = .ok (.newarray .int, 2) := by decide +kernel
theorem dX4_init_38 : decode cX4_init 38 = .ok (.putfield 23, 3) := by decide +kernel
theorem dX4_init_41 : decode cX4_init 41 = .ok (.aload_n 0, 1) := by decide +kernel
theorem dX4_init_42 : decode cX4_init 42 = .ok (.iconst 4, 1) := by decide +kernel
theorem dX4_init_43 : decode cX4_init 43 = .ok (.newarray .int, 2) := by decide +kernel
theorem dX4_init_45 : decode cX4_init 45 = .ok (.putfield 26, 3) := by decide +kernel
theorem dX4_init_48 : decode cX4_init 48 = .ok (.aload_n 0, 1) := by decide +kernel
theorem dX4_init_49 : decode cX4_init 49 = .ok (.bipush 6, 2) := by decide +kernel
theorem dX4_init_51 : decode cX4_init 51 = .ok (.newarray .int, 2) := by decide +kernel
theorem dX4_init_53 : decode cX4_init 53 = .ok (.putfield 29, 3) := by decide +kernel
theorem dX4_init_56 : decode cX4_init 56 = .ok (.aload_n 0, 1) := by decide +kernel
theorem dX4_init_57 : decode cX4_init 57 = .ok (.sipush 160, 3) := by decide +kernel
theorem dX4_init_60 : decode cX4_init 60 = .ok (.newarray .int, 2) := by decide +kernel
theorem dX4_init_62 : decode cX4_init 62 = .ok (.putfield 32, 3) := by decide +kernel
theorem dX4_init_65 : decode cX4_init 65 = .ok (.aload_n 0, 1) := by decide +kernel
theorem dX4_init_66 : decode cX4_init 66 = .ok (.bipush 18, 2) := by decide +kernel
theorem dX4_init_68 : decode cX4_init 68 = .ok (.newarray .int, 2) := by decide +kernel
theorem dX4_init_70 : decode cX4_init 70 = .ok (.dup, 1) := by decide +kernel
theorem dX4_init_71 : decode cX4_init 71 = .ok (.iconst 0, 1) := by decide +kernel
theorem dX4_init_72 : decode cX4_init 72 = .ok (.iconst 0, 1) := by decide +kernel
theorem dX4_init_73 : decode cX4_init 73 = .ok (.iastore, 1) := by decide +kernel
theorem dX4_init_74 : decode cX4_init 74 = .ok (.dup, 1) := by decide +kernel
theorem dX4_init_75 : decode cX4_init 75 = .ok (.iconst 1, 1) := by decide +kernel
theorem dX4_init_76 : decode cX4_init 76 = .ok (.iconst 3, 1) := by decide +kernel
theorem dX4_init_77 : decode cX4_init 77 = .ok (.iastore, 1) := by decide +kernel
theorem dX4_init_78 : decode cX4_init 78 = .ok (.dup, 1) := by decide +kernel
theorem dX4_init_79 : decode cX4_init 79 = .ok (.iconst 2, 1) := by decide +kernel
theorem dX4_init_80 : decode cX4_init 80 = .ok (.bipush 9, 2) := by decide +kernel
theorem dX4_init_82 : decode cX4_init 82 = .ok (.iastore, 1) := by decide +kernel
theorem dX4_init_83 : decode cX4_init 83 = .ok (.dup, 1) := by decide +kernel
theorem dX4_init_84 : decode cX4_init 84 = .ok (.iconst 3, 1) := by decide +kernel
theorem dX4_init_85 : decode cX4_init 85 = .ok (.bipush 13, 2) := by decide +kernel
theorem dX4_init_87 : decode cX4_init 87 = .ok (.iastore, 1) := by decide +kernel
theorem dX4_init_88 : decode cX4_init 88 = .ok (.dup, 1) := by decide +kernel
theorem dX4_init_89 : decode cX4_init 89 = .ok (.iconst 4, 1) := by decide +kernel
theorem dX4_init_90 : decode cX4_init 90 = .ok (.bipush 17, 2) := by decide +kernel
theorem dX4_init_92 : decode cX4_init 92 = .ok (.iastore, 1) := by decide +kernel
theorem dX4_init_93 : decode cX4_init 93 = .ok (.dup, 1) := by decide +kernel
theorem dX4_init_94 : decode cX4_init 94 = .ok (.iconst 5, 1) := by decide +kernel
theorem dX4_init_95 : decode cX4_init 95 = .ok (.bipush 20, 2) := by decide +kernel
theorem dX4_init_97 : decode cX4_init 97 = .ok (.iastore, 1) := by decide +kernel
theorem dX4_init_98 : decode cX4_init 98 = .ok (.dup, 1) := by decide +kernel
theorem dX4_init_99 : decode cX4_init 99 = .ok (.bipush 6, 2) := by decide +kernel
theorem dX4_init_101 : decode cX4_init 101 = .ok (.bipush 25, 2) := by decide +kernel
theorem dX4_init_103 : decode cX4_init 103 = .ok (.iastore, 1) := by decide +kernel
theorem dX4_init_104 : decode cX4_init 104 = .ok (.dup, 1) := by decide +kernel
theorem dX4_init_105 : decode cX4_init 105 = .ok (.bipush 7, 2) := by decide +kernel
theorem dX4_init_107 : decode cX4_init 107 = .ok (.bipush 29, 2) := by decide +kernel
theorem dX4_init_109 : decode cX4_init 109 = .ok (.iastore, 1) := by decide +kernel
theorem dX4_init_110 : decode cX4_init 110 = .ok (.dup, 1) := by decide +kernel
theorem dX4_init_111 : decode cX4_init 111 = .ok (.bipush 8, 2) := by decide +kernel
theorem dX4_init_113 : decode cX4_init 113 = .ok (.bipush 32, 2) := by decide +kernel
theorem dX4_init_115 : decode cX4_init 115 = .ok (.iastore, 1) := by decide +kernel
theorem dX4_init_116 : decode cX4_init 116 = .ok (.dup, 1) := by decide +kernel
theorem dX4_init_117 : decode cX4_init 117 = .ok (.bipush 9, 2) := by decide +kernel
theorem dX4_init_119 : decode cX4_init 119 = .ok (.bipush 40, 2) := by decide +kernel
theorem dX4_init_121 : decode cX4_init 121 = .ok (.iastore, 1) := by decide +kernel
theorem dX4_init_122 : decode cX4_init 122 = .ok (.dup, 1) := by decide +kernel
theorem dX4_init_123 : decode cX4_init 123 = .ok (.bipush 10, 2) := by decide +kernel
theorem dX4_init_125 : decode cX4_init 125 = .ok (.bipush 47, 2) := by decide +kernel
theorem dX4_init_127 : decode cX4_init 127 = .ok (.iastore, 1) := by decide +kernel
theorem dX4_init_128 : decode cX4_init 128 = .ok (.dup, 1) := by decide +kernel
theorem dX4_init_129 : decode cX4_init 129 = .ok (.bipush 11, 2) := by decide +kernel
theorem dX4_init_131 : decode cX4_init 131 = .ok (.bipush 50, 2) := by decide +kernel
theorem dX4_init_133 : decode cX4_init 133 = .ok (.iastore, 1) := by decide +kernel
theorem dX4_init_134 : decode cX4_init 134 = .ok (.dup, 1) := by decide +kernel
theorem dX4_init_135 : decode cX4_init 135 = .ok (.bipush 12, 2) := by decide +kernel
theorem dX4_init_137 : decode cX4_init 137 = .ok (.bipush 54, 2) := by decide +kernel
theorem dX4_init_139 : decode cX4_init 139 = .ok (.iastore, 1) := by decide +kernel
theorem dX4_init_140 : decode cX4_init 140 = .ok (.dup, 1) := by decide +kernel
theorem dX4_init_141 : decode cX4_init 141 = .ok (.bipush 13, 2) := by decide +kernel
theorem dX4_init_143 : decode cX4_init 143 = .ok (.bipush 59, 2) := by decide +kernel
theorem dX4_init_145 : decode cX4_init 145 = .ok (.iastore, 1) := by decide +kernel
theorem dX4_init_146 : decode cX4_init 146 = .ok (.dup, 1) := by decide +kernel
theorem dX4_init_147 : decode cX4_init 147 = .ok (.bipush 14, 2) := by decide +kernel
theorem dX4_init_149 : decode cX4_init 149 = .ok (.bipush 64, 2) := by decide +kernel
theorem dX4_init_151 : decode cX4_init 151 = .ok (.iastore, 1) := by decide +kernel
theorem dX4_init_152 : decode cX4_init 152 = .ok (.dup, 1) := by decide +kernel
theorem dX4_init_153 : decode cX4_init 153 = .ok (.bipush 15, 2) := by decide +kernel
theorem dX4_init_155 : decode cX4_init 155 = .ok (.bipush 67, 2) := by decide +kernel
theorem dX4_init_157 : decode cX4_init 157 = .ok (.iastore, 1) := by decide +kernel
theorem dX4_init_158 : decode cX4_init 158 = .ok (.dup, 1) := by decide +kernel
theorem dX4_init_159 : decode cX4_init 159 = .ok (.bipush 16, 2) := by decide +kernel
theorem dX4_init_161 : decode cX4_init 161 = .ok (.bipush 70, 2) := by decide +kernel
theorem dX4_init_163 : decode cX4_init 163 = .ok (.iastore, 1) := by decide +kernel
theorem dX4_init_164 : decode cX4_init 164 = .ok (.dup, 1) := by decide +kernel
theorem dX4_init_165 : decode cX4_init 165 = .ok (.bipush 17, 2) := by decide +kernel
theorem dX4_init_167 : decode cX4_init 167 = .ok (.bipush 74, 2) := by decide +kernel
theorem dX4_init_169 : decode cX4_init 169 = .ok (.iastore, 1) := by decide +kernel
theorem dX4_init_170 : decode cX4_init 170 = .ok (.putfield 35, 3) := by decide +kernel
theorem dX4_init_173 : decode cX4_init 173 = .ok (.aload_n 0, 1) := by decide +kernel
theorem dX4_init_174 : decode cX4_init 174 = .ok (.bipush 74, 2) := by decide +kernel
theorem dX4_init_176 : decode cX4_init 176 = .ok (.newarray .int, 2) := by decide +kernel
theorem dX4_init_178 : decode cX4_init 178 = .ok (.dup, 1) := by decide +kernel
theorem dX4_init_179 : decode cX4_init 179 = .ok (.iconst 0, 1) := by decide +kernel
theorem dX4_init_180 : decode cX4_init 180 = .ok (.bipush 111, 2) := by decide +kernel
theorem dX4_init_182 : decode cX4_init 182 = .ok (.iastore, 1) := by decide +kernel
theorem dX4_init_183 : decode cX4_init 183 = .ok (.dup, 1) := by decide +kernel
theorem dX4_init_184 : decode cX4_init 184 = .ok (.iconst 1, 1) := by decide +kernel
theorem dX4_init_185 : decode cX4_init 185 = .ok (.bipush 110, 2) := by decide +kernel
theorem dX4_init_187 : decode cX4_init 187 = .ok (.iastore, 1) := by decide +kernel
theorem dX4_init_188 : decode cX4_init 188 = .ok (.dup, 1) := by decide +kernel
theorem dX4_init_189 : decode cX4_init 189 = .ok (.iconst 2, 1) := by decide +kernel
theorem dX4_init_190 : decode cX4_init 190 = .ok (.bipush 101, 2) := by decide +kernel
theorem dX4_init_192 : decode cX4_init 192 = .ok (.iastore, 1) := by decide +kernel
theorem dX4_init_193 : decode cX4_init 193 = .ok (.dup, 1) := by decide +kernel
theorem dX4_init_194 : decode cX4_init 194 = .ok (.iconst 3, 1) := by decide +kernel
theorem dX4_init_195 : decode cX4_init 195 = .ok (.bipush 98, 2) := by decide +kernel
theorem dX4_init_197 : decode cX4_init 197 = .ok (.iastore, 1) := by decide +kernel
theorem dX4_init_198 : decode cX4_init 198 = .ok (.dup, 1) := by decide +kernel
theorem dX4_init_199 : decode cX4_init 199 = .ok (.iconst 4, 1) := by decide +kernel
theorem dX4_init_200 : decode cX4_init 200 = .ok (.bipush 111, 2) := by decide +kernel
theorem dX4_init_202 : decode cX4_init 202 = .ok (.iastore, 1) := by decide +kernel
theorem dX4_init_203 : decode cX4_init 203 = .ok (.dup, 1) := by decide +kernel
theorem dX4_init_204 : decode cX4_init 204 = .ok (.iconst 5, 1) := by decide +kernel
theorem dX4_init_205 : decode cX4_init 205 = .ok (.bipush 116, 2) := by decide +kernel
theorem dX4_init_207 : decode cX4_init 207 = .ok (.iastore, 1) := by decide +kernel
theorem dX4_init_208 : decode cX4_init 208 = .ok (.dup, 1) := by decide +kernel
theorem dX4_init_209 : decode cX4_init 209 = .ok (.bipush 6, 2) := by decide +kernel
theorem dX4_init_211 : decode cX4_init 211 = .ok (.bipush 116, 2) := by decide +kernel
theorem dX4_init_213 : decode cX4_init 213 = .ok (.iastore, 1) := by decide +kernel
theorem dX4_init_214 : decode cX4_init 214 = .ok (.dup, 1) := by decide +kernel
theorem dX4_init_215 : decode cX4_init 215 = .ok (.bipush 7, 2) := by decide +kernel
theorem dX4_init_217 : decode cX4_init 217 = .ok (.bipush 108, 2) := by decide +kernel
theorem dX4_init_219 : decode cX4_init 219 = .ok (.iastore, 1) := by decide +kernel
theorem dX4_init_220 : decode cX4_init 220 = .ok (.dup, 1) := by decide +kernel
theorem dX4_init_221 : decode cX4_init 221 = .ok (.bipush 8, 2) := by decide +kernel
theorem dX4_init_223 : decode cX4_init 223 = .ok (.bipush 101, 2) := by decide +kernel
theorem dX4_init_225 : decode cX4_init 225 = .ok (.iastore, 1) := by decide +kernel
theorem dX4_init_226 : decode cX4_init 226 = .ok (.dup, 1) := by decide +kernel
theorem dX4_init_227 : decode cX4_init 227 = .ok (.bipush 9, 2) := by decide +kernel
theorem dX4_init_229 : decode cX4_init 229 = .ok (.bipush 103, 2) := by decide +kernel
theorem dX4_init_231 : decode cX4_init 231 = .ok (.iastore, 1) := by decide +kernel
theorem dX4_init_232 : decode cX4_init 232 = .ok (.dup, 1) := by decide +kernel
theorem dX4_init_233 : decode cX4_init 233 = .ok (.bipush 10, 2) := by decide +kernel
theorem dX4_init_235 : decode cX4_init 235 = .ok (.bipush 111, 2) := by decide +kernel
theorem dX4_init_237 : decode cX4_init 237 = .ok (.iastore, 1) := by decide +kernel
theorem dX4_init_238 : decode cX4_init 238 = .ok (.dup, 1) := by decide +kernel
theorem dX4_init_239 : decode cX4_init 239 = .ok (.bipush 11, 2) := by decide +kernel
theorem dX4_init_241 : decode cX4_init 241 = .ok (.bipush 97, 2) := by decide +kernel
theorem dX4_init_243 : decode cX4_init 243 = .ok (.iastore, 1) := by decide +kernel
theorem dX4_init_244 : decode cX4_init 244 = .ok (.dup, 1) := by decide +kernel
theorem dX4_init_245 : decode cX4_init 245 = .ok (.bipush 12, 2) := by decide +kernel
theorem dX4_init_247 : decode cX4_init 247 = .ok (.bipush 108, 2) := by decide +kernel
theorem dX4_init_249 : decode cX4_init 249 = .ok (.iastore, 1) := by decide +kernel
theorem dX4_init_250 : decode cX4_init 250 = .ok (.dup, 1) := by decide +kernel
theorem dX4_init_251 : decode cX4_init 251 = .ok (.bipush 13, 2) := by decide +kernel
theorem dX4_init_253 : decode cX4_init 253 = .ok (.bipush 112, 2) := by decide +kernel
theorem dX4_init_255 : decode cX4_init 255 = .ok (.iastore, 1) := by decide +kernel
theorem dX4_init_256 : decode cX4_init 256 = .ok (.dup, 1) := by decide +kernel
theorem dX4_init_257 : decode cX4_init 257 = .ok (.bipush 14, 2) := by decide +kernel
theorem dX4_init_259 : decode cX4_init 259 = .ok (.bipush 108, 2) := by decide +kernel
theorem dX4_init_261 : decode cX4_init 261 = .ok (.iastore, 1) := by decide +kernel
theorem dX4_init_262 : decode cX4_init 262 = .ok (.dup, 1) := by decide +kernel
theorem dX4_init_263 : decode cX4_init 263 = .ok (.bipush 15, 2) := by decide +kernel
theorem dX4_init_265 : decode cX4_init 265 = .ok (.bipush 97, 2) := by decide +kernel
theorem dX4_init_267 : decode cX4_init 267 = .ok (.iastore, 1) := by decide +kernel
theorem dX4_init_268 : decode cX4_init 268 = .ok (.dup, 1) := by decide +kernel
theorem dX4_init_269 : decode cX4_init 269 = .ok (.bipush 16, 2) := by decide +kernel
theorem dX4_init_271 : decode cX4_init 271 = .ok (.bipush 110, 2) := by decide +kernel
theorem dX4_init_273 : decode cX4_init 273 = .ok (.iastore, 1) := by decide +kernel
theorem dX4_init_274 : decode cX4_init 274 = .ok (.dup, 1) := by decide +kernel
theorem dX4_init_275 : decode cX4_init 275 = .ok (.bipush 17, 2) := by decide +kernel
theorem dX4_init_277 : decode cX4_init 277 = .ok (.bipush 100, 2) := by decide +kernel
theorem dX4_init_279 : decode cX4_init 279 = .ok (.iastore, 1) := by decide +kernel
theorem dX4_init_280 : decode cX4_init 280 = .ok (.dup, 1) := by decide +kernel
theorem dX4_init_281 : decode cX4_init 281 = .ok (.bipush 18, 2) := by decide +kernel
theorem dX4_init_283 : decode cX4_init 283 = .ok (.bipush 101, 2) := by decide +kernel
theorem dX4_init_285 : decode cX4_init 285 = .ok (.iastore, 1) := by decide +kernel
theorem dX4_init_286 : decode cX4_init 286 = .ok (.dup, 1) := by decide +kernel
theorem dX4_init_287 : decode cX4_init 287 = .ok (.bipush 19, 2) := by decide +kernel
theorem dX4_init_289 : decode cX4_init 289 = .ok (.bipush 119, 2) := by decide +kernel
theorem dX4_init_291 : decode cX4_init 291 = .ok (.iastore, 1) := by decide +kernel
theorem dX4_init_292 : decode cX4_init 292 = .ok (.dup, 1) := by decide +kernel
theorem dX4_init_293 : decode cX4_init 293 = .ok (.bipush 20, 2) := by decide +kernel
theorem dX4_init_295 : decode cX4_init 295 = .ok (.bipush 102, 2) := by decide +kernel
theorem dX4_init_297 : decode cX4_init 297 = .ok (.iastore, 1) := by decide +kernel
theorem dX4_init_298 : decode cX4_init 298 = .ok (.dup, 1) := by decide +kernel
theorem dX4_init_299 : decode cX4_init 299 = .ok (.bipush 21, 2) := by decide +kernel
theorem dX4_init_301 : decode cX4_init 301 = .ok (.bipush 111, 2) := by decide +kernel
theorem dX4_init_303 : decode cX4_init 303 = .ok (.iastore, 1) := by decide +kernel
theorem dX4_init_304 : decode cX4_init 304 = .ok (.dup, 1) := by decide +kernel
theorem dX4_init_305 : decode cX4_init 305 = .ok (.bipush 22, 2) := by decide +kernel
theorem dX4_init_307 : decode cX4_init 307 = .ok (.bipush 117, 2) := by decide +kernel
theorem dX4_init_309 : decode cX4_init 309 = .ok (.iastore, 1) := by decide +kernel
theorem dX4_init_310 : decode cX4_init 310 = .ok (.dup, 1) := by decide +kernel
theorem dX4_init_311 : decode cX4_init 311 = .ok (.bipush 23, 2) := by decide +kernel
theorem dX4_init_313 : decode cX4_init 313 = .ok (.bipush 110, 2) := by decide +kernel
theorem dX4_init_315 : decode cX4_init 315 = .ok (.iastore, 1) := by decide +kernel
theorem dX4_init_316 : decode cX4_init 316 = .ok (.dup, 1) := by decide +kernel
theorem dX4_init_317 : decode cX4_init 317 = .ok (.bipush 24, 2) := by decide +kernel
theorem dX4_init_319 : decode cX4_init 319 = .ok (.bipush 100, 2) := by decide +kernel
theorem dX4_init_321 : decode cX4_init 321 = .ok (.iastore, 1) := by decide +kernel
theorem dX4_init_322 : decode cX4_init 322 = .ok (.dup, 1) := by decide +kernel
theorem dX4_init_323 : decode cX4_init 323 = .ok (.bipush 25, 2) := by decide +kernel
theorem dX4_init_325 : decode cX4_init 325 = .ok (.bipush 119, 2) := by decide +kernel
theorem dX4_init_327 : decode cX4_init 327 = .ok (.iastore, 1) := by decide +kernel
theorem dX4_init_328 : decode cX4_init 328 = .ok (.dup, 1) := by decide +kernel
theorem dX4_init_329 : decode cX4_init 329 = .ok (.bipush 26, 2) := by decide +kernel
theorem dX4_init_331 : decode cX4_init 331 = .ok (.bipush 101, 2) := by decide +kernel
theorem dX4_init_333 : decode cX4_init 333 = .ok (.iastore, 1) := by decide +kernel
theorem dX4_init_334 : decode cX4_init 334 = .ok (.dup, 1) := by decide +kernel
theorem dX4_init_335 : decode cX4_init 335 = .ok (.bipush 27, 2) := by decide +kernel
theorem dX4_init_337 : decode cX4_init 337 = .ok (.bipush 108, 2) := by decide +kernel
theorem dX4_init_339 : decode cX4_init 339 = .ok (.iastore, 1) := by decide +kernel
theorem dX4_init_340 : decode cX4_init 340 = .ok (.dup, 1) := by decide +kernel
theorem dX4_init_341 : decode cX4_init 341 = .ok (.bipush 28, 2) := by decide +kernel
theorem dX4_init_343 : decode cX4_init 343 = .ok (.bipush 108, 2) := by decide +kernel
theorem dX4_init_345 : decode cX4_init 345 = .ok (.iastore, 1) := by decide +kernel
theorem dX4_init_346 : decode cX4_init 346 = .ok (.dup, 1) := by decide +kernel
theorem dX4_init_347 : decode cX4_init 347 = .ok (.bipush 29, 2) := by decide +kernel
theorem dX4_init_349 : decode cX4_init 349 = .ok (.bipush 100, 2) := by decide +kernel
theorem dX4_init_351 : decode cX4_init 351 = .ok (.iastore, 1) := by decide +kernel
theorem dX4_init_352 : decode cX4_init 352 = .ok (.dup, 1) := by decide +kernel
theorem dX4_init_353 : decode cX4_init 353 = .ok (.bipush 30, 2) := by decide +kernel
theorem dX4_init_355 : decode cX4_init 355 = .ok (.bipush 114, 2) := by decide +kernel
theorem dX4_init_357 : decode cX4_init 357 = .ok (.iastore, 1) := by decide +kernel
theorem dX4_init_358 : decode cX4_init 358 = .ok (.dup, 1) := by decide +kernel
theorem dX4_init_359 : decode cX4_init 359 = .ok (.bipush 31, 2) := by decide +kernel
theorem dX4_init_361 : decode cX4_init 361 = .ok (.bipush 121, 2) := by decide +kernel
theorem dX4_init_363 : decode cX4_init 363 = .ok (.iastore, 1) := by decide +kernel
theorem dX4_init_364 : decode cX4_init 364 = .ok (.dup, 1) := by decide +kernel
theorem dX4_init_365 : decode cX4_init 365 = .ok (.bipush 32, 2) := by decide +kernel
theorem dX4_init_367 : decode cX4_init 367 = .ok (.bipush 109, 2) := by decide +kernel
theorem dX4_init_369 : decode cX4_init 369 = .ok (.iastore, 1) := by decide +kernel
theorem dX4_init_370 : decode cX4_init 370 = .ok (.dup, 1) := by decide +kernel
theorem dX4_init_371 : decode cX4_init 371 = .ok (.bipush 33, 2) := by decide +kernel
theorem dX4_init_373 : decode cX4_init 373 = .ok (.bipush 101, 2) := by decide +kernel
theorem dX4_init_375 : decode cX4_init 375 = .ok (.iastore, 1) := by decide +kernel
theorem dX4_init_376 : decode cX4_init 376 = .ok (.dup, 1) := by decide +kernel
theorem dX4_init_377 : decode cX4_init 377 = .ok (.bipush 34, 2) := by decide +kernel
theorem dX4_init_379 : decode cX4_init 379 = .ok (.bipush 97, 2) := by decide +kernel
theorem dX4_init_381 : decode cX4_init 381 = .ok (.iastore, 1) := by decide +kernel
theorem dX4_init_382 : decode cX4_init 382 = .ok (.dup, 1) := by decide +kernel
theorem dX4_init_383 : decode cX4_init 383 = .ok (.bipush 35, 2) := by decide +kernel
theorem dX4_init_385 : decode cX4_init 385 = .ok (.bipush 115, 2) := by decide +kernel
theorem dX4_init_387 : decode cX4_init 387 = .ok (.iastore, 1) := by decide +kernel
theorem dX4_init_388 : decode cX4_init 388 = .ok (.dup, 1) := by decide +kernel
theorem dX4_init_389 : decode cX4_init 389 = .ok (.bipush 36, 2) := by decide +kernel
theorem dX4_init_391 : decode cX4_init 391 = .ok (.bipush 117, 2) := by decide +kernel
theorem dX4_init_393 : decode cX4_init 393 = .ok (.iastore, 1) := by decide +kernel
theorem dX4_init_394 : decode cX4_init 394 = .ok (.dup, 1) := by decide +kernel
theorem dX4_init_395 : decode cX4_init 395 = .ok (.bipush 37, 2) := by decide +kernel
theorem dX4_init_397 : decode cX4_init 397 = .ok (.bipush 114, 2) := by decide +kernel
theorem dX4_init_399 : decode cX4_init 399 = .ok (.iastore, 1) := by decide +kernel
theorem dX4_init_400 : decode cX4_init 400 = .ok (.dup, 1) := by decide +kernel
theorem dX4_init_401 : decode cX4_init 401 = .ok (.bipush 38, 2) := by decide +kernel
theorem dX4_init_403 : decode cX4_init 403 = .ok (.bipush 101, 2) := by decide +kernel
theorem dX4_init_405 : decode cX4_init 405 = .ok (.iastore, 1) := by decide +kernel
theorem dX4_init_406 : decode cX4_init 406 = .ok (.dup, 1) := by decide +kernel
theorem dX4_init_407 : decode cX4_init 407 = .ok (.bipush 39, 2) := by decide +kernel
theorem dX4_init_409 : decode cX4_init 409 = .ok (.bipush 100, 2) := by decide +kernel
theorem dX4_init_411 : decode cX4_init 411 = .ok (.iastore, 1) := by decide +kernel
theorem dX4_init_412 : decode cX4_init 412 = .ok (.dup, 1) := by decide +kernel
theorem dX4_init_413 : decode cX4_init 413 = .ok (.bipush 40, 2) := by decide +kernel
theorem dX4_init_415 : decode cX4_init 415 = .ok (.bipush 116, 2) := by decide +kernel
theorem dX4_init_417 : decode cX4_init 417 = .ok (.iastore, 1) := by decide +kernel
theorem dX4_init_418 : decode cX4_init 418 = .ok (.dup, 1) := by decide +kernel
theorem dX4_init_419 : decode cX4_init 419 = .ok (.bipush 41, 2) := by decide +kernel
theorem dX4_init_421 : decode cX4_init 421 = .ok (.bipush 104, 2) := by decide +kernel
theorem dX4_init_423 : decode cX4_init 423 = .ok (.iastore, 1) := by decide +kernel
theorem dX4_init_424 : decode cX4_init 424 = .ok (.dup, 1) := by decide +kernel
theorem dX4_init_425 : decode cX4_init 425 = .ok (.bipush 42, 2) := by decide +kernel
theorem dX4_init_427 : decode cX4_init 427 = .ok (.bipush 105, 2) := by decide +kernel
theorem dX4_init_429 : decode cX4_init 429 = .ok (.iastore, 1) := by decide +kernel
theorem dX4_init_430 : decode cX4_init 430 = .ok (.dup, 1) := by decide +kernel
theorem dX4_init_431 : decode cX4_init 431 = .ok (.bipush 43, 2) := by decide +kernel
theorem dX4_init_433 : decode cX4_init 433 = .ok (.bipush 114, 2) := by decide +kernel
theorem dX4_init_435 : decode cX4_init 435 = .ok (.iastore, 1) := by decide +kernel
theorem dX4_init_436 : decode cX4_init 436 = .ok (.dup, 1) := by decide +kernel
theorem dX4_init_437 : decode cX4_init 437 = .ok (.bipush 44, 2) := by decide +kernel
theorem dX4_init_439 : decode cX4_init 439 = .ok (.bipush 115, 2) := by decide +kernel
theorem dX4_init_441 : decode cX4_init 441 = .ok (.iastore, 1) := by decide +kernel
theorem dX4_init_442 : decode cX4_init 442 = .ok (.dup, 1) := by decide +kernel
theorem dX4_init_443 : decode cX4_init 443 = .ok (.bipush 45, 2) := by decide +kernel
theorem dX4_init_445 : decode cX4_init 445 = .ok (.bipush 116, 2) := by decide +kernel
theorem dX4_init_447 : decode cX4_init 447 = .ok (.iastore, 1) := by decide +kernel
theorem dX4_init_448 : decode cX4_init 448 = .ok (.dup, 1) := by decide +kernel
theorem dX4_init_449 : decode cX4_init 449 = .ok (.bipush 46, 2) := by decide +kernel
theorem dX4_init_451 : decode cX4_init 451 = .ok (.bipush 121, 2) := by decide +kernel
theorem dX4_init_453 : decode cX4_init 453 = .ok (.iastore, 1) := by decide +kernel
theorem dX4_init_454 : decode cX4_init 454 = .ok (.dup, 1) := by decide +kernel
theorem dX4_init_455 : decode cX4_init 455 = .ok (.bipush 47, 2) := by decide +kernel
theorem dX4_init_457 : decode cX4_init 457 = .ok (.bipush 115, 2) := by decide +kernel
theorem dX4_init_459 : decode cX4_init 459 = .ok (.iastore, 1) := by decide +kernel
theorem dX4_init_460 : decode cX4_init 460 = .ok (.dup, 1) := by decide +kernel
theorem dX4_init_461 : decode cX4_init 461 = .ok (.bipush 48, 2) := by decide +kernel
theorem dX4_init_463 : decode cX4_init 463 = .ok (.bipush 108, 2) := by decide +kernel
theorem dX4_init_465 : decode cX4_init 465 = .ok (.iastore, 1) := by decide +kernel
theorem dX4_init_466 : decode cX4_init 466 = .ok (.dup, 1) := by decide +kernel
theorem dX4_init_467 : decode cX4_init 467 = .ok (.bipush 49, 2) := by decide +kernel
theorem dX4_init_469 : decode cX4_init 469 = .ok (.bipush 121, 2) := by decide +kernel
theorem dX4_init_471 : decode cX4_init 471 = .ok (.iastore, 1) := by decide +kernel
theorem dX4_init_472 : decode cX4_init 472 = .ok (.dup, 1) := by decide +kernel
theorem dX4_init_473 : decode cX4_init 473 = .ok (.bipush 50, 2) := by decide +kernel
theorem dX4_init_475 : decode cX4_init 475 = .ok (.bipush 108, 2) := by decide +kernel
theorem dX4_init_477 : decode cX4_init 477 = .ok (.iastore, 1) := by decide +kernel
theorem dX4_init_478 : decode cX4_init 478 = .ok (.dup, 1) := by decide +kernel
theorem dX4_init_479 : decode cX4_init 479 = .ok (.bipush 51, 2) := by decide +kernel
theorem dX4_init_481 : decode cX4_init 481 = .ok (.bipush 97, 2) := by decide +kernel
theorem dX4_init_483 : decode cX4_init 483 = .ok (.iastore, 1) := by decide +kernel
theorem dX4_init_484 : decode cX4_init 484 = .ok (.dup, 1) := by decide +kernel
theorem dX4_init_485 : decode cX4_init 485 = .ok (.bipush 52, 2) := by decide +kernel
theorem dX4_init_487 : decode cX4_init 487 = .ok (.bipush 115, 2) := by decide +kernel
theorem dX4_init_489 : decode cX4_init 489 = .ok (.iastore, 1) := by decide +kernel
theorem dX4_init_490 : decode cX4_init 490 = .ok (.dup, 1) := by decide +kernel
theorem dX4_init_491 : decode cX4_init 491 = .ok (.bipush 53, 2) := by decide +kernel
theorem dX4_init_493 : decode cX4_init 493 = .ok (.bipush 116, 2) := by decide +kernel
theorem dX4_init_495 : decode cX4_init 495 = .ok (.iastore, 1) := by decide +kernel
theorem dX4_init_496 : decode cX4_init 496 = .ok (.dup, 1) := by decide +kernel
theorem dX4_init_497 : decode cX4_init 497 = .ok (.bipush 54, 2) := by decide +kernel
theorem dX4_init_499 : decode cX4_init 499 = .ok (.bipush 103, 2) := by decide +kernel
theorem dX4_init_501 : decode cX4_init 501 = .ok (.iastore, 1) := by decide +kernel
theorem dX4_init_502 : decode cX4_init 502 = .ok (.dup, 1) := by decide +kernel
theorem dX4_init_503 : decode cX4_init 503 = .ok (.bipush 55, 2) := by decide +kernel
theorem dX4_init_505 : decode cX4_init 505 = .ok (.bipush 105, 2) := by decide +kernel
theorem dX4_init_507 : decode cX4_init 507 = .ok (.iastore, 1) := by decide +kernel
theorem dX4_init_508 : decode cX4_init 508 = .ok (.dup, 1) := by decide +kernel
theorem dX4_init_509 : decode cX4_init 509 = .ok (.bipush 56, 2) := by decide +kernel
theorem dX4_init_511 : decode cX4_init 511 = .ok (.bipush 118, 2) := by decide +kernel
theorem dX4_init_513 : decode cX4_init 513 = .ok (.iastore, 1) := by decide +kernel
theorem dX4_init_514 : decode cX4_init 514 = .ok (.dup, 1) := by decide +kernel
theorem dX4_init_515 : decode cX4_init 515 = .ok (.bipush 57, 2) := by decide +kernel
theorem dX4_init_517 : decode cX4_init 517 = .ok (.bipush 101, 2) := by decide +kernel
theorem dX4_init_519 : decode cX4_init 519 = .ok (.iastore, 1) := by decide +kernel
theorem dX4_init_520 : decode cX4_init 520 = .ok (.dup, 1) := by decide +kernel
theorem dX4_init_521 : decode cX4_init 521 = .ok (.bipush 58, 2) := by decide +kernel
theorem dX4_init_523 : decode cX4_init 523 = .ok (.bipush 114, 2) := by decide +kernel
theorem dX4_init_525 : decode cX4_init 525 = .ok (.iastore, 1) := by decide +kernel
theorem dX4_init_526 : decode cX4_init 526 = .ok (.dup, 1) := by decide +kernel
theorem dX4_init_527 : decode cX4_init 527 = .ok (.bipush 59, 2) := by decide +kernel
theorem dX4_init_529 : decode cX4_init 529 = .ok (.bipush 110, 2) := by decide +kernel
theorem dX4_init_531 : decode cX4_init 531 = .ok (.iastore, 1) := by decide +kernel
theorem dX4_init_532 : decode cX4_init 532 = .ok (.dup, 1) := by decide +kernel
theorem dX4_init_533 : decode cX4_init 533 = .ok (.bipush 60, 2) := by decide +kernel
theorem dX4_init_535 : decode cX4_init 535 = .ok (.bipush 105, 2) := by decide +kernel
theorem dX4_init_537 : decode cX4_init 537 = .ok (.iastore, 1) := by decide +kernel
theorem dX4_init_538 : decode cX4_init 538 = .ok (.dup, 1) := by decide +kernel
theorem dX4_init_539 : decode cX4_init 539 = .ok (.bipush 61, 2) := by decide +kernel
theorem dX4_init_541 : decode cX4_init 541 = .ok (.bipush 103, 2) := by decide +kernel
theorem dX4_init_543 : decode cX4_init 543 = .ok (.iastore, 1) := by decide +kernel
theorem dX4_init_544 : decode cX4_init 544 = .ok (.dup, 1) := by decide +kernel
theorem dX4_init_545 : decode cX4_init 545 = .ok (.bipush 62, 2) := by decide +kernel
theorem dX4_init_547 : decode cX4_init 547 = .ok (.bipush 104, 2) := by decide +kernel
theorem dX4_init_549 : decode cX4_init 549 = .ok (.iastore, 1) := by decide +kernel
theorem dX4_init_550 : decode cX4_init 550 = .ok (.dup, 1) := by decide +kernel
theorem dX4_init_551 : decode cX4_init 551 = .ok (.bipush 63, 2) := by decide +kernel
theorem dX4_init_553 : decode cX4_init 553 = .ok (.bipush 116, 2) := by decide +kernel
theorem dX4_init_555 : decode cX4_init 555 = .ok (.iastore, 1) := by decide +kernel
theorem dX4_init_556 : decode cX4_init 556 = .ok (.dup, 1) := by decide +kernel
theorem dX4_init_557 : decode cX4_init 557 = .ok (.bipush 64, 2) := by decide +kernel
theorem dX4_init_559 : decode cX4_init 559 = .ok (.bipush 100, 2) := by decide +kernel
theorem dX4_init_561 : decode cX4_init 561 = .ok (.iastore, 1) := by decide +kernel
theorem dX4_init_562 : decode cX4_init 562 = .ok (.dup, 1) := by decide +kernel
theorem dX4_init_563 : decode cX4_init 563 = .ok (.bipush 65, 2) := by decide +kernel
theorem dX4_init_565 : decode cX4_init 565 = .ok (.bipush 97, 2) := by decide +kernel
theorem dX4_init_567 : decode cX4_init 567 = .ok (.iastore, 1) := by decide +kernel
theorem dX4_init_568 : decode cX4_init 568 = .ok (.dup, 1) := by decide +kernel
theorem dX4_init_569 : decode cX4_init 569 = .ok (.bipush 66, 2) := by decide +kernel
theorem dX4_init_571 : decode cX4_init 571 = .ok (.bipush 121, 2) := by decide +kernel
theorem dX4_init_573 : decode cX4_init 573 = .ok (.iastore, 1) := by decide +kernel
theorem dX4_init_574 : decode cX4_init 574 = .ok (.dup, 1) := by decide +kernel
theorem dX4_init_575 : decode cX4_init 575 = .ok (.bipush 67, 2) := by decide +kernel
theorem dX4_init_577 : decode cX4_init 577 = .ok (.bipush 97, 2) := by decide +kernel
theorem dX4_init_579 : decode cX4_init 579 = .ok (.iastore, 1) := by decide +kernel
theorem dX4_init_580 : decode cX4_init 580 = .ok (.dup, 1) := by decide +kernel
theorem dX4_init_581 : decode cX4_init 581 = .ok (.bipush 68, 2) := by decide +kernel
theorem dX4_init_583 : decode cX4_init 583 = .ok (.bipush 108, 2) := by decide +kernel
theorem dX4_init_585 : decode cX4_init 585 = .ok (.iastore, 1) := by decide +kernel
theorem dX4_init_586 : decode cX4_init 586 = .ok (.dup, 1) := by decide +kernel
theorem dX4_init_587 : decode cX4_init 587 = .ok (.bipush 69, 2) := by decide +kernel
theorem dX4_init_589 : decode cX4_init 589 = .ok (.bipush 108, 2) := by decide +kernel
theorem dX4_init_591 : decode cX4_init 591 = .ok (.iastore, 1) := by decide +kernel
theorem dX4_init_592 : decode cX4_init 592 = .ok (.dup, 1) := by decide +kernel
theorem dX4_init_593 : decode cX4_init 593 = .ok (.bipush 70, 2) := by decide +kernel
theorem dX4_init_595 : decode cX4_init 595 = .ok (.bipush 115, 2) := by decide +kernel
theorem dX4_init_597 : decode cX4_init 597 = .ok (.iastore, 1) := by decide +kernel
theorem dX4_init_598 : decode cX4_init 598 = .ok (.dup, 1) := by decide +kernel
theorem dX4_init_599 : decode cX4_init 599 = .ok (.bipush 71, 2) := by decide +kernel
theorem dX4_init_601 : decode cX4_init 601 = .ok (.bipush 116, 2) := by decide +kernel
theorem dX4_init_603 : decode cX4_init 603 = .ok (.iastore, 1) := by decide +kernel
theorem dX4_init_604 : decode cX4_init 604 = .ok (.dup, 1) := by decide +kernel
theorem dX4_init_605 : decode cX4_init 605 = .ok (.bipush 72, 2) := by decide +kernel
theorem dX4_init_607 : decode cX4_init 607 = .ok (.bipush 97, 2) := by decide +kernel
theorem dX4_init_609 : decode cX4_init 609 = .ok (.iastore, 1) := by decide +kernel
theorem dX4_init_610 : decode cX4_init 610 = .ok (.dup, 1) := by decide +kernel
theorem dX4_init_611 : decode cX4_init 611 = .ok (.bipush 73, 2) := by decide +kernel
theorem dX4_init_613 : decode cX4_init 613 = .ok (.bipush 121, 2) := by decide +kernel
theorem dX4_init_615 : decode cX4_init 615 = .ok (.iastore, 1) := by decide +kernel
theorem dX4_init_616 : decode cX4_init 616 = .ok (.putfield 38, 3) := by decide +kernel
theorem dX4_init_619 : decode cX4_init 619 = .ok (.aload_n 0, 1) := by decide +kernel
theorem dX4_init_620 : decode cX4_init 620 = .ok (.bipush 12, 2) := by decide +kernel
theorem dX4_init_622 : decode cX4_init 622 = .ok (.newarray .int, 2) := by decide +kernel
theorem dX4_init_624 : decode cX4_init 624 = .ok (.putfield 41, 3) := by decide +kernel
theorem dX4_init_627 : decode cX4_init 627 = .ok (.aload_n 0, 1) := by decide +kernel
theorem dX4_init_628 : decode cX4_init 628 = .ok (.iconst 2, 1) := by decide +kernel
theorem dX4_init_629 : decode cX4_init 629 = .ok (.newarray .boolean, 2) := by decide +kernel
theorem dX4_init_631 : decode cX4_init 631 = .ok (.putfield 44, 3) := by decide +kernel
theorem dX4_init_634 : decode cX4_init 634 = .ok (.aload_n 0, 1) := by decide +kernel
theorem dX4_init_635 : decode cX4_init 635 = .ok (.iconst 4, 1) := by decide +kernel
theorem dX4_init_636 : decode cX4_init 636 = .ok (.newarray .int, 2) := by decide +kernel
theorem dX4_init_638 : decode cX4_init 638 = .ok (.dup, 1) := by decide +kernel
theorem dX4_init_639 : decode cX4_init 639 = .ok (.iconst 0, 1) := by decide +kernel
theorem dX4_init_640 : decode cX4_init 640 = .ok (.bipush (-4), 2) := by decide +kernel
theorem dX4_init_642 : decode cX4_init 642 = .ok (.iastore, 1) := by decide +kernel
theorem dX4_init_643 : decode cX4_init 643 = .ok (.dup, 1) := by decide +kernel
theorem dX4_init_644 : decode cX4_init 644 = .ok (.iconst 1, 1) := by decide +kernel
theorem dX4_init_645 : decode cX4_init 645 = .ok (.bipush (-4), 2) := by decide +kernel
theorem dX4_init_647 : decode cX4_init 647 = .ok (.iastore, 1) := by decide +kernel
theorem dX4_init_648 : decode cX4_init 648 = .ok (.dup, 1) := by decide +kernel
theorem dX4_init_649 : decode cX4_init 649 = .ok (.iconst 2, 1) := by decide +kernel
theorem dX4_init_650 : decode cX4_init 650 = .ok (.bipush (-4), 2) := by decide +kernel
theorem dX4_init_652 : decode cX4_init 652 = .ok (.iastore, 1) := by decide +kernel
theorem dX4_init_653 : decode cX4_init 653 = .ok (.dup, 1) := by decide +kernel
theorem dX4_init_654 : decode cX4_init 654 = .ok (.iconst 3, 1) := by decide +kernel
theorem dX4_init_655 : decode cX4_init 655 = .ok (.bipush (-4), 2) := by decide +kernel
theorem dX4_init_657 : decode cX4_init 657 = .ok (.iastore, 1) := by decide +kernel
theorem dX4_init_658 : decode cX4_init 658 = .ok (.putfield 48, 3) := by decide +kernel
theorem dX4_init_661 : decode cX4_init 661 = .ok (.aload_n 0, 1) := by decide +kernel
theorem dX4_init_662 : decode cX4_init 662 = .ok (.iconst 4, 1) := by decide +kernel
theorem dX4_init_663 : decode cX4_init 663 = .ok (.newarray .int, 2) := by decide +kernel
theorem dX4_init_665 : decode cX4_init 665 = .ok (.putfield 51, 3) := by decide +kernel
theorem dX4_init_668 : decode cX4_init 668 = .ok (.aload_n 0, 1) := by decide +kernel
theorem dX4_init_669 : decode cX4_init 669 = .ok (.sipush 160, 3) := by decide +kernel
theorem dX4_init_672 : decode cX4_init 672 = .ok (.newarray .int, 2) := by decide +kernel
theorem dX4_init_674 : decode cX4_init 674 = .ok (.putfield 54, 3) := by decide +kernel
theorem dX4_init_677 : decode cX4_init 677 = .ok (.return_, 1) := by decide +kernel
theorem dX4_in_0 : decode cX4_in 0 = .ok (.lload_n 0, 1) := by decide +kernel
theorem dX4_in_1 : decode cX4_in 1 = .ok (.lload_n 2, 1) := by decide +kernel
theorem dX4_in_2 : decode cX4_in 2 = .ok (.lcmp, 1) := by decide +kernel
theorem dX4_in_3 : decode cX4_in 3 = .ok (.ifCond .lt 14, 3) := by decide +kernel
theorem dX4_in_6 : decode cX4_in 6 = .ok (.lload_n 0, 1) := by decide +kernel
theorem dX4_in_7 : decode cX4_in 7 = .ok (.lload 4, 2) := by decide +kernel
theorem dX4_in_9 : decode cX4_in 9 = .ok (.lcmp, 1) := by decide +kernel
theorem dX4_in_10 : decode cX4_in 10 = .ok (.ifCond .gt 7, 3) := by decide +kernel
theorem dX4_in_13 : decode cX4_in 13 = .ok (.iconst 1, 1) := by decide +kernel
theorem dX4_in_14 : decode cX4_in 14 = .ok (.goto 4, 3) := by decide +kernel
theorem dX4_in_17 : decode cX4_in 17 = .ok (.iconst 0, 1) := by decide +kernel
theorem dX4_in_18 : decode cX4_in 18 = .ok (.ireturn, 1) := by decide +kernel
theorem dX4_feed_0 : decode cX4_feed 0 = .ok (.iload_n 1, 1) := by decide +kernel
theorem dX4_feed_1 : decode cX4_feed 1 = .ok (.i2l, 1) := by decide +kernel
theorem dX4_feed_2 : decode cX4_feed 2 = .ok (.lconst 0, 1) := by decide +kernel
theorem dX4_feed_3 : decode cX4_feed 3 = .ok (.ldc2_w 57, 3) := by decide +kernel
theorem dX4_feed_6 : decode cX4_feed 6 = .ok (.invokestatic 59, 3) := by decide +kernel
theorem dX4_feed_9 : decode cX4_feed 9 = .ok (.ifCond .ne 5, 3) := by decide +kernel
theorem dX4_feed_12 : decode cX4_feed 12 = .ok (.iconst (-1), 1) := by decide +kernel
theorem dX4_feed_13 : decode cX4_feed 13 = .ok (.ireturn, 1) := by decide +kernel
theorem dX4_feed_14 : decode cX4_feed 14 = .ok (.aload_n 0, 1) := by decide +kernel
theorem dX4_feed_15 : decode cX4_feed 15 = .ok (.getfield 63, 3) := by decide +kernel
theorem dX4_feed_18 : decode cX4_feed 18 = .ok (.sipush 160, 3) := by decide +kernel
theorem dX4_feed_21 : decode cX4_feed 21 = .ok (.if_icmp .ne 6, 3) := by decide +kernel
theorem dX4_feed_24 : decode cX4_feed 24 = .ok (.bipush (-3), 2) := by decide +kernel
theorem dX4_feed_26 : decode cX4_feed 26 = .ok (.ireturn, 1) := by decide +kernel
theorem dX4_feed_27 : decode cX4_feed 27 = .ok (.aload_n 0, 1) := by decide +kernel
theorem dX4_feed_28 : decode cX4_feed 28 = .ok (.getfield 32, 3) := by decide +kernel
theorem dX4_feed_31 : decode cX4_feed 31 = .ok (.aload_n 0, 1) := by decide +kernel
theorem dX4_feed_32 : decode cX4_feed 32 = .ok (.getfield 63, 3) := by decide +kernel
theorem dX4_feed_35 : decode cX4_feed 35 = .ok (.iload_n 1, 1) := by decide +kernel
theorem dX4_feed_36 : decode cX4_feed 36 = .ok (.iastore, 1) := by decide +kernel
theorem dX4_feed_37 : decode cX4_feed 37 = .ok (.aload_n 0, 1) := by decide +kernel
theorem dX4_feed_38 : decode cX4_feed 38 = .ok (.dup, 1) := by decide +kernel
theorem dX4_feed_39 : decode cX4_feed 39 = .ok (.getfield 63, 3) := by decide +kernel
theorem dX4_feed_42 : decode cX4_feed 42 = .ok (.iconst 1, 1) := by decide +kernel
theorem dX4_feed_43 : decode cX4_feed 43 = .ok (.iadd, 1) := by decide +kernel
theorem dX4_feed_44 : decode cX4_feed 44 = .ok (.putfield 63, 3) := by decide +kernel
theorem dX4_feed_47 : decode cX4_feed 47 = .ok (.aload_n 0, 1) := by decide +kernel
theorem dX4_feed_48 : decode cX4_feed 48 = .ok (.getfield 63, 3) := by decide +kernel
theorem dX4_feed_51 : decode cX4_feed 51 = .ok (.ireturn, 1) := by decide +kernel
theorem dX4_end_0 : decode cX4_end 0 = .ok (.iload_n 1, 1) := by decide +kernel
theorem dX4_end_1 : decode cX4_end 1 = .ok (.i2l, 1) := by decide +kernel
theorem dX4_end_2 : decode cX4_end 2 = .ok (.lconst 0, 1) := by decide +kernel
theorem dX4_end_3 : decode cX4_end 3 = .ok (.aload_n 0, 1) := by decide +kernel
theorem dX4_end_4 : decode cX4_end 4 = .ok (.getfield 63, 3) := by decide +kernel
theorem dX4_end_7 : decode cX4_end 7 = .ok (.i2l, 1) := by decide +kernel
theorem dX4_end_8 : decode cX4_end 8 = .ok (.invokestatic 59, 3) := by decide +kernel
theorem dX4_end_11 : decode cX4_end 11 = .ok (.ifCond .ne 5, 3) := by decide +kernel
theorem dX4_end_14 : decode cX4_end 14 = .ok (.iconst (-1), 1) := by decide +kernel
theorem dX4_end_15 : decode cX4_end 15 = .ok (.ireturn, 1) := by decide +kernel
theorem dX4_end_16 : decode cX4_end 16 = .ok (.aload_n 0, 1) := by decide +kernel
theorem dX4_end_17 : decode cX4_end 17 = .ok (.getfield 63, 3) := by decide +kernel
theorem dX4_end_20 : decode cX4_end 20 = .ok (.istore_n 2, 1) := by decide +kernel
theorem dX4_end_21 : decode cX4_end 21 = .ok (.aload_n 0, 1) := by decide +kernel
theorem dX4_end_22 : decode cX4_end 22 = .ok (.iload_n 1, 1) := by decide +kernel
theorem dX4_end_23 : decode cX4_end 23 = .ok (.putfield 63, 3) := by decide +kernel
theorem dX4_end_26 : decode cX4_end 26 = .ok (.iload_n 2, 1) := by decide +kernel
theorem dX4_end_27 : decode cX4_end 27 = .ok (.ireturn, 1) := by decide +kernel
theorem dX4_byteAt_0 : decode cX4_byteAt 0 = .ok (.iload_n 1, 1) := by decide +kernel
theorem dX4_byteAt_1 : decode cX4_byteAt 1 = .ok (.aload_n 0, 1) := by decide +kernel
theorem dX4_byteAt_2 : decode cX4_byteAt 2 = .ok (.getfield 63, 3) := by decide +kernel
theorem dX4_byteAt_5 : decode cX4_byteAt 5 = .ok (.if_icmp .ge 12, 3) := by decide +kernel
theorem dX4_byteAt_8 : decode cX4_byteAt 8 = .ok (.aload_n 0, 1) := by decide +kernel
theorem dX4_byteAt_9 : decode cX4_byteAt 9 = .ok (.getfield 32, 3) := by decide +kernel
theorem dX4_byteAt_12 : decode cX4_byteAt 12 = .ok (.iload_n 1, 1) := by decide +kernel
theorem dX4_byteAt_13 : decode cX4_byteAt 13 = .ok (.iaload, 1) := by decide +kernel
theorem dX4_byteAt_14 : decode cX4_byteAt 14 = .ok (.goto 5, 3) := by decide +kernel
theorem dX4_byteAt_17 : decode cX4_byteAt 17 = .ok (.bipush (-4), 2) := by decide +kernel
theorem dX4_byteAt_19 : decode cX4_byteAt 19 = .ok (.ireturn, 1) := by decide +kernel
theorem dX4_fails_0 : decode cX4_fails 0 = .ok (.aload_n 0, 1) := by decide +kernel
theorem dX4_fails_1 : decode cX4_fails 1 = .ok (.getfield 66, 3) := by decide +kernel
theorem dX4_fails_4 : decode cX4_fails 4 = .ok (.ifCond .ne 16, 3) := by decide +kernel
theorem dX4_fails_7 : decode cX4_fails 7 = .ok (.aload_n 0, 1) := by decide +kernel
theorem dX4_fails_8 : decode cX4_fails 8 = .ok (.iload_n 1, 1) := by decide +kernel
theorem dX4_fails_9 : decode cX4_fails 9 = .ok (.putfield 66, 3) := by decide +kernel
theorem dX4_fails_12 : decode cX4_fails 12 = .ok (.aload_n 0, 1) := by decide +kernel
theorem dX4_fails_13 : decode cX4_fails 13 = .ok (.aload_n 0, 1) := by decide +kernel
theorem dX4_fails_14 : decode cX4_fails 14 = .ok (.getfield 69, 3) := by decide +kernel
theorem dX4_fails_17 : decode cX4_fails 17 = .ok (.putfield 72, 3) := by decide +kernel
theorem dX4_fails_20 : decode cX4_fails 20 = .ok (.return_, 1) := by decide +kernel
theorem dX4_nameHere_0 : decode cX4_nameHere 0 = .ok (.iconst 0, 1) := by decide +kernel
theorem dX4_nameHere_1 : decode cX4_nameHere 1 = .ok (.istore_n 1, 1) := by decide +kernel
theorem dX4_nameHere_2 : decode cX4_nameHere 2 = .ok (.iload_n 1, 1) := by decide +kernel
theorem dX4_nameHere_3 : decode cX4_nameHere 3 = .ok (.bipush 17, 2) := by decide +kernel
theorem dX4_nameHere_5 : decode cX4_nameHere 5 = .ok (.if_icmp .ge 113, 3) := by decide +kernel
theorem dX4_nameHere_8 : decode cX4_nameHere 8 = .ok (.aload_n 0, 1) := by decide +kernel
theorem dX4_nameHere_9 : decode cX4_nameHere 9 = .ok (.getfield 75, 3) := by decide +kernel
theorem dX4_nameHere_12 : decode cX4_nameHere 12 = .ok (.iconst 1, 1) := by decide +kernel
theorem dX4_nameHere_13 : decode cX4_nameHere 13 = .ok (.if_icmp .ne 105, 3) := by decide +kernel
theorem dX4_nameHere_16 : decode cX4_nameHere 16 = .ok (.aload_n 0, 1) := by decide +kernel
theorem dX4_nameHere_17 : decode cX4_nameHere 17 = .ok (.getfield 78, 3) := by decide +kernel
theorem dX4_nameHere_20 : decode cX4_nameHere 20 = .ok (.aload_n 0, 1) := by decide +kernel
theorem dX4_nameHere_21 : decode cX4_nameHere 21 = .ok (.getfield 69, 3) := by decide +kernel
theorem dX4_nameHere_24 : decode cX4_nameHere 24 = .ok (.isub, 1) := by decide +kernel
theorem dX4_nameHere_25 : decode cX4_nameHere 25 = .ok (.aload_n 0, 1) := by decide +kernel
theorem dX4_nameHere_26 : decode cX4_nameHere 26 = .ok (.getfield 35, 3) := by decide +kernel
theorem dX4_nameHere_29 : decode cX4_nameHere 29 = .ok (.iload_n 1, 1) := by decide +kernel
theorem dX4_nameHere_30 : decode cX4_nameHere 30 = .ok (.iconst 1, 1) := by decide +kernel
theorem dX4_nameHere_31 : decode cX4_nameHere 31 = .ok (.iadd, 1) := by decide +kernel
theorem dX4_nameHere_32 : decode cX4_nameHere 32 = .ok (.iaload, 1) := by decide +kernel
theorem dX4_nameHere_33 : decode cX4_nameHere 33 = .ok (.aload_n 0, 1) := by decide +kernel
theorem dX4_nameHere_34 : decode cX4_nameHere 34 = .ok (.getfield 35, 3) := by decide +kernel
theorem dX4_nameHere_37 : decode cX4_nameHere 37 = .ok (.iload_n 1, 1) := by decide +kernel
theorem dX4_nameHere_38 : decode cX4_nameHere 38 = .ok (.iaload, 1) := by decide +kernel
theorem dX4_nameHere_39 : decode cX4_nameHere 39 = .ok (.isub, 1) := by decide +kernel
theorem dX4_nameHere_40 : decode cX4_nameHere 40 = .ok (.if_icmp .ne 7, 3) := by decide +kernel
theorem dX4_nameHere_43 : decode cX4_nameHere 43 = .ok (.iconst 1, 1) := by decide +kernel
theorem dX4_nameHere_44 : decode cX4_nameHere 44 = .ok (.goto 4, 3) := by decide +kernel
theorem dX4_nameHere_47 : decode cX4_nameHere 47 = .ok (.iconst 0, 1) := by decide +kernel
theorem dX4_nameHere_48 : decode cX4_nameHere 48 = .ok (.istore_n 2, 1) := by decide +kernel
theorem dX4_nameHere_49 : decode cX4_nameHere 49 = .ok (.iconst 0, 1) := by decide +kernel
theorem dX4_nameHere_50 : decode cX4_nameHere 50 = .ok (.istore_n 3, 1) := by decide +kernel
theorem dX4_nameHere_51 : decode cX4_nameHere 51 = .ok (.iload_n 2, 1) := by decide +kernel
theorem dX4_nameHere_52 : decode cX4_nameHere 52 = .ok (.ifCond .eq 54, 3) := by decide +kernel
theorem dX4_nameHere_55 : decode cX4_nameHere 55 = .ok (.iload_n 3, 1) := by decide +kernel
theorem dX4_nameHere_56 : decode cX4_nameHere 56 = .ok (.aload_n 0, 1) := by decide +kernel
theorem dX4_nameHere_57 : decode cX4_nameHere 57 = .ok (.getfield 78, 3) := by decide +kernel
theorem dX4_nameHere_60 : decode cX4_nameHere 60 = .ok (.aload_n 0, 1) := by decide +kernel
theorem dX4_nameHere_61 : decode cX4_nameHere 61 = .ok (.getfield 69, 3) := by decide +kernel
theorem dX4_nameHere_64 : decode cX4_nameHere 64 = .ok (.isub, 1) := by decide +kernel
theorem dX4_nameHere_65 : decode cX4_nameHere 65 = .ok (.if_icmp .ge 41, 3) := by decide +kernel
theorem dX4_nameHere_68 : decode cX4_nameHere 68 = .ok (.aload_n 0, 1) := by decide +kernel
theorem dX4_nameHere_69 : decode cX4_nameHere 69 = .ok (.aload_n 0, 1) := by decide +kernel
theorem dX4_nameHere_70 : decode cX4_nameHere 70 = .ok (.getfield 69, 3) := by decide +kernel
theorem dX4_nameHere_73 : decode cX4_nameHere 73 = .ok (.iload_n 3, 1) := by decide +kernel
theorem dX4_nameHere_74 : decode cX4_nameHere 74 = .ok (.iadd, 1) := by decide +kernel
theorem dX4_nameHere_75 : decode cX4_nameHere 75 = .ok (.invokevirtual 81, 3) := by decide +kernel
theorem dX4_nameHere_78 : decode cX4_nameHere 78 = .ok (.aload_n 0, 1) := by decide +kernel
theorem dX4_nameHere_79 : decode cX4_nameHere 79 = .ok (.getfield 38, 3) := by decide +kernel
theorem dX4_nameHere_82 : decode cX4_nameHere 82 = .ok (.aload_n 0, 1) := by decide +kernel
theorem dX4_nameHere_83 : decode cX4_nameHere 83 = .ok (.getfield 35, 3) := by decide +kernel
theorem dX4_nameHere_86 : decode cX4_nameHere 86 = .ok (.iload_n 1, 1) := by decide +kernel
theorem dX4_nameHere_87 : decode cX4_nameHere 87 = .ok (.iaload, 1) := by decide +kernel
theorem dX4_nameHere_88 : decode cX4_nameHere 88 = .ok (.iload_n 3, 1) := by decide +kernel
theorem dX4_nameHere_89 : decode cX4_nameHere 89 = .ok (.iadd, 1) := by decide +kernel
theorem dX4_nameHere_90 : decode cX4_nameHere 90 = .ok (.iaload, 1) := by decide +kernel
theorem dX4_nameHere_91 : decode cX4_nameHere 91 = .ok (.if_icmp .ne 7, 3) := by decide +kernel
theorem dX4_nameHere_94 : decode cX4_nameHere 94 = .ok (.iconst 1, 1) := by decide +kernel
theorem dX4_nameHere_95 : decode cX4_nameHere 95 = .ok (.goto 4, 3) := by decide +kernel
theorem dX4_nameHere_98 : decode cX4_nameHere 98 = .ok (.iconst 0, 1) := by decide +kernel
theorem dX4_nameHere_99 : decode cX4_nameHere 99 = .ok (.istore_n 2, 1) := by decide +kernel
theorem dX4_nameHere_100 : decode cX4_nameHere 100 = .ok (.iinc 3 1, 3) := by decide +kernel
theorem dX4_nameHere_103 : decode cX4_nameHere 103 = .ok (.goto (-52), 3) := by decide +kernel
theorem dX4_nameHere_106 : decode cX4_nameHere 106 = .ok (.iload_n 2, 1) := by decide +kernel
theorem dX4_nameHere_107 : decode cX4_nameHere 107 = .ok (.ifCond .eq 5, 3) := by decide +kernel
theorem dX4_nameHere_110 : decode cX4_nameHere 110 = .ok (.iload_n 1, 1) := by decide +kernel
theorem dX4_nameHere_111 : decode cX4_nameHere 111 = .ok (.ireturn, 1) := by decide +kernel
theorem dX4_nameHere_112 : decode cX4_nameHere 112 = .ok (.iinc 1 1, 3) := by decide +kernel
theorem dX4_nameHere_115 : decode cX4_nameHere 115 = .ok (.goto (-113), 3) := by decide +kernel
theorem dX4_nameHere_118 : decode cX4_nameHere 118 = .ok (.bipush (-4), 2) := by decide +kernel
theorem dX4_nameHere_120 : decode cX4_nameHere 120 = .ok (.ireturn, 1) := by decide +kernel
theorem dX4_step_0 : decode cX4_step 0 = .ok (.aload_n 0, 1) := by decide +kernel
theorem dX4_step_1 : decode cX4_step 1 = .ok (.getfield 66, 3) := by decide +kernel
theorem dX4_step_4 : decode cX4_step 4 = .ok (.ifCond .le 4, 3) := by decide +kernel
theorem dX4_step_7 : decode cX4_step 7 = .ok (.return_, 1) := by decide +kernel
theorem dX4_step_8 : decode cX4_step 8 = .ok (.aload_n 0, 1) := by decide +kernel
theorem dX4_step_9 : decode cX4_step 9 = .ok (.aload_n 0, 1) := by decide +kernel
theorem dX4_step_10 : decode cX4_step 10 = .ok (.getfield 78, 3) := by decide +kernel
theorem dX4_step_13 : decode cX4_step 13 = .ok (.invokevirtual 81, 3) := by decide +kernel
theorem dX4_step_16 : decode cX4_step 16 = .ok (.bipush 32, 2) := by decide +kernel
theorem dX4_step_18 : decode cX4_step 18 = .ok (.if_icmp .ne 16, 3) := by decide +kernel
theorem dX4_step_21 : decode cX4_step 21 = .ok (.aload_n 0, 1) := by decide +kernel
theorem dX4_step_22 : decode cX4_step 22 = .ok (.dup, 1) := by decide +kernel
theorem dX4_step_23 : decode cX4_step 23 = .ok (.getfield 78, 3) := by decide +kernel
theorem dX4_step_26 : decode cX4_step 26 = .ok (.iconst 1, 1) := by decide +kernel
theorem dX4_step_27 : decode cX4_step 27 = .ok (.iadd, 1) := by decide +kernel
theorem dX4_step_28 : decode cX4_step 28 = .ok (.putfield 78, 3) := by decide +kernel
theorem dX4_step_31 : decode cX4_step 31 = .ok (.goto (-23), 3) := by decide +kernel
theorem dX4_step_34 : decode cX4_step 34 = .ok (.aload_n 0, 1) := by decide +kernel
theorem dX4_step_35 : decode cX4_step 35 = .ok (.aload_n 0, 1) := by decide +kernel
theorem dX4_step_36 : decode cX4_step 36 = .ok (.getfield 78, 3) := by decide +kernel
theorem dX4_step_39 : decode cX4_step 39 = .ok (.putfield 69, 3) := by decide +kernel
theorem dX4_step_42 : decode cX4_step 42 = .ok (.aload_n 0, 1) := by decide +kernel
theorem dX4_step_43 : decode cX4_step 43 = .ok (.aload_n 0, 1) := by decide +kernel
theorem dX4_step_44 : decode cX4_step 44 = .ok (.getfield 78, 3) := by decide +kernel
theorem dX4_step_47 : decode cX4_step 47 = .ok (.invokevirtual 81, 3) := by decide +kernel
theorem dX4_step_50 : decode cX4_step 50 = .ok (.istore_n 1, 1) := by decide +kernel
theorem dX4_step_51 : decode cX4_step 51 = .ok (.aload_n 0, 1) := by decide +kernel
theorem dX4_step_52 : decode cX4_step 52 = .ok (.iconst 0, 1) := by decide +kernel
theorem dX4_step_53 : decode cX4_step 53 = .ok (.putfield 85, 3) := by decide +kernel
theorem dX4_step_56 : decode cX4_step 56 = .ok (.iload_n 1, 1) := by decide +kernel
theorem dX4_step_57 : decode cX4_step 57 = .ok (.bipush (-4), 2) := by decide +kernel
theorem dX4_step_59 : decode cX4_step 59 = .ok (.if_icmp .ne 11, 3) := by decide +kernel
theorem dX4_step_62 : decode cX4_step 62 = .ok (.aload_n 0, 1) := by decide +kernel
theorem dX4_step_63 : decode cX4_step 63 = .ok (.iconst 0, 1) := by decide +kernel
theorem dX4_step_64 : decode cX4_step 64 = .ok (.putfield 75, 3) := by decide +kernel
theorem dX4_step_67 : decode cX4_step 67 = .ok (.goto 202, 3) := by decide +kernel
theorem dX4_step_70 : decode cX4_step 70 = .ok (.iload_n 1, 1) := by decide +kernel
theorem dX4_step_71 : decode cX4_step 71 = .ok (.i2l, 1) := by decide +kernel
theorem dX4_step_72 : decode cX4_step 72 = .ok (.ldc2_w 88, 3) := by decide +kernel
theorem dX4_step_75 : decode cX4_step 75 = .ok (.ldc2_w 90, 3) := by decide +kernel
theorem dX4_step_78 : decode cX4_step 78 = .ok (.invokestatic 59, 3) := by decide +kernel
theorem dX4_step_81 : decode cX4_step 81 = .ok (.ifCond .eq 45, 3) := by decide +kernel
theorem dX4_step_84 : decode cX4_step 84 = .ok (.aload_n 0, 1) := by decide +kernel
theorem dX4_step_85 : decode cX4_step 85 = .ok (.aload_n 0, 1) := by decide +kernel
theorem dX4_step_86 : decode cX4_step 86 = .ok (.getfield 78, 3) := by decide +kernel
theorem dX4_step_89 : decode cX4_step 89 = .ok (.invokevirtual 81, 3) := by decide +kernel
theorem dX4_step_92 : decode cX4_step 92 = .ok (.i2l, 1) := by decide +kernel
theorem dX4_step_93 : decode cX4_step 93 = .ok (.ldc2_w 88, 3) := by decide +kernel
theorem dX4_step_96 : decode cX4_step 96 = .ok (.ldc2_w 90, 3) := by decide +kernel
theorem dX4_step_99 : decode cX4_step 99 = .ok (.invokestatic 59, 3) := by decide +kernel
theorem dX4_step_102 : decode cX4_step 102 = .ok (.ifCond .eq 16, 3) := by decide +kernel
theorem dX4_step_105 : decode cX4_step 105 = .ok (.aload_n 0, 1) := by decide +kernel
theorem dX4_step_106 : decode cX4_step 106 = .ok (.dup, 1) := by decide +kernel
theorem dX4_step_107 : decode cX4_step 107 = .ok (.getfield 78, 3) := by decide +kernel
theorem dX4_step_110 : decode cX4_step 110 = .ok (.iconst 1, 1) := by decide +kernel
theorem dX4_step_111 : decode cX4_step 111 = .ok (.iadd, 1) := by decide +kernel
theorem dX4_step_112 : decode cX4_step 112 = .ok (.putfield 78, 3) := by decide +kernel
theorem dX4_step_115 : decode cX4_step 115 = .ok (.goto (-31), 3) := by decide +kernel
theorem dX4_step_118 : decode cX4_step 118 = .ok (.aload_n 0, 1) := by decide +kernel
theorem dX4_step_119 : decode cX4_step 119 = .ok (.iconst 1, 1) := by decide +kernel
theorem dX4_step_120 : decode cX4_step 120 = .ok (.putfield 75, 3) := by decide +kernel
theorem dX4_step_123 : decode cX4_step 123 = .ok (.goto 146, 3) := by decide +kernel
theorem dX4_step_126 : decode cX4_step 126 = .ok (.iload_n 1, 1) := by decide +kernel
theorem dX4_step_127 : decode cX4_step 127 = .ok (.i2l, 1) := by decide +kernel
theorem dX4_step_128 : decode cX4_step 128 = .ok (.ldc2_w 92, 3) := by decide +kernel
theorem dX4_step_131 : decode cX4_step 131 = .ok (.ldc2_w 94, 3) := by decide +kernel
theorem dX4_step_134 : decode cX4_step 134 = .ok (.invokestatic 59, 3) := by decide +kernel
theorem dX4_step_137 : decode cX4_step 137 = .ok (.ifCond .eq 106, 3) := by decide +kernel
theorem dX4_step_140 : decode cX4_step 140 = .ok (.aload_n 0, 1) := by decide +kernel
theorem dX4_step_141 : decode cX4_step 141 = .ok (.aload_n 0, 1) := by decide +kernel
theorem dX4_step_142 : decode cX4_step 142 = .ok (.getfield 78, 3) := by decide +kernel
theorem dX4_step_145 : decode cX4_step 145 = .ok (.invokevirtual 81, 3) := by decide +kernel
theorem dX4_step_148 : decode cX4_step 148 = .ok (.i2l, 1) := by decide +kernel
theorem dX4_step_149 : decode cX4_step 149 = .ok (.ldc2_w 92, 3) := by decide +kernel
theorem dX4_step_152 : decode cX4_step 152 = .ok (.ldc2_w 94, 3) := by decide +kernel
theorem dX4_step_155 : decode cX4_step 155 = .ok (.invokestatic 59, 3) := by decide +kernel
theorem dX4_step_158 : decode cX4_step 158 = .ok (.ifCond .eq 59, 3) := by decide +kernel
theorem dX4_step_161 : decode cX4_step 161 = .ok (.aload_n 0, 1) := by decide +kernel
theorem dX4_step_162 : decode cX4_step 162 = .ok (.aload_n 0, 1) := by decide +kernel
theorem dX4_step_163 : decode cX4_step 163 = .ok (.getfield 78, 3) := by decide +kernel
theorem dX4_step_166 : decode cX4_step 166 = .ok (.aload_n 0, 1) := by decide +kernel
theorem dX4_step_167 : decode cX4_step 167 = .ok (.getfield 69, 3) := by decide +kernel
theorem dX4_step_170 : decode cX4_step 170 = .ok (.isub, 1) := by decide +kernel
theorem dX4_step_171 : decode cX4_step 171 = .ok (.iconst 2, 1) := by decide +kernel
theorem dX4_step_172 : decode cX4_step 172 = .ok (.if_icmp .ge 25, 3) := by decide +kernel
theorem dX4_step_175 : decode cX4_step 175 = .ok (.bipush 10, 2) := by decide +kernel
theorem dX4_step_177 : decode cX4_step 177 = .ok (.aload_n 0, 1) := by decide +kernel
theorem dX4_step_178 : decode cX4_step 178 = .ok (.getfield 85, 3) := by decide +kernel
theorem dX4_step_181 : decode cX4_step 181 = .ok (.imul, 1) := by decide +kernel
theorem dX4_step_182 : decode cX4_step 182 = .ok (.aload_n 0, 1) := by decide +kernel
theorem dX4_step_183 : decode cX4_step 183 = .ok (.aload_n 0, 1) := by decide +kernel
theorem dX4_step_184 : decode cX4_step 184 = .ok (.getfield 78, 3) := by decide +kernel
theorem dX4_step_187 : decode cX4_step 187 = .ok (.invokevirtual 81, 3) := by decide +kernel
theorem dX4_step_190 : decode cX4_step 190 = .ok (.iadd, 1) := by decide +kernel
theorem dX4_step_191 : decode cX4_step 191 = .ok (.bipush 48, 2) := by decide +kernel
theorem dX4_step_193 : decode cX4_step 193 = .ok (.isub, 1) := by decide +kernel
theorem dX4_step_194 : decode cX4_step 194 = .ok (.goto 7, 3) := by decide +kernel
theorem dX4_step_197 : decode cX4_step 197 = .ok (.aload_n 0, 1) := by decide +kernel
theorem dX4_step_198 : decode cX4_step 198 = .ok (.getfield 85, 3) := by decide +kernel
theorem dX4_step_201 : decode cX4_step 201 = .ok (.putfield 85, 3) := by decide +kernel
theorem dX4_step_204 : decode cX4_step 204 = .ok (.aload_n 0, 1) := by decide +kernel
theorem dX4_step_205 : decode cX4_step 205 = .ok (.dup, 1) := by decide +kernel
theorem dX4_step_206 : decode cX4_step 206 = .ok (.getfield 78, 3) := by decide +kernel
theorem dX4_step_209 : decode cX4_step 209 = .ok (.iconst 1, 1) := by decide +kernel
theorem dX4_step_210 : decode cX4_step 210 = .ok (.iadd, 1) := by decide +kernel
theorem dX4_step_211 : decode cX4_step 211 = .ok (.putfield 78, 3) := by decide +kernel
theorem dX4_step_214 : decode cX4_step 214 = .ok (.goto (-74), 3) := by decide +kernel
theorem dX4_step_217 : decode cX4_step 217 = .ok (.aload_n 0, 1) := by decide +kernel
theorem dX4_step_218 : decode cX4_step 218 = .ok (.iconst 2, 1) := by decide +kernel
theorem dX4_step_219 : decode cX4_step 219 = .ok (.putfield 75, 3) := by decide +kernel
theorem dX4_step_222 : decode cX4_step 222 = .ok (.aload_n 0, 1) := by decide +kernel
theorem dX4_step_223 : decode cX4_step 223 = .ok (.getfield 78, 3) := by decide +kernel
theorem dX4_step_226 : decode cX4_step 226 = .ok (.aload_n 0, 1) := by decide +kernel
theorem dX4_step_227 : decode cX4_step 227 = .ok (.getfield 69, 3) := by decide +kernel
theorem dX4_step_230 : decode cX4_step 230 = .ok (.isub, 1) := by decide +kernel
theorem dX4_step_231 : decode cX4_step 231 = .ok (.iconst 2, 1) := by decide +kernel
theorem dX4_step_232 : decode cX4_step 232 = .ok (.if_icmp .le 37, 3) := by decide +kernel
theorem dX4_step_235 : decode cX4_step 235 = .ok (.aload_n 0, 1) := by decide +kernel
theorem dX4_step_236 : decode cX4_step 236 = .ok (.iconst 1, 1) := by decide +kernel
theorem dX4_step_237 : decode cX4_step 237 = .ok (.invokevirtual 96, 3) := by decide +kernel
theorem dX4_step_240 : decode cX4_step 240 = .ok (.goto 29, 3) := by decide +kernel
theorem dX4_step_243 : decode cX4_step 243 = .ok (.aload_n 0, 1) := by decide +kernel
theorem dX4_step_244 : decode cX4_step 244 = .ok (.iconst 3, 1) := by decide +kernel
theorem dX4_step_245 : decode cX4_step 245 = .ok (.putfield 75, 3) := by decide +kernel
theorem dX4_step_248 : decode cX4_step 248 = .ok (.aload_n 0, 1) := by decide +kernel
theorem dX4_step_249 : decode cX4_step 249 = .ok (.dup, 1) := by decide +kernel
theorem dX4_step_250 : decode cX4_step 250 = .ok (.getfield 78, 3) := by decide +kernel
theorem dX4_step_253 : decode cX4_step 253 = .ok (.iconst 1, 1) := by decide +kernel
theorem dX4_step_254 : decode cX4_step 254 = .ok (.iadd, 1) := by decide +kernel
theorem dX4_step_255 : decode cX4_step 255 = .ok (.putfield 78, 3) := by decide +kernel
theorem dX4_step_258 : decode cX4_step 258 = .ok (.iload_n 1, 1) := by decide +kernel
theorem dX4_step_259 : decode cX4_step 259 = .ok (.bipush 59, 2) := by decide +kernel
theorem dX4_step_261 : decode cX4_step 261 = .ok (.if_icmp .eq 8, 3) := by decide +kernel
theorem dX4_step_264 : decode cX4_step 264 = .ok (.aload_n 0, 1) := by decide +kernel
theorem dX4_step_265 : decode cX4_step 265 = .ok (.iconst 1, 1) := by decide +kernel
theorem dX4_step_266 : decode cX4_step 266 = .ok (.invokevirtual 96, 3) := by decide +kernel
theorem dX4_step_269 : decode cX4_step 269 = .ok (.return_, 1) := by decide +kernel
theorem dX4_number_0 : decode cX4_number 0 = .ok (.aload_n 0, 1) := by decide +kernel
theorem dX4_number_1 : decode cX4_number 1 = .ok (.getfield 66, 3) := by decide +kernel
theorem dX4_number_4 : decode cX4_number 4 = .ok (.ifCond .ne 16, 3) := by decide +kernel
theorem dX4_number_7 : decode cX4_number 7 = .ok (.aload_n 0, 1) := by decide +kernel
theorem dX4_number_8 : decode cX4_number 8 = .ok (.getfield 75, 3) := by decide +kernel
theorem dX4_number_11 : decode cX4_number 11 = .ok (.iconst 2, 1) := by decide +kernel
theorem dX4_number_12 : decode cX4_number 12 = .ok (.if_icmp .eq 8, 3) := by decide +kernel
theorem dX4_number_15 : decode cX4_number 15 = .ok (.aload_n 0, 1) := by decide +kernel
theorem dX4_number_16 : decode cX4_number 16 = .ok (.iconst 2, 1) := by decide +kernel
theorem dX4_number_17 : decode cX4_number 17 = .ok (.invokevirtual 96, 3) := by decide +kernel
theorem dX4_number_20 : decode cX4_number 20 = .ok (.aload_n 0, 1) := by decide +kernel
theorem dX4_number_21 : decode cX4_number 21 = .ok (.getfield 66, 3) := by decide +kernel
theorem dX4_number_24 : decode cX4_number 24 = .ok (.ifCond .ne 23, 3) := by decide +kernel
theorem dX4_number_27 : decode cX4_number 27 = .ok (.aload_n 0, 1) := by decide +kernel
theorem dX4_number_28 : decode cX4_number 28 = .ok (.getfield 85, 3) := by decide +kernel
theorem dX4_number_31 : decode cX4_number 31 = .ok (.i2l, 1) := by decide +kernel
theorem dX4_number_32 : decode cX4_number 32 = .ok (.iload_n 1, 1) := by decide +kernel
theorem dX4_number_33 : decode cX4_number 33 = .ok (.i2l, 1) := by decide +kernel
theorem dX4_number_34 : decode cX4_number 34 = .ok (.iload_n 2, 1) := by decide +kernel
theorem dX4_number_35 : decode cX4_number 35 = .ok (.i2l, 1) := by decide +kernel
theorem dX4_number_36 : decode cX4_number 36 = .ok (.invokestatic 59, 3) := by decide +kernel
theorem dX4_number_39 : decode cX4_number 39 = .ok (.ifCond .ne 8, 3) := by decide +kernel
theorem dX4_number_42 : decode cX4_number 42 = .ok (.aload_n 0, 1) := by decide +kernel
theorem dX4_number_43 : decode cX4_number 43 = .ok (.iconst 3, 1) := by decide +kernel
theorem dX4_number_44 : decode cX4_number 44 = .ok (.invokevirtual 96, 3) := by decide +kernel
theorem dX4_number_47 : decode cX4_number 47 = .ok (.aload_n 0, 1) := by decide +kernel
theorem dX4_number_48 : decode cX4_number 48 = .ok (.getfield 66, 3) := by decide +kernel
theorem dX4_number_51 : decode cX4_number 51 = .ok (.ifCond .ne 10, 3) := by decide +kernel
theorem dX4_number_54 : decode cX4_number 54 = .ok (.aload_n 0, 1) := by decide +kernel
theorem dX4_number_55 : decode cX4_number 55 = .ok (.getfield 85, 3) := by decide +kernel
theorem dX4_number_58 : decode cX4_number 58 = .ok (.goto 4, 3) := by decide +kernel
theorem dX4_number_61 : decode cX4_number 61 = .ok (.iload_n 1, 1) := by decide +kernel
theorem dX4_number_62 : decode cX4_number 62 = .ok (.istore_n 3, 1) := by decide +kernel
theorem dX4_number_63 : decode cX4_number 63 = .ok (.aload_n 0, 1) := by decide +kernel
theorem dX4_number_64 : decode cX4_number 64 = .ok (.invokevirtual 100, 3) := by decide +kernel
theorem dX4_number_67 : decode cX4_number 67 = .ok (.iload_n 3, 1) := by decide +kernel
theorem dX4_number_68 : decode cX4_number 68 = .ok (.ireturn, 1) := by decide +kernel
theorem dX4_named_0 : decode cX4_named 0 = .ok (.aload_n 0, 1) := by decide +kernel
theorem dX4_named_1 : decode cX4_named 1 = .ok (.invokevirtual 103, 3) := by decide +kernel
theorem dX4_named_4 : decode cX4_named 4 = .ok (.iload_n 1, 1) := by decide +kernel
theorem dX4_named_5 : decode cX4_named 5 = .ok (.isub, 1) := by decide +kernel
theorem dX4_named_6 : decode cX4_named 6 = .ok (.istore_n 3, 1) := by decide +kernel
theorem dX4_named_7 : decode cX4_named 7 = .ok (.aload_n 0, 1) := by decide +kernel
theorem dX4_named_8 : decode cX4_named 8 = .ok (.getfield 66, 3) := by decide +kernel
theorem dX4_named_11 : decode cX4_named 11 = .ok (.ifCond .ne 21, 3) := by decide +kernel
theorem dX4_named_14 : decode cX4_named 14 = .ok (.iload_n 3, 1) := by decide +kernel
theorem dX4_named_15 : decode cX4_named 15 = .ok (.i2l, 1) := by decide +kernel
theorem dX4_named_16 : decode cX4_named 16 = .ok (.lconst 0, 1) := by decide +kernel
theorem dX4_named_17 : decode cX4_named 17 = .ok (.iload_n 2, 1) := by decide +kernel
theorem dX4_named_18 : decode cX4_named 18 = .ok (.iconst 1, 1) := by decide +kernel
theorem dX4_named_19 : decode cX4_named 19 = .ok (.isub, 1) := by decide +kernel
theorem dX4_named_20 : decode cX4_named 20 = .ok (.i2l, 1) := by decide +kernel
theorem dX4_named_21 : decode cX4_named 21 = .ok (.invokestatic 59, 3) := by decide +kernel
theorem dX4_named_24 : decode cX4_named 24 = .ok (.ifCond .ne 8, 3) := by decide +kernel
theorem dX4_named_27 : decode cX4_named 27 = .ok (.aload_n 0, 1) := by decide +kernel
theorem dX4_named_28 : decode cX4_named 28 = .ok (.iconst 2, 1) := by decide +kernel
theorem dX4_named_29 : decode cX4_named 29 = .ok (.invokevirtual 96, 3) := by decide +kernel
theorem dX4_named_32 : decode cX4_named 32 = .ok (.aload_n 0, 1) := by decide +kernel
theorem dX4_named_33 : decode cX4_named 33 = .ok (.invokevirtual 100, 3) := by decide +kernel
theorem dX4_named_36 : decode cX4_named 36 = .ok (.iload_n 3, 1) := by decide +kernel
theorem dX4_named_37 : decode cX4_named 37 = .ok (.i2l, 1) := by decide +kernel
theorem dX4_named_38 : decode cX4_named 38 = .ok (.lconst 0, 1) := by decide +kernel
theorem dX4_named_39 : decode cX4_named 39 = .ok (.iload_n 2, 1) := by decide +kernel
theorem dX4_named_40 : decode cX4_named 40 = .ok (.iconst 1, 1) := by decide +kernel
theorem dX4_named_41 : decode cX4_named 41 = .ok (.isub, 1) := by decide +kernel
theorem dX4_named_42 : decode cX4_named 42 = .ok (.i2l, 1) := by decide +kernel
theorem dX4_named_43 : decode cX4_named 43 = .ok (.invokestatic 59, 3) := by decide +kernel
theorem dX4_named_46 : decode cX4_named 46 = .ok (.ifCond .eq 7, 3) := by decide +kernel
theorem dX4_named_49 : decode cX4_named 49 = .ok (.iload_n 3, 1) := by decide +kernel
theorem dX4_named_50 : decode cX4_named 50 = .ok (.goto 4, 3) := by decide +kernel
theorem dX4_named_53 : decode cX4_named 53 = .ok (.iconst 0, 1) := by decide +kernel
theorem dX4_named_54 : decode cX4_named 54 = .ok (.ireturn, 1) := by decide +kernel
theorem dX4_readOnce_0 : decode cX4_readOnce 0 = .ok (.iload_n 1, 1) := by decide +kernel
theorem dX4_readOnce_1 : decode cX4_readOnce 1 = .ok (.iconst 1, 1) := by decide +kernel
theorem dX4_readOnce_2 : decode cX4_readOnce 2 = .ok (.if_icmp .ne 20, 3) := by decide +kernel
theorem dX4_readOnce_5 : decode cX4_readOnce 5 = .ok (.aload_n 0, 1) := by decide +kernel
theorem dX4_readOnce_6 : decode cX4_readOnce 6 = .ok (.getfield 23, 3) := by decide +kernel
theorem dX4_readOnce_9 : decode cX4_readOnce 9 = .ok (.bipush 8, 2) := by decide +kernel
theorem dX4_readOnce_11 : decode cX4_readOnce 11 = .ok (.aload_n 0, 1) := by decide +kernel
theorem dX4_readOnce_12 : decode cX4_readOnce 12 = .ok (.iconst 0, 1) := by decide +kernel
theorem dX4_readOnce_13 : decode cX4_readOnce 13 = .ok (.bipush 60, 2) := by decide +kernel
theorem dX4_readOnce_15 : decode cX4_readOnce 15 = .ok (.invokevirtual 107, 3) := by decide +kernel
theorem dX4_readOnce_18 : decode cX4_readOnce 18 = .ok (.iastore, 1) := by decide +kernel
theorem dX4_readOnce_19 : decode cX4_readOnce 19 = .ok (.goto 97, 3) := by decide +kernel
theorem dX4_readOnce_22 : decode cX4_readOnce 22 = .ok (.iload_n 1, 1) := by decide +kernel
theorem dX4_readOnce_23 : decode cX4_readOnce 23 = .ok (.iconst 2, 1) := by decide +kernel
theorem dX4_readOnce_24 : decode cX4_readOnce 24 = .ok (.if_icmp .ne 34, 3) := by decide +kernel
theorem dX4_readOnce_27 : decode cX4_readOnce 27 = .ok (.aload_n 0, 1) := by decide +kernel
theorem dX4_readOnce_28 : decode cX4_readOnce 28 = .ok (.aload_n 0, 1) := by decide +kernel
theorem dX4_readOnce_29 : decode cX4_readOnce 29 = .ok (.iconst 0, 1) := by decide +kernel
theorem dX4_readOnce_30 : decode cX4_readOnce 30 = .ok (.bipush 60, 2) := by decide +kernel
theorem dX4_readOnce_32 : decode cX4_readOnce 32 = .ok (.invokevirtual 107, 3) := by decide +kernel
theorem dX4_readOnce_35 : decode cX4_readOnce 35 = .ok (.putfield 111, 3) := by decide +kernel
theorem dX4_readOnce_38 : decode cX4_readOnce 38 = .ok (.aload_n 0, 1) := by decide +kernel
theorem dX4_readOnce_39 : decode cX4_readOnce 39 = .ok (.getfield 23, 3) := by decide +kernel
theorem dX4_readOnce_42 : decode cX4_readOnce 42 = .ok (.bipush 10, 2) := by decide +kernel
theorem dX4_readOnce_44 : decode cX4_readOnce 44 = .ok (.aload_n 0, 1) := by decide +kernel
theorem dX4_readOnce_45 : decode cX4_readOnce 45 = .ok (.iconst 0, 1) := by decide +kernel
theorem dX4_readOnce_46 : decode cX4_readOnce 46 = .ok (.bipush 23, 2) := by decide +kernel
theorem dX4_readOnce_48 : decode cX4_readOnce 48 = .ok (.invokevirtual 107, 3) := by decide +kernel
theorem dX4_readOnce_51 : decode cX4_readOnce 51 = .ok (.bipush 18, 2) := by decide +kernel
theorem dX4_readOnce_53 : decode cX4_readOnce 53 = .ok (.isub, 1) := by decide +kernel
theorem dX4_readOnce_54 : decode cX4_readOnce 54 = .ok (.iastore, 1) := by decide +kernel
theorem dX4_readOnce_55 : decode cX4_readOnce 55 = .ok (.goto 61, 3) := by decide +kernel
theorem dX4_readOnce_58 : decode cX4_readOnce 58 = .ok (.iload_n 1, 1) := by decide +kernel
theorem dX4_readOnce_59 : decode cX4_readOnce 59 = .ok (.iconst 3, 1) := by decide +kernel
theorem dX4_readOnce_60 : decode cX4_readOnce 60 = .ok (.if_icmp .ne 20, 3) := by decide +kernel
theorem dX4_readOnce_63 : decode cX4_readOnce 63 = .ok (.aload_n 0, 1) := by decide +kernel
theorem dX4_readOnce_64 : decode cX4_readOnce 64 = .ok (.getfield 23, 3) := by decide +kernel
theorem dX4_readOnce_67 : decode cX4_readOnce 67 = .ok (.bipush 11, 2) := by decide +kernel
theorem dX4_readOnce_69 : decode cX4_readOnce 69 = .ok (.aload_n 0, 1) := by decide +kernel
theorem dX4_readOnce_70 : decode cX4_readOnce 70 = .ok (.bipush 13, 2) := by decide +kernel
theorem dX4_readOnce_72 : decode cX4_readOnce 72 = .ok (.iconst 4, 1) := by decide +kernel
theorem dX4_readOnce_73 : decode cX4_readOnce 73 = .ok (.invokevirtual 114, 3) := by decide +kernel
theorem dX4_readOnce_76 : decode cX4_readOnce 76 = .ok (.iastore, 1) := by decide +kernel
theorem dX4_readOnce_77 : decode cX4_readOnce 77 = .ok (.goto 39, 3) := by decide +kernel
theorem dX4_readOnce_80 : decode cX4_readOnce 80 = .ok (.iload_n 1, 1) := by decide +kernel
theorem dX4_readOnce_81 : decode cX4_readOnce 81 = .ok (.iconst 4, 1) := by decide +kernel
theorem dX4_readOnce_82 : decode cX4_readOnce 82 = .ok (.if_icmp .ne 20, 3) := by decide +kernel
theorem dX4_readOnce_85 : decode cX4_readOnce 85 = .ok (.aload_n 0, 1) := by decide +kernel
theorem dX4_readOnce_86 : decode cX4_readOnce 86 = .ok (.getfield 23, 3) := by decide +kernel
theorem dX4_readOnce_89 : decode cX4_readOnce 89 = .ok (.bipush 12, 2) := by decide +kernel
theorem dX4_readOnce_91 : decode cX4_readOnce 91 = .ok (.aload_n 0, 1) := by decide +kernel
theorem dX4_readOnce_92 : decode cX4_readOnce 92 = .ok (.iconst 0, 1) := by decide +kernel
theorem dX4_readOnce_93 : decode cX4_readOnce 93 = .ok (.bipush 9, 2) := by decide +kernel
theorem dX4_readOnce_95 : decode cX4_readOnce 95 = .ok (.invokevirtual 107, 3) := by decide +kernel
theorem dX4_readOnce_98 : decode cX4_readOnce 98 = .ok (.iastore, 1) := by decide +kernel
theorem dX4_readOnce_99 : decode cX4_readOnce 99 = .ok (.goto 17, 3) := by decide +kernel
theorem dX4_readOnce_102 : decode cX4_readOnce 102 = .ok (.aload_n 0, 1) := by decide +kernel
theorem dX4_readOnce_103 : decode cX4_readOnce 103 = .ok (.getfield 23, 3) := by decide +kernel
theorem dX4_readOnce_106 : decode cX4_readOnce 106 = .ok (.bipush 13, 2) := by decide +kernel
theorem dX4_readOnce_108 : decode cX4_readOnce 108 = .ok (.aload_n 0, 1) := by decide +kernel
theorem dX4_readOnce_109 : decode cX4_readOnce 109 = .ok (.iconst 0, 1) := by decide +kernel
theorem dX4_readOnce_110 : decode cX4_readOnce 110 = .ok (.bipush 10, 2) := by decide +kernel
theorem dX4_readOnce_112 : decode cX4_readOnce 112 = .ok (.invokevirtual 107, 3) := by decide +kernel
theorem dX4_readOnce_115 : decode cX4_readOnce 115 = .ok (.iastore, 1) := by decide +kernel
theorem dX4_readOnce_116 : decode cX4_readOnce 116 = .ok (.return_, 1) := by decide +kernel
theorem dX4_readMore_0 : decode cX4_readMore 0 = .ok (.iload_n 1, 1) := by decide +kernel
theorem dX4_readMore_1 : decode cX4_readMore 1 = .ok (.ifCond .ne 65, 3) := by decide +kernel
theorem dX4_readMore_4 : decode cX4_readMore 4 = .ok (.aload_n 0, 1) := by decide +kernel
theorem dX4_readMore_5 : decode cX4_readMore 5 = .ok (.getfield 23, 3) := by decide +kernel
theorem dX4_readMore_8 : decode cX4_readMore 8 = .ok (.aload_n 0, 1) := by decide +kernel
theorem dX4_readMore_9 : decode cX4_readMore 9 = .ok (.getfield 117, 3) := by decide +kernel
theorem dX4_readMore_12 : decode cX4_readMore 12 = .ok (.aload_n 0, 1) := by decide +kernel
theorem dX4_readMore_13 : decode cX4_readMore 13 = .ok (.bipush 8, 2) := by decide +kernel
theorem dX4_readMore_15 : decode cX4_readMore 15 = .ok (.iconst 5, 1) := by decide +kernel
theorem dX4_readMore_16 : decode cX4_readMore 16 = .ok (.invokevirtual 114, 3) := by decide +kernel
theorem dX4_readMore_19 : decode cX4_readMore 19 = .ok (.iastore, 1) := by decide +kernel
theorem dX4_readMore_20 : decode cX4_readMore 20 = .ok (.aload_n 0, 1) := by decide +kernel
theorem dX4_readMore_21 : decode cX4_readMore 21 = .ok (.getfield 26, 3) := by decide +kernel
theorem dX4_readMore_24 : decode cX4_readMore 24 = .ok (.aload_n 0, 1) := by decide +kernel
theorem dX4_readMore_25 : decode cX4_readMore 25 = .ok (.getfield 117, 3) := by decide +kernel
theorem dX4_readMore_28 : decode cX4_readMore 28 = .ok (.aload_n 0, 1) := by decide +kernel
theorem dX4_readMore_29 : decode cX4_readMore 29 = .ok (.iconst 1, 1) := by decide +kernel
theorem dX4_readMore_30 : decode cX4_readMore 30 = .ok (.iconst 3, 1) := by decide +kernel
theorem dX4_readMore_31 : decode cX4_readMore 31 = .ok (.invokevirtual 107, 3) := by decide +kernel
theorem dX4_readMore_34 : decode cX4_readMore 34 = .ok (.iastore, 1) := by decide +kernel
theorem dX4_readMore_35 : decode cX4_readMore 35 = .ok (.aload_n 0, 1) := by decide +kernel
theorem dX4_readMore_36 : decode cX4_readMore 36 = .ok (.getfield 23, 3) := by decide +kernel
theorem dX4_readMore_39 : decode cX4_readMore 39 = .ok (.iconst 4, 1) := by decide +kernel
theorem dX4_readMore_40 : decode cX4_readMore 40 = .ok (.aload_n 0, 1) := by decide +kernel
theorem dX4_readMore_41 : decode cX4_readMore 41 = .ok (.getfield 117, 3) := by decide +kernel
theorem dX4_readMore_44 : decode cX4_readMore 44 = .ok (.iadd, 1) := by decide +kernel
theorem dX4_readMore_45 : decode cX4_readMore 45 = .ok (.aload_n 0, 1) := by decide +kernel
theorem dX4_readMore_46 : decode cX4_readMore 46 = .ok (.iconst 0, 1) := by decide +kernel
theorem dX4_readMore_47 : decode cX4_readMore 47 = .ok (.bipush 20, 2) := by decide +kernel
theorem dX4_readMore_49 : decode cX4_readMore 49 = .ok (.invokevirtual 107, 3) := by decide +kernel
theorem dX4_readMore_52 : decode cX4_readMore 52 = .ok (.iastore, 1) := by decide +kernel
theorem dX4_readMore_53 : decode cX4_readMore 53 = .ok (.aload_n 0, 1) := by decide +kernel
theorem dX4_readMore_54 : decode cX4_readMore 54 = .ok (.dup, 1) := by decide +kernel
theorem dX4_readMore_55 : decode cX4_readMore 55 = .ok (.getfield 117, 3) := by decide +kernel
theorem dX4_readMore_58 : decode cX4_readMore 58 = .ok (.iconst 1, 1) := by decide +kernel
theorem dX4_readMore_59 : decode cX4_readMore 59 = .ok (.iadd, 1) := by decide +kernel
theorem dX4_readMore_60 : decode cX4_readMore 60 = .ok (.putfield 117, 3) := by decide +kernel
theorem dX4_readMore_63 : decode cX4_readMore 63 = .ok (.goto 178, 3) := by decide +kernel
theorem dX4_readMore_66 : decode cX4_readMore 66 = .ok (.iload_n 1, 1) := by decide +kernel
theorem dX4_readMore_67 : decode cX4_readMore 67 = .ok (.bipush 6, 2) := by decide +kernel
theorem dX4_readMore_69 : decode cX4_readMore 69 = .ok (.if_icmp .ne 73, 3) := by decide +kernel
theorem dX4_readMore_72 : decode cX4_readMore 72 = .ok (.aload_n 0, 1) := by decide +kernel
theorem dX4_readMore_73 : decode cX4_readMore 73 = .ok (.getfield 29, 3) := by decide +kernel
theorem dX4_readMore_76 : decode cX4_readMore 76 = .ok (.iconst 2, 1) := by decide +kernel
theorem dX4_readMore_77 : decode cX4_readMore 77 = .ok (.aload_n 0, 1) := by decide +kernel
theorem dX4_readMore_78 : decode cX4_readMore 78 = .ok (.getfield 120, 3) := by decide +kernel
theorem dX4_readMore_81 : decode cX4_readMore 81 = .ok (.imul, 1) := by decide +kernel
theorem dX4_readMore_82 : decode cX4_readMore 82 = .ok (.aload_n 0, 1) := by decide +kernel
theorem dX4_readMore_83 : decode cX4_readMore 83 = .ok (.iconst 1, 1) := by decide +kernel
theorem dX4_readMore_84 : decode cX4_readMore 84 = .ok (.bipush 60, 2) := by decide +kernel
theorem dX4_readMore_86 : decode cX4_readMore 86 = .ok (.invokevirtual 107, 3) := by decide +kernel
theorem dX4_readMore_89 : decode cX4_readMore 89 = .ok (.iastore, 1) := by decide +kernel
theorem dX4_readMore_90 : decode cX4_readMore 90 = .ok (.aload_n 0, 1) := by decide +kernel
theorem dX4_readMore_91 : decode cX4_readMore 91 = .ok (.getfield 23, 3) := by decide +kernel
theorem dX4_readMore_94 : decode cX4_readMore 94 = .ok (.bipush 17, 2) := by decide +kernel
theorem dX4_readMore_96 : decode cX4_readMore 96 = .ok (.aload_n 0, 1) := by decide +kernel
theorem dX4_readMore_97 : decode cX4_readMore 97 = .ok (.getfield 120, 3) := by decide +kernel
theorem dX4_readMore_100 : decode cX4_readMore 100 = .ok (.iadd, 1) := by decide +kernel
theorem dX4_readMore_101 : decode cX4_readMore 101 = .ok (.aload_n 0, 1) := by decide +kernel
theorem dX4_readMore_102 : decode cX4_readMore 102 = .ok (.iconst 0, 1) := by decide +kernel
theorem dX4_readMore_103 : decode cX4_readMore 103 = .ok (.bipush 10, 2) := by decide +kernel
theorem dX4_readMore_105 : decode cX4_readMore 105 = .ok (.invokevirtual 107, 3) := by decide +kernel
theorem dX4_readMore_108 : decode cX4_readMore 108 = .ok (.iastore, 1) := by decide +kernel
theorem dX4_readMore_109 : decode cX4_readMore 109 = .ok (.aload_n 0, 1) := by decide +kernel
theorem dX4_readMore_110 : decode cX4_readMore 110 = .ok (.getfield 29, 3) := by decide +kernel
theorem dX4_readMore_113 : decode cX4_readMore 113 = .ok (.iconst 2, 1) := by decide +kernel
theorem dX4_readMore_114 : decode cX4_readMore 114 = .ok (.aload_n 0, 1) := by decide +kernel
theorem dX4_readMore_115 : decode cX4_readMore 115 = .ok (.getfield 120, 3) := by decide +kernel
theorem dX4_readMore_118 : decode cX4_readMore 118 = .ok (.imul, 1) := by decide +kernel
theorem dX4_readMore_119 : decode cX4_readMore 119 = .ok (.iconst 1, 1) := by decide +kernel
theorem dX4_readMore_120 : decode cX4_readMore 120 = .ok (.iadd, 1) := by decide +kernel
theorem dX4_readMore_121 : decode cX4_readMore 121 = .ok (.aload_n 0, 1) := by decide +kernel
theorem dX4_readMore_122 : decode cX4_readMore 122 = .ok (.iconst 1, 1) := by decide +kernel
theorem dX4_readMore_123 : decode cX4_readMore 123 = .ok (.bipush 20, 2) := by decide +kernel
theorem dX4_readMore_125 : decode cX4_readMore 125 = .ok (.invokevirtual 107, 3) := by decide +kernel
theorem dX4_readMore_128 : decode cX4_readMore 128 = .ok (.iastore, 1) := by decide +kernel
theorem dX4_readMore_129 : decode cX4_readMore 129 = .ok (.aload_n 0, 1) := by decide +kernel
theorem dX4_readMore_130 : decode cX4_readMore 130 = .ok (.dup, 1) := by decide +kernel
theorem dX4_readMore_131 : decode cX4_readMore 131 = .ok (.getfield 120, 3) := by decide +kernel
theorem dX4_readMore_134 : decode cX4_readMore 134 = .ok (.iconst 1, 1) := by decide +kernel
theorem dX4_readMore_135 : decode cX4_readMore 135 = .ok (.iadd, 1) := by decide +kernel
theorem dX4_readMore_136 : decode cX4_readMore 136 = .ok (.putfield 120, 3) := by decide +kernel
theorem dX4_readMore_139 : decode cX4_readMore 139 = .ok (.goto 102, 3) := by decide +kernel
theorem dX4_readMore_142 : decode cX4_readMore 142 = .ok (.aload_n 0, 1) := by decide +kernel
theorem dX4_readMore_143 : decode cX4_readMore 143 = .ok (.getfield 66, 3) := by decide +kernel
theorem dX4_readMore_146 : decode cX4_readMore 146 = .ok (.ifCond .ne 46, 3) := by decide +kernel
theorem dX4_readMore_149 : decode cX4_readMore 149 = .ok (.aload_n 0, 1) := by decide +kernel
theorem dX4_readMore_150 : decode cX4_readMore 150 = .ok (.getfield 75, 3) := by decide +kernel
theorem dX4_readMore_153 : decode cX4_readMore 153 = .ok (.iconst 2, 1) := by decide +kernel
theorem dX4_readMore_154 : decode cX4_readMore 154 = .ok (.if_icmp .ne 38, 3) := by decide +kernel
theorem dX4_readMore_157 : decode cX4_readMore 157 = .ok (.aload_n 0, 1) := by decide +kernel
theorem dX4_readMore_158 : decode cX4_readMore 158 = .ok (.getfield 85, 3) := by decide +kernel
theorem dX4_readMore_161 : decode cX4_readMore 161 = .ok (.i2l, 1) := by decide +kernel
theorem dX4_readMore_162 : decode cX4_readMore 162 = .ok (.lconst 0, 1) := by decide +kernel
theorem dX4_readMore_163 : decode cX4_readMore 163 = .ok (.ldc2_w 123, 3) := by decide +kernel
theorem dX4_readMore_166 : decode cX4_readMore 166 = .ok (.invokestatic 59, 3) := by decide +kernel
theorem dX4_readMore_169 : decode cX4_readMore 169 = .ok (.ifCond .eq 23, 3) := by decide +kernel
theorem dX4_readMore_172 : decode cX4_readMore 172 = .ok (.aload_n 0, 1) := by decide +kernel
theorem dX4_readMore_173 : decode cX4_readMore 173 = .ok (.getfield 125, 3) := by decide +kernel
theorem dX4_readMore_176 : decode cX4_readMore 176 = .ok (.aload_n 0, 1) := by decide +kernel
theorem dX4_readMore_177 : decode cX4_readMore 177 = .ok (.getfield 85, 3) := by decide +kernel
theorem dX4_readMore_180 : decode cX4_readMore 180 = .ok (.ishr, 1) := by decide +kernel
theorem dX4_readMore_181 : decode cX4_readMore 181 = .ok (.iconst 1, 1) := by decide +kernel
theorem dX4_readMore_182 : decode cX4_readMore 182 = .ok (.iand, 1) := by decide +kernel
theorem dX4_readMore_183 : decode cX4_readMore 183 = .ok (.iconst 1, 1) := by decide +kernel
theorem dX4_readMore_184 : decode cX4_readMore 184 = .ok (.if_icmp .ne 8, 3) := by decide +kernel
theorem dX4_readMore_187 : decode cX4_readMore 187 = .ok (.aload_n 0, 1) := by decide +kernel
theorem dX4_readMore_188 : decode cX4_readMore 188 = .ok (.iconst 4, 1) := by decide +kernel
theorem dX4_readMore_189 : decode cX4_readMore 189 = .ok (.invokevirtual 96, 3) := by decide +kernel
theorem dX4_readMore_192 : decode cX4_readMore 192 = .ok (.aload_n 0, 1) := by decide +kernel
theorem dX4_readMore_193 : decode cX4_readMore 193 = .ok (.iconst 0, 1) := by decide +kernel
theorem dX4_readMore_194 : decode cX4_readMore 194 = .ok (.iconst 2, 1) := by decide +kernel
theorem dX4_readMore_195 : decode cX4_readMore 195 = .ok (.invokevirtual 107, 3) := by decide +kernel
theorem dX4_readMore_198 : decode cX4_readMore 198 = .ok (.istore_n 2, 1) := by decide +kernel
theorem dX4_readMore_199 : decode cX4_readMore 199 = .ok (.aload_n 0, 1) := by decide +kernel
theorem dX4_readMore_200 : decode cX4_readMore 200 = .ok (.dup, 1) := by decide +kernel
theorem dX4_readMore_201 : decode cX4_readMore 201 = .ok (.getfield 125, 3) := by decide +kernel
theorem dX4_readMore_204 : decode cX4_readMore 204 = .ok (.iconst 1, 1) := by decide +kernel
theorem dX4_readMore_205 : decode cX4_readMore 205 = .ok (.iload_n 2, 1) := by decide +kernel
theorem dX4_readMore_206 : decode cX4_readMore 206 = .ok (.ishl, 1) := by decide +kernel
theorem dX4_readMore_207 : decode cX4_readMore 207 = .ok (.ior, 1) := by decide +kernel
theorem dX4_readMore_208 : decode cX4_readMore 208 = .ok (.putfield 125, 3) := by decide +kernel
theorem dX4_readMore_211 : decode cX4_readMore 211 = .ok (.aload_n 0, 1) := by decide +kernel
theorem dX4_readMore_212 : decode cX4_readMore 212 = .ok (.iload_n 2, 1) := by decide +kernel
theorem dX4_readMore_213 : decode cX4_readMore 213 = .ok (.aload_n 0, 1) := by decide +kernel
theorem dX4_readMore_214 : decode cX4_readMore 214 = .ok (.getfield 128, 3) := by decide +kernel
theorem dX4_readMore_217 : decode cX4_readMore 217 = .ok (.if_icmp .le 7, 3) := by decide +kernel
theorem dX4_readMore_220 : decode cX4_readMore 220 = .ok (.iload_n 2, 1) := by decide +kernel
theorem dX4_readMore_221 : decode cX4_readMore 221 = .ok (.goto 7, 3) := by decide +kernel
theorem dX4_readMore_224 : decode cX4_readMore 224 = .ok (.aload_n 0, 1) := by decide +kernel
theorem dX4_readMore_225 : decode cX4_readMore 225 = .ok (.getfield 128, 3) := by decide +kernel
theorem dX4_readMore_228 : decode cX4_readMore 228 = .ok (.putfield 128, 3) := by decide +kernel
theorem dX4_readMore_231 : decode cX4_readMore 231 = .ok (.aload_n 0, 1) := by decide +kernel
theorem dX4_readMore_232 : decode cX4_readMore 232 = .ok (.getfield 23, 3) := by decide +kernel
theorem dX4_readMore_235 : decode cX4_readMore 235 = .ok (.bipush 14, 2) := by decide +kernel
theorem dX4_readMore_237 : decode cX4_readMore 237 = .ok (.iload_n 2, 1) := by decide +kernel
theorem dX4_readMore_238 : decode cX4_readMore 238 = .ok (.iadd, 1) := by decide +kernel
theorem dX4_readMore_239 : decode cX4_readMore 239 = .ok (.iconst 1, 1) := by decide +kernel
theorem dX4_readMore_240 : decode cX4_readMore 240 = .ok (.iastore, 1) := by decide +kernel
theorem dX4_readMore_241 : decode cX4_readMore 241 = .ok (.return_, 1) := by decide +kernel
theorem dX4_readLine_0 : decode cX4_readLine 0 = .ok (.aload_n 0, 1) := by decide +kernel
theorem dX4_readLine_1 : decode cX4_readLine 1 = .ok (.invokevirtual 103, 3) := by decide +kernel
theorem dX4_readLine_4 : decode cX4_readLine 4 = .ok (.istore_n 1, 1) := by decide +kernel
theorem dX4_readLine_5 : decode cX4_readLine 5 = .ok (.iload_n 1, 1) := by decide +kernel
theorem dX4_readLine_6 : decode cX4_readLine 6 = .ok (.i2l, 1) := by decide +kernel
theorem dX4_readLine_7 : decode cX4_readLine 7 = .ok (.lconst 0, 1) := by decide +kernel
theorem dX4_readLine_8 : decode cX4_readLine 8 = .ok (.ldc2_w 131, 3) := by decide +kernel
theorem dX4_readLine_11 : decode cX4_readLine 11 = .ok (.invokestatic 59, 3) := by decide +kernel
theorem dX4_readLine_14 : decode cX4_readLine 14 = .ok (.ifCond .ne 9, 3) := by decide +kernel
theorem dX4_readLine_17 : decode cX4_readLine 17 = .ok (.aload_n 0, 1) := by decide +kernel
theorem dX4_readLine_18 : decode cX4_readLine 18 = .ok (.iconst 2, 1) := by decide +kernel
theorem dX4_readLine_19 : decode cX4_readLine 19 = .ok (.invokevirtual 96, 3) := by decide +kernel
theorem dX4_readLine_22 : decode cX4_readLine 22 = .ok (.return_, 1) := by decide +kernel
theorem dX4_readLine_23 : decode cX4_readLine 23 = .ok (.iload_n 1, 1) := by decide +kernel
theorem dX4_readLine_24 : decode cX4_readLine 24 = .ok (.ifCond .ne 11, 3) := by decide +kernel
theorem dX4_readLine_27 : decode cX4_readLine 27 = .ok (.aload_n 0, 1) := by decide +kernel
theorem dX4_readLine_28 : decode cX4_readLine 28 = .ok (.getfield 117, 3) := by decide +kernel
theorem dX4_readLine_31 : decode cX4_readLine 31 = .ok (.iconst 4, 1) := by decide +kernel
theorem dX4_readLine_32 : decode cX4_readLine 32 = .ok (.if_icmp .eq 17, 3) := by decide +kernel
theorem dX4_readLine_35 : decode cX4_readLine 35 = .ok (.iload_n 1, 1) := by decide +kernel
theorem dX4_readLine_36 : decode cX4_readLine 36 = .ok (.bipush 6, 2) := by decide +kernel
theorem dX4_readLine_38 : decode cX4_readLine 38 = .ok (.if_icmp .ne 16, 3) := by decide +kernel
theorem dX4_readLine_41 : decode cX4_readLine 41 = .ok (.aload_n 0, 1) := by decide +kernel
theorem dX4_readLine_42 : decode cX4_readLine 42 = .ok (.getfield 120, 3) := by decide +kernel
theorem dX4_readLine_45 : decode cX4_readLine 45 = .ok (.iconst 3, 1) := by decide +kernel
theorem dX4_readLine_46 : decode cX4_readLine 46 = .ok (.if_icmp .ne 8, 3) := by decide +kernel
theorem dX4_readLine_49 : decode cX4_readLine 49 = .ok (.aload_n 0, 1) := by decide +kernel
theorem dX4_readLine_50 : decode cX4_readLine 50 = .ok (.iconst 5, 1) := by decide +kernel
theorem dX4_readLine_51 : decode cX4_readLine 51 = .ok (.invokevirtual 96, 3) := by decide +kernel
theorem dX4_readLine_54 : decode cX4_readLine 54 = .ok (.iload_n 1, 1) := by decide +kernel
theorem dX4_readLine_55 : decode cX4_readLine 55 = .ok (.i2l, 1) := by decide +kernel
theorem dX4_readLine_56 : decode cX4_readLine 56 = .ok (.lconst 1, 1) := by decide +kernel
theorem dX4_readLine_57 : decode cX4_readLine 57 = .ok (.ldc2_w 133, 3) := by decide +kernel
theorem dX4_readLine_60 : decode cX4_readLine 60 = .ok (.invokestatic 59, 3) := by decide +kernel
theorem dX4_readLine_63 : decode cX4_readLine 63 = .ok (.ifCond .eq 20, 3) := by decide +kernel
theorem dX4_readLine_66 : decode cX4_readLine 66 = .ok (.aload_n 0, 1) := by decide +kernel
theorem dX4_readLine_67 : decode cX4_readLine 67 = .ok (.getfield 135, 3) := by decide +kernel
theorem dX4_readLine_70 : decode cX4_readLine 70 = .ok (.iload_n 1, 1) := by decide +kernel
theorem dX4_readLine_71 : decode cX4_readLine 71 = .ok (.ishr, 1) := by decide +kernel
theorem dX4_readLine_72 : decode cX4_readLine 72 = .ok (.iconst 1, 1) := by decide +kernel
theorem dX4_readLine_73 : decode cX4_readLine 73 = .ok (.iand, 1) := by decide +kernel
theorem dX4_readLine_74 : decode cX4_readLine 74 = .ok (.iconst 1, 1) := by decide +kernel
theorem dX4_readLine_75 : decode cX4_readLine 75 = .ok (.if_icmp .ne 8, 3) := by decide +kernel
theorem dX4_readLine_78 : decode cX4_readLine 78 = .ok (.aload_n 0, 1) := by decide +kernel
theorem dX4_readLine_79 : decode cX4_readLine 79 = .ok (.iconst 4, 1) := by decide +kernel
theorem dX4_readLine_80 : decode cX4_readLine 80 = .ok (.invokevirtual 96, 3) := by decide +kernel
theorem dX4_readLine_83 : decode cX4_readLine 83 = .ok (.aload_n 0, 1) := by decide +kernel
theorem dX4_readLine_84 : decode cX4_readLine 84 = .ok (.dup, 1) := by decide +kernel
theorem dX4_readLine_85 : decode cX4_readLine 85 = .ok (.getfield 135, 3) := by decide +kernel
theorem dX4_readLine_88 : decode cX4_readLine 88 = .ok (.iconst 1, 1) := by decide +kernel
theorem dX4_readLine_89 : decode cX4_readLine 89 = .ok (.iload_n 1, 1) := by decide +kernel
theorem dX4_readLine_90 : decode cX4_readLine 90 = .ok (.ishl, 1) := by decide +kernel
theorem dX4_readLine_91 : decode cX4_readLine 91 = .ok (.ior, 1) := by decide +kernel
theorem dX4_readLine_92 : decode cX4_readLine 92 = .ok (.putfield 135, 3) := by decide +kernel
theorem dX4_readLine_95 : decode cX4_readLine 95 = .ok (.aload_n 0, 1) := by decide +kernel
theorem dX4_readLine_96 : decode cX4_readLine 96 = .ok (.invokevirtual 100, 3) := by decide +kernel
theorem dX4_readLine_99 : decode cX4_readLine 99 = .ok (.aload_n 0, 1) := by decide +kernel
theorem dX4_readLine_100 : decode cX4_readLine 100 = .ok (.getfield 66, 3) := by decide +kernel
theorem dX4_readLine_103 : decode cX4_readLine 103 = .ok (.ifCond .le 4, 3) := by decide +kernel
theorem dX4_readLine_106 : decode cX4_readLine 106 = .ok (.return_, 1) := by decide +kernel
theorem dX4_readLine_107 : decode cX4_readLine 107 = .ok (.iload_n 1, 1) := by decide +kernel
theorem dX4_readLine_108 : decode cX4_readLine 108 = .ok (.i2l, 1) := by decide +kernel
theorem dX4_readLine_109 : decode cX4_readLine 109 = .ok (.lconst 1, 1) := by decide +kernel
theorem dX4_readLine_110 : decode cX4_readLine 110 = .ok (.ldc2_w 133, 3) := by decide +kernel
theorem dX4_readLine_113 : decode cX4_readLine 113 = .ok (.invokestatic 59, 3) := by decide +kernel
theorem dX4_readLine_116 : decode cX4_readLine 116 = .ok (.ifCond .eq 11, 3) := by decide +kernel
theorem dX4_readLine_119 : decode cX4_readLine 119 = .ok (.aload_n 0, 1) := by decide +kernel
theorem dX4_readLine_120 : decode cX4_readLine 120 = .ok (.iload_n 1, 1) := by decide +kernel
theorem dX4_readLine_121 : decode cX4_readLine 121 = .ok (.invokevirtual 138, 3) := by decide +kernel
theorem dX4_readLine_124 : decode cX4_readLine 124 = .ok (.goto 8, 3) := by decide +kernel
theorem dX4_readLine_127 : decode cX4_readLine 127 = .ok (.aload_n 0, 1) := by decide +kernel
theorem dX4_readLine_128 : decode cX4_readLine 128 = .ok (.iload_n 1, 1) := by decide +kernel
theorem dX4_readLine_129 : decode cX4_readLine 129 = .ok (.invokevirtual 141, 3) := by decide +kernel
theorem dX4_readLine_132 : decode cX4_readLine 132 = .ok (.aload_n 0, 1) := by decide +kernel
theorem dX4_readLine_133 : decode cX4_readLine 133 = .ok (.getfield 66, 3) := by decide +kernel
theorem dX4_readLine_136 : decode cX4_readLine 136 = .ok (.ifCond .ne 16, 3) := by decide +kernel
theorem dX4_readLine_139 : decode cX4_readLine 139 = .ok (.aload_n 0, 1) := by decide +kernel
theorem dX4_readLine_140 : decode cX4_readLine 140 = .ok (.getfield 75, 3) := by decide +kernel
theorem dX4_readLine_143 : decode cX4_readLine 143 = .ok (.iconst 3, 1) := by decide +kernel
theorem dX4_readLine_144 : decode cX4_readLine 144 = .ok (.if_icmp .eq 8, 3) := by decide +kernel
theorem dX4_readLine_147 : decode cX4_readLine 147 = .ok (.aload_n 0, 1) := by decide +kernel
theorem dX4_readLine_148 : decode cX4_readLine 148 = .ok (.iconst 2, 1) := by decide +kernel
theorem dX4_readLine_149 : decode cX4_readLine 149 = .ok (.invokevirtual 96, 3) := by decide +kernel
theorem dX4_readLine_152 : decode cX4_readLine 152 = .ok (.aload_n 0, 1) := by decide +kernel
theorem dX4_readLine_153 : decode cX4_readLine 153 = .ok (.invokevirtual 100, 3) := by decide +kernel
theorem dX4_readLine_156 : decode cX4_readLine 156 = .ok (.return_, 1) := by decide +kernel
theorem dX4_text_0 : decode cX4_text 0 = .ok (.aload_n 0, 1) := by decide +kernel
theorem dX4_text_1 : decode cX4_text 1 = .ok (.iconst 0, 1) := by decide +kernel
theorem dX4_text_2 : decode cX4_text 2 = .ok (.putfield 66, 3) := by decide +kernel
theorem dX4_text_5 : decode cX4_text 5 = .ok (.aload_n 0, 1) := by decide +kernel
theorem dX4_text_6 : decode cX4_text 6 = .ok (.iconst 0, 1) := by decide +kernel
theorem dX4_text_7 : decode cX4_text 7 = .ok (.putfield 78, 3) := by decide +kernel
theorem dX4_text_10 : decode cX4_text 10 = .ok (.aload_n 0, 1) := by decide +kernel
theorem dX4_text_11 : decode cX4_text 11 = .ok (.iconst 0, 1) := by decide +kernel
theorem dX4_text_12 : decode cX4_text 12 = .ok (.putfield 117, 3) := by decide +kernel
theorem dX4_text_15 : decode cX4_text 15 = .ok (.aload_n 0, 1) := by decide +kernel
theorem dX4_text_16 : decode cX4_text 16 = .ok (.iconst 0, 1) := by decide +kernel
theorem dX4_text_17 : decode cX4_text 17 = .ok (.putfield 120, 3) := by decide +kernel
theorem dX4_text_20 : decode cX4_text 20 = .ok (.aload_n 0, 1) := by decide +kernel
theorem dX4_text_21 : decode cX4_text 21 = .ok (.bipush 20, 2) := by decide +kernel
theorem dX4_text_23 : decode cX4_text 23 = .ok (.putfield 111, 3) := by decide +kernel
theorem dX4_text_26 : decode cX4_text 26 = .ok (.aload_n 0, 1) := by decide +kernel
theorem dX4_text_27 : decode cX4_text 27 = .ok (.iconst 0, 1) := by decide +kernel
theorem dX4_text_28 : decode cX4_text 28 = .ok (.putfield 135, 3) := by decide +kernel
theorem dX4_text_31 : decode cX4_text 31 = .ok (.aload_n 0, 1) := by decide +kernel
theorem dX4_text_32 : decode cX4_text 32 = .ok (.iconst 0, 1) := by decide +kernel
theorem dX4_text_33 : decode cX4_text 33 = .ok (.putfield 125, 3) := by decide +kernel
theorem dX4_text_36 : decode cX4_text 36 = .ok (.aload_n 0, 1) := by decide +kernel
theorem dX4_text_37 : decode cX4_text 37 = .ok (.iconst (-1), 1) := by decide +kernel
theorem dX4_text_38 : decode cX4_text 38 = .ok (.putfield 128, 3) := by decide +kernel
theorem dX4_text_41 : decode cX4_text 41 = .ok (.iconst 0, 1) := by decide +kernel
theorem dX4_text_42 : decode cX4_text 42 = .ok (.istore_n 1, 1) := by decide +kernel
theorem dX4_text_43 : decode cX4_text 43 = .ok (.iconst 0, 1) := by decide +kernel
theorem dX4_text_44 : decode cX4_text 44 = .ok (.istore_n 2, 1) := by decide +kernel
theorem dX4_text_45 : decode cX4_text 45 = .ok (.iload_n 2, 1) := by decide +kernel
theorem dX4_text_46 : decode cX4_text 46 = .ok (.bipush 20, 2) := by decide +kernel
theorem dX4_text_48 : decode cX4_text 48 = .ok (.if_icmp .ge 16, 3) := by decide +kernel
theorem dX4_text_51 : decode cX4_text 51 = .ok (.aload_n 0, 1) := by decide +kernel
theorem dX4_text_52 : decode cX4_text 52 = .ok (.getfield 23, 3) := by decide +kernel
theorem dX4_text_55 : decode cX4_text 55 = .ok (.iload_n 2, 1) := by decide +kernel
theorem dX4_text_56 : decode cX4_text 56 = .ok (.iconst 0, 1) := by decide +kernel
theorem dX4_text_57 : decode cX4_text 57 = .ok (.iastore, 1) := by decide +kernel
theorem dX4_text_58 : decode cX4_text 58 = .ok (.iinc 2 1, 3) := by decide +kernel
theorem dX4_text_61 : decode cX4_text 61 = .ok (.goto (-16), 3) := by decide +kernel
theorem dX4_text_64 : decode cX4_text 64 = .ok (.aload_n 0, 1) := by decide +kernel
theorem dX4_text_65 : decode cX4_text 65 = .ok (.invokevirtual 100, 3) := by decide +kernel
theorem dX4_text_68 : decode cX4_text 68 = .ok (.aload_n 0, 1) := by decide +kernel
theorem dX4_text_69 : decode cX4_text 69 = .ok (.getfield 66, 3) := by decide +kernel
theorem dX4_text_72 : decode cX4_text 72 = .ok (.ifCond .ne 20, 3) := by decide +kernel
theorem dX4_text_75 : decode cX4_text 75 = .ok (.aload_n 0, 1) := by decide +kernel
theorem dX4_text_76 : decode cX4_text 76 = .ok (.getfield 75, 3) := by decide +kernel
theorem dX4_text_79 : decode cX4_text 79 = .ok (.ifCond .eq 13, 3) := by decide +kernel
theorem dX4_text_82 : decode cX4_text 82 = .ok (.aload_n 0, 1) := by decide +kernel
theorem dX4_text_83 : decode cX4_text 83 = .ok (.invokevirtual 144, 3) := by decide +kernel
theorem dX4_text_86 : decode cX4_text 86 = .ok (.iinc 1 1, 3) := by decide +kernel
theorem dX4_text_89 : decode cX4_text 89 = .ok (.goto (-21), 3) := by decide +kernel
theorem dX4_text_92 : decode cX4_text 92 = .ok (.aload_n 0, 1) := by decide +kernel
theorem dX4_text_93 : decode cX4_text 93 = .ok (.getfield 66, 3) := by decide +kernel
theorem dX4_text_96 : decode cX4_text 96 = .ok (.ifCond .ne 20, 3) := by decide +kernel
theorem dX4_text_99 : decode cX4_text 99 = .ok (.aload_n 0, 1) := by decide +kernel
theorem dX4_text_100 : decode cX4_text 100 = .ok (.getfield 128, 3) := by decide +kernel
theorem dX4_text_103 : decode cX4_text 103 = .ok (.aload_n 0, 1) := by decide +kernel
theorem dX4_text_104 : decode cX4_text 104 = .ok (.getfield 120, 3) := by decide +kernel
theorem dX4_text_107 : decode cX4_text 107 = .ok (.if_icmp .lt 9, 3) := by decide +kernel
theorem dX4_text_110 : decode cX4_text 110 = .ok (.aload_n 0, 1) := by decide +kernel
theorem dX4_text_111 : decode cX4_text 111 = .ok (.bipush 6, 2) := by decide +kernel
theorem dX4_text_113 : decode cX4_text 113 = .ok (.invokevirtual 96, 3) := by decide +kernel
theorem dX4_text_116 : decode cX4_text 116 = .ok (.aload_n 0, 1) := by decide +kernel
theorem dX4_text_117 : decode cX4_text 117 = .ok (.iconst 0, 1) := by decide +kernel
theorem dX4_text_118 : decode cX4_text 118 = .ok (.putfield 63, 3) := by decide +kernel
theorem dX4_text_121 : decode cX4_text 121 = .ok (.aload_n 0, 1) := by decide +kernel
theorem dX4_text_122 : decode cX4_text 122 = .ok (.aload_n 0, 1) := by decide +kernel
theorem dX4_text_123 : decode cX4_text 123 = .ok (.getfield 66, 3) := by decide +kernel
theorem dX4_text_126 : decode cX4_text 126 = .ok (.putfield 147, 3) := by decide +kernel
theorem dX4_text_129 : decode cX4_text 129 = .ok (.aload_n 0, 1) := by decide +kernel
theorem dX4_text_130 : decode cX4_text 130 = .ok (.getfield 66, 3) := by decide +kernel
theorem dX4_text_133 : decode cX4_text 133 = .ok (.ifCond .le 11, 3) := by decide +kernel
theorem dX4_text_136 : decode cX4_text 136 = .ok (.bipush (-10), 2) := by decide +kernel
theorem dX4_text_138 : decode cX4_text 138 = .ok (.aload_n 0, 1) := by decide +kernel
theorem dX4_text_139 : decode cX4_text 139 = .ok (.getfield 72, 3) := by decide +kernel
theorem dX4_text_142 : decode cX4_text 142 = .ok (.isub, 1) := by decide +kernel
theorem dX4_text_143 : decode cX4_text 143 = .ok (.ireturn, 1) := by decide +kernel
theorem dX4_text_144 : decode cX4_text 144 = .ok (.iconst 0, 1) := by decide +kernel
theorem dX4_text_145 : decode cX4_text 145 = .ok (.istore_n 2, 1) := by decide +kernel
theorem dX4_text_146 : decode cX4_text 146 = .ok (.iload_n 2, 1) := by decide +kernel
theorem dX4_text_147 : decode cX4_text 147 = .ok (.bipush 20, 2) := by decide +kernel
theorem dX4_text_149 : decode cX4_text 149 = .ok (.if_icmp .ge 55, 3) := by decide +kernel
theorem dX4_text_152 : decode cX4_text 152 = .ok (.aload_n 0, 1) := by decide +kernel
theorem dX4_text_153 : decode cX4_text 153 = .ok (.getfield 7, 3) := by decide +kernel
theorem dX4_text_156 : decode cX4_text 156 = .ok (.iload_n 2, 1) := by decide +kernel
theorem dX4_text_157 : decode cX4_text 157 = .ok (.aload_n 0, 1) := by decide +kernel
theorem dX4_text_158 : decode cX4_text 158 = .ok (.getfield 23, 3) := by decide +kernel
theorem dX4_text_161 : decode cX4_text 161 = .ok (.iload_n 2, 1) := by decide +kernel
theorem dX4_text_162 : decode cX4_text 162 = .ok (.iaload, 1) := by decide +kernel
theorem dX4_text_163 : decode cX4_text 163 = .ok (.iastore, 1) := by decide +kernel
theorem dX4_text_164 : decode cX4_text 164 = .ok (.aload_n 0, 1) := by decide +kernel
theorem dX4_text_165 : decode cX4_text 165 = .ok (.getfield 13, 3) := by decide +kernel
theorem dX4_text_168 : decode cX4_text 168 = .ok (.iload_n 2, 1) := by decide +kernel
theorem dX4_text_169 : decode cX4_text 169 = .ok (.iconst 4, 1) := by decide +kernel
theorem dX4_text_170 : decode cX4_text 170 = .ok (.irem, 1) := by decide +kernel
theorem dX4_text_171 : decode cX4_text 171 = .ok (.aload_n 0, 1) := by decide +kernel
theorem dX4_text_172 : decode cX4_text 172 = .ok (.getfield 26, 3) := by decide +kernel
theorem dX4_text_175 : decode cX4_text 175 = .ok (.iload_n 2, 1) := by decide +kernel
theorem dX4_text_176 : decode cX4_text 176 = .ok (.iconst 4, 1) := by decide +kernel
theorem dX4_text_177 : decode cX4_text 177 = .ok (.irem, 1) := by decide +kernel
theorem dX4_text_178 : decode cX4_text 178 = .ok (.iaload, 1) := by decide +kernel
theorem dX4_text_179 : decode cX4_text 179 = .ok (.iastore, 1) := by decide +kernel
theorem dX4_text_180 : decode cX4_text 180 = .ok (.aload_n 0, 1) := by decide +kernel
theorem dX4_text_181 : decode cX4_text 181 = .ok (.getfield 16, 3) := by decide +kernel
theorem dX4_text_184 : decode cX4_text 184 = .ok (.iload_n 2, 1) := by decide +kernel
theorem dX4_text_185 : decode cX4_text 185 = .ok (.bipush 6, 2) := by decide +kernel
theorem dX4_text_187 : decode cX4_text 187 = .ok (.irem, 1) := by decide +kernel
theorem dX4_text_188 : decode cX4_text 188 = .ok (.aload_n 0, 1) := by decide +kernel
theorem dX4_text_189 : decode cX4_text 189 = .ok (.getfield 29, 3) := by decide +kernel
theorem dX4_text_192 : decode cX4_text 192 = .ok (.iload_n 2, 1) := by decide +kernel
theorem dX4_text_193 : decode cX4_text 193 = .ok (.bipush 6, 2) := by decide +kernel
theorem dX4_text_195 : decode cX4_text 195 = .ok (.irem, 1) := by decide +kernel
theorem dX4_text_196 : decode cX4_text 196 = .ok (.iaload, 1) := by decide +kernel
theorem dX4_text_197 : decode cX4_text 197 = .ok (.iastore, 1) := by decide +kernel
theorem dX4_text_198 : decode cX4_text 198 = .ok (.iinc 2 1, 3) := by decide +kernel
theorem dX4_text_201 : decode cX4_text 201 = .ok (.goto (-55), 3) := by decide +kernel
theorem dX4_text_204 : decode cX4_text 204 = .ok (.aload_n 0, 1) := by decide +kernel
theorem dX4_text_205 : decode cX4_text 205 = .ok (.aload_n 0, 1) := by decide +kernel
theorem dX4_text_206 : decode cX4_text 206 = .ok (.getfield 117, 3) := by decide +kernel
theorem dX4_text_209 : decode cX4_text 209 = .ok (.putfield 150, 3) := by decide +kernel
theorem dX4_text_212 : decode cX4_text 212 = .ok (.aload_n 0, 1) := by decide +kernel
theorem dX4_text_213 : decode cX4_text 213 = .ok (.aload_n 0, 1) := by decide +kernel
theorem dX4_text_214 : decode cX4_text 214 = .ok (.getfield 120, 3) := by decide +kernel
theorem dX4_text_217 : decode cX4_text 217 = .ok (.putfield 153, 3) := by decide +kernel
theorem dX4_text_220 : decode cX4_text 220 = .ok (.aload_n 0, 1) := by decide +kernel
theorem dX4_text_221 : decode cX4_text 221 = .ok (.aload_n 0, 1) := by decide +kernel
theorem dX4_text_222 : decode cX4_text 222 = .ok (.getfield 111, 3) := by decide +kernel
theorem dX4_text_225 : decode cX4_text 225 = .ok (.putfield 19, 3) := by decide +kernel
theorem dX4_text_228 : decode cX4_text 228 = .ok (.aload_n 0, 1) := by decide +kernel
theorem dX4_text_229 : decode cX4_text 229 = .ok (.iconst 0, 1) := by decide +kernel
theorem dX4_text_230 : decode cX4_text 230 = .ok (.putfield 156, 3) := by decide +kernel
theorem dX4_text_233 : decode cX4_text 233 = .ok (.aload_n 0, 1) := by decide +kernel
theorem dX4_text_234 : decode cX4_text 234 = .ok (.aload_n 0, 1) := by decide +kernel
theorem dX4_text_235 : decode cX4_text 235 = .ok (.getfield 150, 3) := by decide +kernel
theorem dX4_text_238 : decode cX4_text 238 = .ok (.putfield 159, 3) := by decide +kernel
theorem dX4_text_241 : decode cX4_text 241 = .ok (.aload_n 0, 1) := by decide +kernel
theorem dX4_text_242 : decode cX4_text 242 = .ok (.iconst 0, 1) := by decide +kernel
theorem dX4_text_243 : decode cX4_text 243 = .ok (.putfield 162, 3) := by decide +kernel
theorem dX4_text_246 : decode cX4_text 246 = .ok (.aload_n 0, 1) := by decide +kernel
theorem dX4_text_247 : decode cX4_text 247 = .ok (.getfield 44, 3) := by decide +kernel
theorem dX4_text_250 : decode cX4_text 250 = .ok (.iconst 0, 1) := by decide +kernel
theorem dX4_text_251 : decode cX4_text 251 = .ok (.iconst 0, 1) := by decide +kernel
theorem dX4_text_252 : decode cX4_text 252 = .ok (.bastore, 1) := by decide +kernel
theorem dX4_text_253 : decode cX4_text 253 = .ok (.aload_n 0, 1) := by decide +kernel
theorem dX4_text_254 : decode cX4_text 254 = .ok (.getfield 44, 3) := by decide +kernel
theorem dX4_text_257 : decode cX4_text 257 = .ok (.iconst 1, 1) := by decide +kernel
theorem dX4_text_258 : decode cX4_text 258 = .ok (.iconst 0, 1) := by decide +kernel
theorem dX4_text_259 : decode cX4_text 259 = .ok (.bastore, 1) := by decide +kernel
theorem dX4_text_260 : decode cX4_text 260 = .ok (.iload_n 1, 1) := by decide +kernel
theorem dX4_text_261 : decode cX4_text 261 = .ok (.ireturn, 1) := by decide +kernel
theorem dX4_fault_0 : decode cX4_fault 0 = .ok (.aload_n 0, 1) := by decide +kernel
theorem dX4_fault_1 : decode cX4_fault 1 = .ok (.getfield 147, 3) := by decide +kernel
theorem dX4_fault_4 : decode cX4_fault 4 = .ok (.ireturn, 1) := by decide +kernel
theorem dX4_isOne_0 : decode cX4_isOne 0 = .ok (.iload_n 1, 1) := by decide +kernel
theorem dX4_isOne_1 : decode cX4_isOne 1 = .ok (.i2l, 1) := by decide +kernel
theorem dX4_isOne_2 : decode cX4_isOne 2 = .ok (.lconst 0, 1) := by decide +kernel
theorem dX4_isOne_3 : decode cX4_isOne 3 = .ok (.aload_n 0, 1) := by decide +kernel
theorem dX4_isOne_4 : decode cX4_isOne 4 = .ok (.getfield 150, 3) := by decide +kernel
theorem dX4_isOne_7 : decode cX4_isOne 7 = .ok (.iconst 1, 1) := by decide +kernel
theorem dX4_isOne_8 : decode cX4_isOne 8 = .ok (.isub, 1) := by decide +kernel
theorem dX4_isOne_9 : decode cX4_isOne 9 = .ok (.i2l, 1) := by decide +kernel
theorem dX4_isOne_10 : decode cX4_isOne 10 = .ok (.invokestatic 59, 3) := by decide +kernel
theorem dX4_isOne_13 : decode cX4_isOne 13 = .ok (.ireturn, 1) := by decide +kernel
theorem dX4_isWell_0 : decode cX4_isWell 0 = .ok (.iload_n 1, 1) := by decide +kernel
theorem dX4_isWell_1 : decode cX4_isWell 1 = .ok (.i2l, 1) := by decide +kernel
theorem dX4_isWell_2 : decode cX4_isWell 2 = .ok (.lconst 0, 1) := by decide +kernel
theorem dX4_isWell_3 : decode cX4_isWell 3 = .ok (.aload_n 0, 1) := by decide +kernel
theorem dX4_isWell_4 : decode cX4_isWell 4 = .ok (.getfield 153, 3) := by decide +kernel
theorem dX4_isWell_7 : decode cX4_isWell 7 = .ok (.iconst 1, 1) := by decide +kernel
theorem dX4_isWell_8 : decode cX4_isWell 8 = .ok (.isub, 1) := by decide +kernel
theorem dX4_isWell_9 : decode cX4_isWell 9 = .ok (.i2l, 1) := by decide +kernel
theorem dX4_isWell_10 : decode cX4_isWell 10 = .ok (.invokestatic 59, 3) := by decide +kernel
theorem dX4_isWell_13 : decode cX4_isWell 13 = .ok (.ireturn, 1) := by decide +kernel
theorem dX4_isPlan_0 : decode cX4_isPlan 0 = .ok (.iload_n 0, 1) := by decide +kernel
theorem dX4_isPlan_1 : decode cX4_isPlan 1 = .ok (.i2l, 1) := by decide +kernel
theorem dX4_isPlan_2 : decode cX4_isPlan 2 = .ok (.lconst 0, 1) := by decide +kernel
theorem dX4_isPlan_3 : decode cX4_isPlan 3 = .ok (.ldc2_w 165, 3) := by decide +kernel
theorem dX4_isPlan_6 : decode cX4_isPlan 6 = .ok (.invokestatic 59, 3) := by decide +kernel
theorem dX4_isPlan_9 : decode cX4_isPlan 9 = .ok (.ireturn, 1) := by decide +kernel
theorem dX4_hourOn_0 : decode cX4_hourOn 0 = .ok (.aload_n 0, 1) := by decide +kernel
theorem dX4_hourOn_1 : decode cX4_hourOn 1 = .ok (.getfield 7, 3) := by decide +kernel
theorem dX4_hourOn_4 : decode cX4_hourOn 4 = .ok (.iload_n 1, 1) := by decide +kernel
theorem dX4_hourOn_5 : decode cX4_hourOn 5 = .ok (.bipush 10, 2) := by decide +kernel
theorem dX4_hourOn_7 : decode cX4_hourOn 7 = .ok (.iadd, 1) := by decide +kernel
theorem dX4_hourOn_8 : decode cX4_hourOn 8 = .ok (.iaload, 1) := by decide +kernel
theorem dX4_hourOn_9 : decode cX4_hourOn 9 = .ok (.bipush 18, 2) := by decide +kernel
theorem dX4_hourOn_11 : decode cX4_hourOn 11 = .ok (.iadd, 1) := by decide +kernel
theorem dX4_hourOn_12 : decode cX4_hourOn 12 = .ok (.ireturn, 1) := by decide +kernel
theorem dX4_isDown_0 : decode cX4_isDown 0 = .ok (.aload_n 0, 1) := by decide +kernel
theorem dX4_isDown_1 : decode cX4_isDown 1 = .ok (.getfield 7, 3) := by decide +kernel
theorem dX4_isDown_4 : decode cX4_isDown 4 = .ok (.iload_n 1, 1) := by decide +kernel
theorem dX4_isDown_5 : decode cX4_isDown 5 = .ok (.iconst 4, 1) := by decide +kernel
theorem dX4_isDown_6 : decode cX4_isDown 6 = .ok (.iadd, 1) := by decide +kernel
theorem dX4_isDown_7 : decode cX4_isDown 7 = .ok (.iload_n 2, 1) := by decide +kernel
theorem dX4_isDown_8 : decode cX4_isDown 8 = .ok (.iadd, 1) := by decide +kernel
theorem dX4_isDown_9 : decode cX4_isDown 9 = .ok (.iaload, 1) := by decide +kernel
theorem dX4_isDown_10 : decode cX4_isDown 10 = .ok (.ifCond .ne 7, 3) := by decide +kernel
theorem dX4_isDown_13 : decode cX4_isDown 13 = .ok (.iconst 1, 1) := by decide +kernel
theorem dX4_isDown_14 : decode cX4_isDown 14 = .ok (.goto 4, 3) := by decide +kernel
theorem dX4_isDown_17 : decode cX4_isDown 17 = .ok (.iconst 0, 1) := by decide +kernel
theorem dX4_isDown_18 : decode cX4_isDown 18 = .ok (.ireturn, 1) := by decide +kernel
theorem dX4_upOn_0 : decode cX4_upOn 0 = .ok (.iconst 0, 1) := by decide +kernel
theorem dX4_upOn_1 : decode cX4_upOn 1 = .ok (.istore_n 2, 1) := by decide +kernel
theorem dX4_upOn_2 : decode cX4_upOn 2 = .ok (.aload_n 0, 1) := by decide +kernel
theorem dX4_upOn_3 : decode cX4_upOn 3 = .ok (.getfield 156, 3) := by decide +kernel
theorem dX4_upOn_6 : decode cX4_upOn 6 = .ok (.istore_n 3, 1) := by decide +kernel
theorem dX4_upOn_7 : decode cX4_upOn 7 = .ok (.iload_n 3, 1) := by decide +kernel
theorem dX4_upOn_8 : decode cX4_upOn 8 = .ok (.aload_n 0, 1) := by decide +kernel
theorem dX4_upOn_9 : decode cX4_upOn 9 = .ok (.getfield 156, 3) := by decide +kernel
theorem dX4_upOn_12 : decode cX4_upOn 12 = .ok (.aload_n 0, 1) := by decide +kernel
theorem dX4_upOn_13 : decode cX4_upOn 13 = .ok (.getfield 159, 3) := by decide +kernel
theorem dX4_upOn_16 : decode cX4_upOn 16 = .ok (.iadd, 1) := by decide +kernel
theorem dX4_upOn_17 : decode cX4_upOn 17 = .ok (.if_icmp .ge 26, 3) := by decide +kernel
theorem dX4_upOn_20 : decode cX4_upOn 20 = .ok (.iload_n 2, 1) := by decide +kernel
theorem dX4_upOn_21 : decode cX4_upOn 21 = .ok (.aload_n 0, 1) := by decide +kernel
theorem dX4_upOn_22 : decode cX4_upOn 22 = .ok (.iload_n 1, 1) := by decide +kernel
theorem dX4_upOn_23 : decode cX4_upOn 23 = .ok (.iload_n 3, 1) := by decide +kernel
theorem dX4_upOn_24 : decode cX4_upOn 24 = .ok (.invokevirtual 167, 3) := by decide +kernel
theorem dX4_upOn_27 : decode cX4_upOn 27 = .ok (.ifCond .eq 7, 3) := by decide +kernel
theorem dX4_upOn_30 : decode cX4_upOn 30 = .ok (.iconst 0, 1) := by decide +kernel
theorem dX4_upOn_31 : decode cX4_upOn 31 = .ok (.goto 4, 3) := by decide +kernel
theorem dX4_upOn_34 : decode cX4_upOn 34 = .ok (.iconst 1, 1) := by decide +kernel
theorem dX4_upOn_35 : decode cX4_upOn 35 = .ok (.iadd, 1) := by decide +kernel
theorem dX4_upOn_36 : decode cX4_upOn 36 = .ok (.istore_n 2, 1) := by decide +kernel
theorem dX4_upOn_37 : decode cX4_upOn 37 = .ok (.iinc 3 1, 3) := by decide +kernel
theorem dX4_upOn_40 : decode cX4_upOn 40 = .ok (.goto (-33), 3) := by decide +kernel
theorem dX4_upOn_43 : decode cX4_upOn 43 = .ok (.iload_n 2, 1) := by decide +kernel
theorem dX4_upOn_44 : decode cX4_upOn 44 = .ok (.ireturn, 1) := by decide +kernel
theorem dX4_pourer_0 : decode cX4_pourer 0 = .ok (.aload_n 0, 1) := by decide +kernel
theorem dX4_pourer_1 : decode cX4_pourer 1 = .ok (.getfield 159, 3) := by decide +kernel
theorem dX4_pourer_4 : decode cX4_pourer 4 = .ok (.ifCond .ne 8, 3) := by decide +kernel
theorem dX4_pourer_7 : decode cX4_pourer 7 = .ok (.bipush (-4), 2) := by decide +kernel
theorem dX4_pourer_9 : decode cX4_pourer 9 = .ok (.goto 18, 3) := by decide +kernel
theorem dX4_pourer_12 : decode cX4_pourer 12 = .ok (.aload_n 0, 1) := by decide +kernel
theorem dX4_pourer_13 : decode cX4_pourer 13 = .ok (.getfield 156, 3) := by decide +kernel
theorem dX4_pourer_16 : decode cX4_pourer 16 = .ok (.aload_n 0, 1) := by decide +kernel
theorem dX4_pourer_17 : decode cX4_pourer 17 = .ok (.iload_n 1, 1) := by decide +kernel
theorem dX4_pourer_18 : decode cX4_pourer 18 = .ok (.invokevirtual 171, 3) := by decide +kernel
theorem dX4_pourer_21 : decode cX4_pourer 21 = .ok (.aload_n 0, 1) := by decide +kernel
theorem dX4_pourer_22 : decode cX4_pourer 22 = .ok (.getfield 159, 3) := by decide +kernel
theorem dX4_pourer_25 : decode cX4_pourer 25 = .ok (.irem, 1) := by decide +kernel
theorem dX4_pourer_26 : decode cX4_pourer 26 = .ok (.iadd, 1) := by decide +kernel
theorem dX4_pourer_27 : decode cX4_pourer 27 = .ok (.ireturn, 1) := by decide +kernel
theorem dX4_wantOf_0 : decode cX4_wantOf 0 = .ok (.aload_n 0, 1) := by decide +kernel
theorem dX4_wantOf_1 : decode cX4_wantOf 1 = .ok (.getfield 7, 3) := by decide +kernel
theorem dX4_wantOf_4 : decode cX4_wantOf 4 = .ok (.iload_n 1, 1) := by decide +kernel
theorem dX4_wantOf_5 : decode cX4_wantOf 5 = .ok (.iconst 4, 1) := by decide +kernel
theorem dX4_wantOf_6 : decode cX4_wantOf 6 = .ok (.iadd, 1) := by decide +kernel
theorem dX4_wantOf_7 : decode cX4_wantOf 7 = .ok (.iload_n 2, 1) := by decide +kernel
theorem dX4_wantOf_8 : decode cX4_wantOf 8 = .ok (.iadd, 1) := by decide +kernel
theorem dX4_wantOf_9 : decode cX4_wantOf 9 = .ok (.iaload, 1) := by decide +kernel
theorem dX4_wantOf_10 : decode cX4_wantOf 10 = .ok (.istore_n 3, 1) := by decide +kernel
theorem dX4_wantOf_11 : decode cX4_wantOf 11 = .ok (.aload_n 0, 1) := by decide +kernel
theorem dX4_wantOf_12 : decode cX4_wantOf 12 = .ok (.getfield 7, 3) := by decide +kernel
theorem dX4_wantOf_15 : decode cX4_wantOf 15 = .ok (.iload_n 1, 1) := by decide +kernel
theorem dX4_wantOf_16 : decode cX4_wantOf 16 = .ok (.iload_n 2, 1) := by decide +kernel
theorem dX4_wantOf_17 : decode cX4_wantOf 17 = .ok (.iadd, 1) := by decide +kernel
theorem dX4_wantOf_18 : decode cX4_wantOf 18 = .ok (.iaload, 1) := by decide +kernel
theorem dX4_wantOf_19 : decode cX4_wantOf 19 = .ok (.tableswitch 66 1 3 #[25, 40, 55], 25) := by decide +kernel
theorem dX4_wantOf_44 : decode cX4_wantOf 44 = .ok (.iload_n 3, 1) := by decide +kernel
theorem dX4_wantOf_45 : decode cX4_wantOf 45 = .ok (.bipush 10, 2) := by decide +kernel
theorem dX4_wantOf_47 : decode cX4_wantOf 47 = .ok (.if_icmp .ge 10, 3) := by decide +kernel
theorem dX4_wantOf_50 : decode cX4_wantOf 50 = .ok (.bipush 10, 2) := by decide +kernel
theorem dX4_wantOf_52 : decode cX4_wantOf 52 = .ok (.iload_n 3, 1) := by decide +kernel
theorem dX4_wantOf_53 : decode cX4_wantOf 53 = .ok (.isub, 1) := by decide +kernel
theorem dX4_wantOf_54 : decode cX4_wantOf 54 = .ok (.goto 4, 3) := by decide +kernel
theorem dX4_wantOf_57 : decode cX4_wantOf 57 = .ok (.iconst 0, 1) := by decide +kernel
theorem dX4_wantOf_58 : decode cX4_wantOf 58 = .ok (.ireturn, 1) := by decide +kernel
theorem dX4_wantOf_59 : decode cX4_wantOf 59 = .ok (.aload_n 0, 1) := by decide +kernel
theorem dX4_wantOf_60 : decode cX4_wantOf 60 = .ok (.iload_n 1, 1) := by decide +kernel
theorem dX4_wantOf_61 : decode cX4_wantOf 61 = .ok (.invokevirtual 174, 3) := by decide +kernel
theorem dX4_wantOf_64 : decode cX4_wantOf 64 = .ok (.iload_n 2, 1) := by decide +kernel
theorem dX4_wantOf_65 : decode cX4_wantOf 65 = .ok (.if_icmp .ne 7, 3) := by decide +kernel
theorem dX4_wantOf_68 : decode cX4_wantOf 68 = .ok (.iconst 2, 1) := by decide +kernel
theorem dX4_wantOf_69 : decode cX4_wantOf 69 = .ok (.goto 4, 3) := by decide +kernel
theorem dX4_wantOf_72 : decode cX4_wantOf 72 = .ok (.iconst 1, 1) := by decide +kernel
theorem dX4_wantOf_73 : decode cX4_wantOf 73 = .ok (.ireturn, 1) := by decide +kernel
theorem dX4_wantOf_74 : decode cX4_wantOf 74 = .ok (.iload_n 3, 1) := by decide +kernel
theorem dX4_wantOf_75 : decode cX4_wantOf 75 = .ok (.iconst 4, 1) := by decide +kernel
theorem dX4_wantOf_76 : decode cX4_wantOf 76 = .ok (.if_icmp .gt 7, 3) := by decide +kernel
theorem dX4_wantOf_79 : decode cX4_wantOf 79 = .ok (.iconst 2, 1) := by decide +kernel
theorem dX4_wantOf_80 : decode cX4_wantOf 80 = .ok (.goto 4, 3) := by decide +kernel
theorem dX4_wantOf_83 : decode cX4_wantOf 83 = .ok (.iconst 0, 1) := by decide +kernel
theorem dX4_wantOf_84 : decode cX4_wantOf 84 = .ok (.ireturn, 1) := by decide +kernel
theorem dX4_wantOf_85 : decode cX4_wantOf 85 = .ok (.iconst 1, 1) := by decide +kernel
theorem dX4_wantOf_86 : decode cX4_wantOf 86 = .ok (.ireturn, 1) := by decide +kernel
theorem dX4_rule_0 : decode cX4_rule 0 = .ok (.iload_n 1, 1) := by decide +kernel
theorem dX4_rule_1 : decode cX4_rule 1 = .ok (.tableswitch 101 0 8 #[51, 56, 61, 66, 74, 80, 88, 88, 88], 51) := by decide +kernel
theorem dX4_rule_52 : decode cX4_rule 52 = .ok (.aload_n 0, 1) := by decide +kernel
theorem dX4_rule_53 : decode cX4_rule 53 = .ok (.getfield 150, 3) := by decide +kernel
theorem dX4_rule_56 : decode cX4_rule 56 = .ok (.ireturn, 1) := by decide +kernel
theorem dX4_rule_57 : decode cX4_rule 57 = .ok (.aload_n 0, 1) := by decide +kernel
theorem dX4_rule_58 : decode cX4_rule 58 = .ok (.getfield 153, 3) := by decide +kernel
theorem dX4_rule_61 : decode cX4_rule 61 = .ok (.ireturn, 1) := by decide +kernel
theorem dX4_rule_62 : decode cX4_rule 62 = .ok (.aload_n 0, 1) := by decide +kernel
theorem dX4_rule_63 : decode cX4_rule 63 = .ok (.getfield 19, 3) := by decide +kernel
theorem dX4_rule_66 : decode cX4_rule 66 = .ok (.ireturn, 1) := by decide +kernel
theorem dX4_rule_67 : decode cX4_rule 67 = .ok (.aload_n 0, 1) := by decide +kernel
theorem dX4_rule_68 : decode cX4_rule 68 = .ok (.getfield 7, 3) := by decide +kernel
theorem dX4_rule_71 : decode cX4_rule 71 = .ok (.bipush 9, 2) := by decide +kernel
theorem dX4_rule_73 : decode cX4_rule 73 = .ok (.iaload, 1) := by decide +kernel
theorem dX4_rule_74 : decode cX4_rule 74 = .ok (.ireturn, 1) := by decide +kernel
theorem dX4_rule_75 : decode cX4_rule 75 = .ok (.aload_n 0, 1) := by decide +kernel
theorem dX4_rule_76 : decode cX4_rule 76 = .ok (.iconst 0, 1) := by decide +kernel
theorem dX4_rule_77 : decode cX4_rule 77 = .ok (.invokevirtual 171, 3) := by decide +kernel
theorem dX4_rule_80 : decode cX4_rule 80 = .ok (.ireturn, 1) := by decide +kernel
theorem dX4_rule_81 : decode cX4_rule 81 = .ok (.aload_n 0, 1) := by decide +kernel
theorem dX4_rule_82 : decode cX4_rule 82 = .ok (.getfield 7, 3) := by decide +kernel
theorem dX4_rule_85 : decode cX4_rule 85 = .ok (.bipush 8, 2) := by decide +kernel
theorem dX4_rule_87 : decode cX4_rule 87 = .ok (.iaload, 1) := by decide +kernel
theorem dX4_rule_88 : decode cX4_rule 88 = .ok (.ireturn, 1) := by decide +kernel
theorem dX4_rule_89 : decode cX4_rule 89 = .ok (.aload_n 0, 1) := by decide +kernel
theorem dX4_rule_90 : decode cX4_rule 90 = .ok (.getfield 7, 3) := by decide +kernel
theorem dX4_rule_93 : decode cX4_rule 93 = .ok (.bipush 11, 2) := by decide +kernel
theorem dX4_rule_95 : decode cX4_rule 95 = .ok (.iload_n 1, 1) := by decide +kernel
theorem dX4_rule_96 : decode cX4_rule 96 = .ok (.iadd, 1) := by decide +kernel
theorem dX4_rule_97 : decode cX4_rule 97 = .ok (.bipush 6, 2) := by decide +kernel
theorem dX4_rule_99 : decode cX4_rule 99 = .ok (.isub, 1) := by decide +kernel
theorem dX4_rule_100 : decode cX4_rule 100 = .ok (.iaload, 1) := by decide +kernel
theorem dX4_rule_101 : decode cX4_rule 101 = .ok (.ireturn, 1) := by decide +kernel
theorem dX4_rule_102 : decode cX4_rule 102 = .ok (.iconst (-1), 1) := by decide +kernel
theorem dX4_rule_103 : decode cX4_rule 103 = .ok (.ireturn, 1) := by decide +kernel
theorem dX4_one_0 : decode cX4_one 0 = .ok (.aload_n 0, 1) := by decide +kernel
theorem dX4_one_1 : decode cX4_one 1 = .ok (.iload_n 1, 1) := by decide +kernel
theorem dX4_one_2 : decode cX4_one 2 = .ok (.invokevirtual 177, 3) := by decide +kernel
theorem dX4_one_5 : decode cX4_one 5 = .ok (.ifCond .ne 5, 3) := by decide +kernel
theorem dX4_one_8 : decode cX4_one 8 = .ok (.iconst (-1), 1) := by decide +kernel
theorem dX4_one_9 : decode cX4_one 9 = .ok (.ireturn, 1) := by decide +kernel
theorem dX4_one_10 : decode cX4_one 10 = .ok (.iload_n 2, 1) := by decide +kernel
theorem dX4_one_11 : decode cX4_one 11 = .ok (.tableswitch 72 0 3 #[29, 36, 43, 52], 29) := by decide +kernel
theorem dX4_one_40 : decode cX4_one 40 = .ok (.aload_n 0, 1) := by decide +kernel
theorem dX4_one_41 : decode cX4_one 41 = .ok (.getfield 7, 3) := by decide +kernel
theorem dX4_one_44 : decode cX4_one 44 = .ok (.iload_n 1, 1) := by decide +kernel
theorem dX4_one_45 : decode cX4_one 45 = .ok (.iaload, 1) := by decide +kernel
theorem dX4_one_46 : decode cX4_one 46 = .ok (.ireturn, 1) := by decide +kernel
theorem dX4_one_47 : decode cX4_one 47 = .ok (.aload_n 0, 1) := by decide +kernel
theorem dX4_one_48 : decode cX4_one 48 = .ok (.getfield 13, 3) := by decide +kernel
theorem dX4_one_51 : decode cX4_one 51 = .ok (.iload_n 1, 1) := by decide +kernel
theorem dX4_one_52 : decode cX4_one 52 = .ok (.iaload, 1) := by decide +kernel
theorem dX4_one_53 : decode cX4_one 53 = .ok (.ireturn, 1) := by decide +kernel
theorem dX4_one_54 : decode cX4_one 54 = .ok (.aload_n 0, 1) := by decide +kernel
theorem dX4_one_55 : decode cX4_one 55 = .ok (.getfield 7, 3) := by decide +kernel
theorem dX4_one_58 : decode cX4_one 58 = .ok (.iconst 4, 1) := by decide +kernel
theorem dX4_one_59 : decode cX4_one 59 = .ok (.iload_n 1, 1) := by decide +kernel
theorem dX4_one_60 : decode cX4_one 60 = .ok (.iadd, 1) := by decide +kernel
theorem dX4_one_61 : decode cX4_one 61 = .ok (.iaload, 1) := by decide +kernel
theorem dX4_one_62 : decode cX4_one 62 = .ok (.ireturn, 1) := by decide +kernel
theorem dX4_one_63 : decode cX4_one 63 = .ok (.aload_n 0, 1) := by decide +kernel
theorem dX4_one_64 : decode cX4_one 64 = .ok (.iconst 0, 1) := by decide +kernel
theorem dX4_one_65 : decode cX4_one 65 = .ok (.iload_n 1, 1) := by decide +kernel
theorem dX4_one_66 : decode cX4_one 66 = .ok (.invokevirtual 167, 3) := by decide +kernel
theorem dX4_one_69 : decode cX4_one 69 = .ok (.ifCond .eq 7, 3) := by decide +kernel
theorem dX4_one_72 : decode cX4_one 72 = .ok (.iconst 0, 1) := by decide +kernel
theorem dX4_one_73 : decode cX4_one 73 = .ok (.goto 9, 3) := by decide +kernel
theorem dX4_one_76 : decode cX4_one 76 = .ok (.aload_n 0, 1) := by decide +kernel
theorem dX4_one_77 : decode cX4_one 77 = .ok (.iconst 0, 1) := by decide +kernel
theorem dX4_one_78 : decode cX4_one 78 = .ok (.iload_n 1, 1) := by decide +kernel
theorem dX4_one_79 : decode cX4_one 79 = .ok (.invokevirtual 181, 3) := by decide +kernel
theorem dX4_one_82 : decode cX4_one 82 = .ok (.ireturn, 1) := by decide +kernel
theorem dX4_one_83 : decode cX4_one 83 = .ok (.iconst (-1), 1) := by decide +kernel
theorem dX4_one_84 : decode cX4_one 84 = .ok (.ireturn, 1) := by decide +kernel
theorem dX4_well_0 : decode cX4_well 0 = .ok (.aload_n 0, 1) := by decide +kernel
theorem dX4_well_1 : decode cX4_well 1 = .ok (.iload_n 1, 1) := by decide +kernel
theorem dX4_well_2 : decode cX4_well 2 = .ok (.invokevirtual 184, 3) := by decide +kernel
theorem dX4_well_5 : decode cX4_well 5 = .ok (.ifCond .ne 5, 3) := by decide +kernel
theorem dX4_well_8 : decode cX4_well 8 = .ok (.iconst (-1), 1) := by decide +kernel
theorem dX4_well_9 : decode cX4_well 9 = .ok (.ireturn, 1) := by decide +kernel
theorem dX4_well_10 : decode cX4_well 10 = .ok (.iload_n 2, 1) := by decide +kernel
theorem dX4_well_11 : decode cX4_well 11 = .ok (.tableswitch 71 0 3 #[29, 38, 48, 59], 29) := by decide +kernel
theorem dX4_well_40 : decode cX4_well 40 = .ok (.aload_n 0, 1) := by decide +kernel
theorem dX4_well_41 : decode cX4_well 41 = .ok (.getfield 16, 3) := by decide +kernel
theorem dX4_well_44 : decode cX4_well 44 = .ok (.iconst 2, 1) := by decide +kernel
theorem dX4_well_45 : decode cX4_well 45 = .ok (.iload_n 1, 1) := by decide +kernel
theorem dX4_well_46 : decode cX4_well 46 = .ok (.imul, 1) := by decide +kernel
theorem dX4_well_47 : decode cX4_well 47 = .ok (.iaload, 1) := by decide +kernel
theorem dX4_well_48 : decode cX4_well 48 = .ok (.ireturn, 1) := by decide +kernel
theorem dX4_well_49 : decode cX4_well 49 = .ok (.aload_n 0, 1) := by decide +kernel
theorem dX4_well_50 : decode cX4_well 50 = .ok (.getfield 7, 3) := by decide +kernel
theorem dX4_well_53 : decode cX4_well 53 = .ok (.bipush 17, 2) := by decide +kernel
theorem dX4_well_55 : decode cX4_well 55 = .ok (.iload_n 1, 1) := by decide +kernel
theorem dX4_well_56 : decode cX4_well 56 = .ok (.iadd, 1) := by decide +kernel
theorem dX4_well_57 : decode cX4_well 57 = .ok (.iaload, 1) := by decide +kernel
theorem dX4_well_58 : decode cX4_well 58 = .ok (.ireturn, 1) := by decide +kernel
theorem dX4_well_59 : decode cX4_well 59 = .ok (.aload_n 0, 1) := by decide +kernel
theorem dX4_well_60 : decode cX4_well 60 = .ok (.getfield 16, 3) := by decide +kernel
theorem dX4_well_63 : decode cX4_well 63 = .ok (.iconst 2, 1) := by decide +kernel
theorem dX4_well_64 : decode cX4_well 64 = .ok (.iload_n 1, 1) := by decide +kernel
theorem dX4_well_65 : decode cX4_well 65 = .ok (.imul, 1) := by decide +kernel
theorem dX4_well_66 : decode cX4_well 66 = .ok (.iconst 1, 1) := by decide +kernel
theorem dX4_well_67 : decode cX4_well 67 = .ok (.iadd, 1) := by decide +kernel
theorem dX4_well_68 : decode cX4_well 68 = .ok (.iaload, 1) := by decide +kernel
theorem dX4_well_69 : decode cX4_well 69 = .ok (.ireturn, 1) := by decide +kernel
theorem dX4_well_70 : decode cX4_well 70 = .ok (.iconst 1, 1) := by decide +kernel
theorem dX4_well_71 : decode cX4_well 71 = .ok (.aload_n 0, 1) := by decide +kernel
theorem dX4_well_72 : decode cX4_well 72 = .ok (.getfield 7, 3) := by decide +kernel
theorem dX4_well_75 : decode cX4_well 75 = .ok (.bipush 14, 2) := by decide +kernel
theorem dX4_well_77 : decode cX4_well 77 = .ok (.iload_n 1, 1) := by decide +kernel
theorem dX4_well_78 : decode cX4_well 78 = .ok (.iadd, 1) := by decide +kernel
theorem dX4_well_79 : decode cX4_well 79 = .ok (.iaload, 1) := by decide +kernel
theorem dX4_well_80 : decode cX4_well 80 = .ok (.isub, 1) := by decide +kernel
theorem dX4_well_81 : decode cX4_well 81 = .ok (.ireturn, 1) := by decide +kernel
theorem dX4_well_82 : decode cX4_well 82 = .ok (.iconst (-1), 1) := by decide +kernel
theorem dX4_well_83 : decode cX4_well 83 = .ok (.ireturn, 1) := by decide +kernel
end
section
theorem dX4_pours_0 : decode cX4_pours 0 = .ok (.aload_n 0, 1) := by decide +kernel
theorem dX4_pours_1 : decode cX4_pours 1 = .ok (.iconst 0, 1) := by decide +kernel
theorem dX4_pours_2 : decode cX4_pours 2 = .ok (.invokevirtual 174, 3) := by decide +kernel
theorem dX4_pours_5 : decode cX4_pours 5 = .ok (.ireturn, 1) := by decide +kernel
theorem dX4_isDay_0 : decode cX4_isDay 0 = .ok (.aload_n 0, 1) := by decide +kernel
theorem dX4_isDay_1 : decode cX4_isDay 1 = .ok (.iload_n 1, 1) := by decide +kernel
theorem dX4_isDay_2 : decode cX4_isDay 2 = .ok (.invokevirtual 171, 3) := by decide +kernel
theorem dX4_isDay_5 : decode cX4_isDay 5 = .ok (.bipush 24, 2) := by decide +kernel
theorem dX4_isDay_7 : decode cX4_isDay 7 = .ok (.irem, 1) := by decide +kernel
theorem dX4_isDay_8 : decode cX4_isDay 8 = .ok (.i2l, 1) := by decide +kernel
theorem dX4_isDay_9 : decode cX4_isDay 9 = .ok (.ldc2_w 187, 3) := by decide +kernel
theorem dX4_isDay_12 : decode cX4_isDay 12 = .ok (.ldc2_w 189, 3) := by decide +kernel
theorem dX4_isDay_15 : decode cX4_isDay 15 = .ok (.invokestatic 59, 3) := by decide +kernel
theorem dX4_isDay_18 : decode cX4_isDay 18 = .ok (.ireturn, 1) := by decide +kernel
theorem dX4_lossOf_0 : decode cX4_lossOf 0 = .ok (.aload_n 0, 1) := by decide +kernel
theorem dX4_lossOf_1 : decode cX4_lossOf 1 = .ok (.getfield 13, 3) := by decide +kernel
theorem dX4_lossOf_4 : decode cX4_lossOf 4 = .ok (.iload_n 2, 1) := by decide +kernel
theorem dX4_lossOf_5 : decode cX4_lossOf 5 = .ok (.iaload, 1) := by decide +kernel
theorem dX4_lossOf_6 : decode cX4_lossOf 6 = .ok (.istore 4, 2) := by decide +kernel
theorem dX4_lossOf_8 : decode cX4_lossOf 8 = .ok (.iload 4, 2) := by decide +kernel
theorem dX4_lossOf_10 : decode cX4_lossOf 10 = .ok (.iconst 3, 1) := by decide +kernel
theorem dX4_lossOf_11 : decode cX4_lossOf 11 = .ok (.if_icmp .eq 19, 3) := by decide +kernel
theorem dX4_lossOf_14 : decode cX4_lossOf 14 = .ok (.iload 4, 2) := by decide +kernel
theorem dX4_lossOf_16 : decode cX4_lossOf 16 = .ok (.iconst 2, 1) := by decide +kernel
theorem dX4_lossOf_17 : decode cX4_lossOf 17 = .ok (.if_icmp .ne 17, 3) := by decide +kernel
theorem dX4_lossOf_20 : decode cX4_lossOf 20 = .ok (.aload_n 0, 1) := by decide +kernel
theorem dX4_lossOf_21 : decode cX4_lossOf 21 = .ok (.iload_n 1, 1) := by decide +kernel
theorem dX4_lossOf_22 : decode cX4_lossOf 22 = .ok (.invokevirtual 171, 3) := by decide +kernel
theorem dX4_lossOf_25 : decode cX4_lossOf 25 = .ok (.iconst 2, 1) := by decide +kernel
theorem dX4_lossOf_26 : decode cX4_lossOf 26 = .ok (.irem, 1) := by decide +kernel
theorem dX4_lossOf_27 : decode cX4_lossOf 27 = .ok (.ifCond .ne 7, 3) := by decide +kernel
theorem dX4_lossOf_30 : decode cX4_lossOf 30 = .ok (.iconst 1, 1) := by decide +kernel
theorem dX4_lossOf_31 : decode cX4_lossOf 31 = .ok (.goto 4, 3) := by decide +kernel
theorem dX4_lossOf_34 : decode cX4_lossOf 34 = .ok (.iconst 0, 1) := by decide +kernel
theorem dX4_lossOf_35 : decode cX4_lossOf 35 = .ok (.istore 5, 2) := by decide +kernel
theorem dX4_lossOf_37 : decode cX4_lossOf 37 = .ok (.aload_n 0, 1) := by decide +kernel
theorem dX4_lossOf_38 : decode cX4_lossOf 38 = .ok (.iload_n 1, 1) := by decide +kernel
theorem dX4_lossOf_39 : decode cX4_lossOf 39 = .ok (.invokevirtual 191, 3) := by decide +kernel
theorem dX4_lossOf_42 : decode cX4_lossOf 42 = .ok (.ifCond .eq 7, 3) := by decide +kernel
theorem dX4_lossOf_45 : decode cX4_lossOf 45 = .ok (.iconst 1, 1) := by decide +kernel
theorem dX4_lossOf_46 : decode cX4_lossOf 46 = .ok (.goto 4, 3) := by decide +kernel
theorem dX4_lossOf_49 : decode cX4_lossOf 49 = .ok (.iconst 0, 1) := by decide +kernel
theorem dX4_lossOf_50 : decode cX4_lossOf 50 = .ok (.iload_n 3, 1) := by decide +kernel
theorem dX4_lossOf_51 : decode cX4_lossOf 51 = .ok (.ifCond .eq 7, 3) := by decide +kernel
theorem dX4_lossOf_54 : decode cX4_lossOf 54 = .ok (.iconst 1, 1) := by decide +kernel
theorem dX4_lossOf_55 : decode cX4_lossOf 55 = .ok (.goto 4, 3) := by decide +kernel
theorem dX4_lossOf_58 : decode cX4_lossOf 58 = .ok (.iconst 0, 1) := by decide +kernel
theorem dX4_lossOf_59 : decode cX4_lossOf 59 = .ok (.iadd, 1) := by decide +kernel
theorem dX4_lossOf_60 : decode cX4_lossOf 60 = .ok (.iload 5, 2) := by decide +kernel
theorem dX4_lossOf_62 : decode cX4_lossOf 62 = .ok (.iadd, 1) := by decide +kernel
theorem dX4_lossOf_63 : decode cX4_lossOf 63 = .ok (.ireturn, 1) := by decide +kernel
theorem dX4_loses_0 : decode cX4_loses 0 = .ok (.aload_n 0, 1) := by decide +kernel
theorem dX4_loses_1 : decode cX4_loses 1 = .ok (.iload_n 1, 1) := by decide +kernel
theorem dX4_loses_2 : decode cX4_loses 2 = .ok (.invokevirtual 177, 3) := by decide +kernel
theorem dX4_loses_5 : decode cX4_loses 5 = .ok (.ifCond .ne 7, 3) := by decide +kernel
theorem dX4_loses_8 : decode cX4_loses 8 = .ok (.iconst (-1), 1) := by decide +kernel
theorem dX4_loses_9 : decode cX4_loses 9 = .ok (.goto 23, 3) := by decide +kernel
theorem dX4_loses_12 : decode cX4_loses 12 = .ok (.aload_n 0, 1) := by decide +kernel
theorem dX4_loses_13 : decode cX4_loses 13 = .ok (.iconst 0, 1) := by decide +kernel
theorem dX4_loses_14 : decode cX4_loses 14 = .ok (.iload_n 1, 1) := by decide +kernel
theorem dX4_loses_15 : decode cX4_loses 15 = .ok (.invokevirtual 167, 3) := by decide +kernel
theorem dX4_loses_18 : decode cX4_loses 18 = .ok (.ifCond .eq 7, 3) := by decide +kernel
theorem dX4_loses_21 : decode cX4_loses 21 = .ok (.iconst 0, 1) := by decide +kernel
theorem dX4_loses_22 : decode cX4_loses 22 = .ok (.goto 10, 3) := by decide +kernel
theorem dX4_loses_25 : decode cX4_loses 25 = .ok (.aload_n 0, 1) := by decide +kernel
theorem dX4_loses_26 : decode cX4_loses 26 = .ok (.iconst 0, 1) := by decide +kernel
theorem dX4_loses_27 : decode cX4_loses 27 = .ok (.iload_n 1, 1) := by decide +kernel
theorem dX4_loses_28 : decode cX4_loses 28 = .ok (.iload_n 2, 1) := by decide +kernel
theorem dX4_loses_29 : decode cX4_loses 29 = .ok (.invokevirtual 194, 3) := by decide +kernel
theorem dX4_loses_32 : decode cX4_loses 32 = .ok (.ireturn, 1) := by decide +kernel
theorem dX4_sets_0 : decode cX4_sets 0 = .ok (.iload_n 1, 1) := by decide +kernel
theorem dX4_sets_1 : decode cX4_sets 1 = .ok (.ifCond .ne 5, 3) := by decide +kernel
theorem dX4_sets_4 : decode cX4_sets 4 = .ok (.iconst (-1), 1) := by decide +kernel
theorem dX4_sets_5 : decode cX4_sets 5 = .ok (.ireturn, 1) := by decide +kernel
theorem dX4_sets_6 : decode cX4_sets 6 = .ok (.aload_n 0, 1) := by decide +kernel
theorem dX4_sets_7 : decode cX4_sets 7 = .ok (.getfield 7, 3) := by decide +kernel
theorem dX4_sets_10 : decode cX4_sets 10 = .ok (.iload_n 2, 1) := by decide +kernel
theorem dX4_sets_11 : decode cX4_sets 11 = .ok (.iaload, 1) := by decide +kernel
theorem dX4_sets_12 : decode cX4_sets 12 = .ok (.istore 4, 2) := by decide +kernel
theorem dX4_sets_14 : decode cX4_sets 14 = .ok (.aload_n 0, 1) := by decide +kernel
theorem dX4_sets_15 : decode cX4_sets 15 = .ok (.getfield 7, 3) := by decide +kernel
theorem dX4_sets_18 : decode cX4_sets 18 = .ok (.iload_n 2, 1) := by decide +kernel
theorem dX4_sets_19 : decode cX4_sets 19 = .ok (.iload_n 3, 1) := by decide +kernel
theorem dX4_sets_20 : decode cX4_sets 20 = .ok (.iastore, 1) := by decide +kernel
theorem dX4_sets_21 : decode cX4_sets 21 = .ok (.iload 4, 2) := by decide +kernel
theorem dX4_sets_23 : decode cX4_sets 23 = .ok (.ireturn, 1) := by decide +kernel
theorem dX4_teach_0 : decode cX4_teach 0 = .ok (.aload_n 0, 1) := by decide +kernel
theorem dX4_teach_1 : decode cX4_teach 1 = .ok (.aload_n 0, 1) := by decide +kernel
theorem dX4_teach_2 : decode cX4_teach 2 = .ok (.iload_n 1, 1) := by decide +kernel
theorem dX4_teach_3 : decode cX4_teach 3 = .ok (.invokevirtual 177, 3) := by decide +kernel
theorem dX4_teach_6 : decode cX4_teach 6 = .ok (.ifCond .eq 19, 3) := by decide +kernel
theorem dX4_teach_9 : decode cX4_teach 9 = .ok (.iload_n 2, 1) := by decide +kernel
theorem dX4_teach_10 : decode cX4_teach 10 = .ok (.i2l, 1) := by decide +kernel
theorem dX4_teach_11 : decode cX4_teach 11 = .ok (.lconst 0, 1) := by decide +kernel
theorem dX4_teach_12 : decode cX4_teach 12 = .ok (.ldc2_w 198, 3) := by decide +kernel
theorem dX4_teach_15 : decode cX4_teach 15 = .ok (.invokestatic 59, 3) := by decide +kernel
theorem dX4_teach_18 : decode cX4_teach 18 = .ok (.ifCond .eq 7, 3) := by decide +kernel
theorem dX4_teach_21 : decode cX4_teach 21 = .ok (.iconst 1, 1) := by decide +kernel
theorem dX4_teach_22 : decode cX4_teach 22 = .ok (.goto 4, 3) := by decide +kernel
theorem dX4_teach_25 : decode cX4_teach 25 = .ok (.iconst 0, 1) := by decide +kernel
theorem dX4_teach_26 : decode cX4_teach 26 = .ok (.iload_n 1, 1) := by decide +kernel
theorem dX4_teach_27 : decode cX4_teach 27 = .ok (.iload_n 2, 1) := by decide +kernel
theorem dX4_teach_28 : decode cX4_teach 28 = .ok (.invokevirtual 200, 3) := by decide +kernel
theorem dX4_teach_31 : decode cX4_teach 31 = .ok (.ireturn, 1) := by decide +kernel
theorem dX4_drinks_0 : decode cX4_drinks 0 = .ok (.aload_n 0, 1) := by decide +kernel
theorem dX4_drinks_1 : decode cX4_drinks 1 = .ok (.iload_n 1, 1) := by decide +kernel
theorem dX4_drinks_2 : decode cX4_drinks 2 = .ok (.invokevirtual 177, 3) := by decide +kernel
theorem dX4_drinks_5 : decode cX4_drinks 5 = .ok (.ifCond .eq 15, 3) := by decide +kernel
theorem dX4_drinks_8 : decode cX4_drinks 8 = .ok (.iload_n 2, 1) := by decide +kernel
theorem dX4_drinks_9 : decode cX4_drinks 9 = .ok (.i2l, 1) := by decide +kernel
theorem dX4_drinks_10 : decode cX4_drinks 10 = .ok (.lconst 0, 1) := by decide +kernel
theorem dX4_drinks_11 : decode cX4_drinks 11 = .ok (.ldc2_w 204, 3) := by decide +kernel
theorem dX4_drinks_14 : decode cX4_drinks 14 = .ok (.invokestatic 59, 3) := by decide +kernel
theorem dX4_drinks_17 : decode cX4_drinks 17 = .ok (.ifCond .ne 5, 3) := by decide +kernel
theorem dX4_drinks_20 : decode cX4_drinks 20 = .ok (.iconst (-1), 1) := by decide +kernel
theorem dX4_drinks_21 : decode cX4_drinks 21 = .ok (.ireturn, 1) := by decide +kernel
theorem dX4_drinks_22 : decode cX4_drinks 22 = .ok (.aload_n 0, 1) := by decide +kernel
theorem dX4_drinks_23 : decode cX4_drinks 23 = .ok (.iconst 0, 1) := by decide +kernel
theorem dX4_drinks_24 : decode cX4_drinks 24 = .ok (.iload_n 1, 1) := by decide +kernel
theorem dX4_drinks_25 : decode cX4_drinks 25 = .ok (.invokevirtual 167, 3) := by decide +kernel
theorem dX4_drinks_28 : decode cX4_drinks 28 = .ok (.ifCond .ne 14, 3) := by decide +kernel
theorem dX4_drinks_31 : decode cX4_drinks 31 = .ok (.aload_n 0, 1) := by decide +kernel
theorem dX4_drinks_32 : decode cX4_drinks 32 = .ok (.getfield 7, 3) := by decide +kernel
theorem dX4_drinks_35 : decode cX4_drinks 35 = .ok (.bipush 8, 2) := by decide +kernel
theorem dX4_drinks_37 : decode cX4_drinks 37 = .ok (.iaload, 1) := by decide +kernel
theorem dX4_drinks_38 : decode cX4_drinks 38 = .ok (.iload_n 2, 1) := by decide +kernel
theorem dX4_drinks_39 : decode cX4_drinks 39 = .ok (.if_icmp .ge 6, 3) := by decide +kernel
theorem dX4_drinks_42 : decode cX4_drinks 42 = .ok (.bipush (-2), 2) := by decide +kernel
theorem dX4_drinks_44 : decode cX4_drinks 44 = .ok (.ireturn, 1) := by decide +kernel
theorem dX4_drinks_45 : decode cX4_drinks 45 = .ok (.aload_n 0, 1) := by decide +kernel
theorem dX4_drinks_46 : decode cX4_drinks 46 = .ok (.getfield 7, 3) := by decide +kernel
theorem dX4_drinks_49 : decode cX4_drinks 49 = .ok (.iconst 4, 1) := by decide +kernel
theorem dX4_drinks_50 : decode cX4_drinks 50 = .ok (.iload_n 1, 1) := by decide +kernel
theorem dX4_drinks_51 : decode cX4_drinks 51 = .ok (.iadd, 1) := by decide +kernel
theorem dX4_drinks_52 : decode cX4_drinks 52 = .ok (.iaload, 1) := by decide +kernel
theorem dX4_drinks_53 : decode cX4_drinks 53 = .ok (.iload_n 2, 1) := by decide +kernel
theorem dX4_drinks_54 : decode cX4_drinks 54 = .ok (.iadd, 1) := by decide +kernel
theorem dX4_drinks_55 : decode cX4_drinks 55 = .ok (.bipush 20, 2) := by decide +kernel
theorem dX4_drinks_57 : decode cX4_drinks 57 = .ok (.if_icmp .le 6, 3) := by decide +kernel
theorem dX4_drinks_60 : decode cX4_drinks 60 = .ok (.bipush (-3), 2) := by decide +kernel
theorem dX4_drinks_62 : decode cX4_drinks 62 = .ok (.ireturn, 1) := by decide +kernel
theorem dX4_drinks_63 : decode cX4_drinks 63 = .ok (.aload_n 0, 1) := by decide +kernel
theorem dX4_drinks_64 : decode cX4_drinks 64 = .ok (.getfield 7, 3) := by decide +kernel
theorem dX4_drinks_67 : decode cX4_drinks 67 = .ok (.bipush 8, 2) := by decide +kernel
theorem dX4_drinks_69 : decode cX4_drinks 69 = .ok (.dup2, 1) := by decide +kernel
theorem dX4_drinks_70 : decode cX4_drinks 70 = .ok (.iaload, 1) := by decide +kernel
theorem dX4_drinks_71 : decode cX4_drinks 71 = .ok (.iload_n 2, 1) := by decide +kernel
theorem dX4_drinks_72 : decode cX4_drinks 72 = .ok (.isub, 1) := by decide +kernel
theorem dX4_drinks_73 : decode cX4_drinks 73 = .ok (.iastore, 1) := by decide +kernel
theorem dX4_drinks_74 : decode cX4_drinks 74 = .ok (.aload_n 0, 1) := by decide +kernel
theorem dX4_drinks_75 : decode cX4_drinks 75 = .ok (.getfield 7, 3) := by decide +kernel
theorem dX4_drinks_78 : decode cX4_drinks 78 = .ok (.iconst 4, 1) := by decide +kernel
theorem dX4_drinks_79 : decode cX4_drinks 79 = .ok (.iload_n 1, 1) := by decide +kernel
theorem dX4_drinks_80 : decode cX4_drinks 80 = .ok (.iadd, 1) := by decide +kernel
theorem dX4_drinks_81 : decode cX4_drinks 81 = .ok (.dup2, 1) := by decide +kernel
theorem dX4_drinks_82 : decode cX4_drinks 82 = .ok (.iaload, 1) := by decide +kernel
theorem dX4_drinks_83 : decode cX4_drinks 83 = .ok (.iload_n 2, 1) := by decide +kernel
theorem dX4_drinks_84 : decode cX4_drinks 84 = .ok (.iadd, 1) := by decide +kernel
theorem dX4_drinks_85 : decode cX4_drinks 85 = .ok (.iastore, 1) := by decide +kernel
theorem dX4_drinks_86 : decode cX4_drinks 86 = .ok (.aload_n 0, 1) := by decide +kernel
theorem dX4_drinks_87 : decode cX4_drinks 87 = .ok (.getfield 7, 3) := by decide +kernel
theorem dX4_drinks_90 : decode cX4_drinks 90 = .ok (.iconst 4, 1) := by decide +kernel
theorem dX4_drinks_91 : decode cX4_drinks 91 = .ok (.iload_n 1, 1) := by decide +kernel
theorem dX4_drinks_92 : decode cX4_drinks 92 = .ok (.iadd, 1) := by decide +kernel
theorem dX4_drinks_93 : decode cX4_drinks 93 = .ok (.iaload, 1) := by decide +kernel
theorem dX4_drinks_94 : decode cX4_drinks 94 = .ok (.ireturn, 1) := by decide +kernel
theorem dX4_drink_0 : decode cX4_drink 0 = .ok (.aload_n 0, 1) := by decide +kernel
theorem dX4_drink_1 : decode cX4_drink 1 = .ok (.iload_n 1, 1) := by decide +kernel
theorem dX4_drink_2 : decode cX4_drink 2 = .ok (.iload_n 2, 1) := by decide +kernel
theorem dX4_drink_3 : decode cX4_drink 3 = .ok (.invokevirtual 206, 3) := by decide +kernel
theorem dX4_drink_6 : decode cX4_drink 6 = .ok (.ireturn, 1) := by decide +kernel
theorem dX4_fill_0 : decode cX4_fill 0 = .ok (.aload_n 0, 1) := by decide +kernel
theorem dX4_fill_1 : decode cX4_fill 1 = .ok (.iload_n 1, 1) := by decide +kernel
theorem dX4_fill_2 : decode cX4_fill 2 = .ok (.i2l, 1) := by decide +kernel
theorem dX4_fill_3 : decode cX4_fill 3 = .ok (.lconst 0, 1) := by decide +kernel
theorem dX4_fill_4 : decode cX4_fill 4 = .ok (.ldc2_w 209, 3) := by decide +kernel
theorem dX4_fill_7 : decode cX4_fill 7 = .ok (.invokestatic 59, 3) := by decide +kernel
theorem dX4_fill_10 : decode cX4_fill 10 = .ok (.bipush 8, 2) := by decide +kernel
theorem dX4_fill_12 : decode cX4_fill 12 = .ok (.iload_n 1, 1) := by decide +kernel
theorem dX4_fill_13 : decode cX4_fill 13 = .ok (.invokevirtual 200, 3) := by decide +kernel
theorem dX4_fill_16 : decode cX4_fill 16 = .ok (.ireturn, 1) := by decide +kernel
theorem dX4_plan_0 : decode cX4_plan 0 = .ok (.aload_n 0, 1) := by decide +kernel
theorem dX4_plan_1 : decode cX4_plan 1 = .ok (.iload_n 1, 1) := by decide +kernel
theorem dX4_plan_2 : decode cX4_plan 2 = .ok (.invokestatic 211, 3) := by decide +kernel
theorem dX4_plan_5 : decode cX4_plan 5 = .ok (.bipush 11, 2) := by decide +kernel
theorem dX4_plan_7 : decode cX4_plan 7 = .ok (.iload_n 1, 1) := by decide +kernel
theorem dX4_plan_8 : decode cX4_plan 8 = .ok (.invokevirtual 200, 3) := by decide +kernel
theorem dX4_plan_11 : decode cX4_plan 11 = .ok (.ireturn, 1) := by decide +kernel
theorem dX4_wet_0 : decode cX4_wet 0 = .ok (.aload_n 0, 1) := by decide +kernel
theorem dX4_wet_1 : decode cX4_wet 1 = .ok (.iload_n 1, 1) := by decide +kernel
theorem dX4_wet_2 : decode cX4_wet 2 = .ok (.invokevirtual 184, 3) := by decide +kernel
theorem dX4_wet_5 : decode cX4_wet 5 = .ok (.ifCond .eq 26, 3) := by decide +kernel
theorem dX4_wet_8 : decode cX4_wet 8 = .ok (.iconst 1, 1) := by decide +kernel
theorem dX4_wet_9 : decode cX4_wet 9 = .ok (.aload_n 0, 1) := by decide +kernel
theorem dX4_wet_10 : decode cX4_wet 10 = .ok (.iconst 1, 1) := by decide +kernel
theorem dX4_wet_11 : decode cX4_wet 11 = .ok (.bipush 14, 2) := by decide +kernel
theorem dX4_wet_13 : decode cX4_wet 13 = .ok (.iload_n 1, 1) := by decide +kernel
theorem dX4_wet_14 : decode cX4_wet 14 = .ok (.iadd, 1) := by decide +kernel
theorem dX4_wet_15 : decode cX4_wet 15 = .ok (.iload_n 2, 1) := by decide +kernel
theorem dX4_wet_16 : decode cX4_wet 16 = .ok (.ifCond .eq 7, 3) := by decide +kernel
theorem dX4_wet_19 : decode cX4_wet 19 = .ok (.iconst 0, 1) := by decide +kernel
theorem dX4_wet_20 : decode cX4_wet 20 = .ok (.goto 4, 3) := by decide +kernel
theorem dX4_wet_23 : decode cX4_wet 23 = .ok (.iconst 1, 1) := by decide +kernel
theorem dX4_wet_24 : decode cX4_wet 24 = .ok (.invokevirtual 200, 3) := by decide +kernel
theorem dX4_wet_27 : decode cX4_wet 27 = .ok (.isub, 1) := by decide +kernel
theorem dX4_wet_28 : decode cX4_wet 28 = .ok (.goto 4, 3) := by decide +kernel
theorem dX4_wet_31 : decode cX4_wet 31 = .ok (.iconst (-1), 1) := by decide +kernel
theorem dX4_wet_32 : decode cX4_wet 32 = .ok (.ireturn, 1) := by decide +kernel
theorem dX4_odd_0 : decode cX4_odd 0 = .ok (.aload_n 0, 1) := by decide +kernel
theorem dX4_odd_1 : decode cX4_odd 1 = .ok (.aload_n 0, 1) := by decide +kernel
theorem dX4_odd_2 : decode cX4_odd 2 = .ok (.iload_n 1, 1) := by decide +kernel
theorem dX4_odd_3 : decode cX4_odd 3 = .ok (.invokevirtual 184, 3) := by decide +kernel
theorem dX4_odd_6 : decode cX4_odd 6 = .ok (.ifCond .eq 19, 3) := by decide +kernel
theorem dX4_odd_9 : decode cX4_odd 9 = .ok (.iload_n 2, 1) := by decide +kernel
theorem dX4_odd_10 : decode cX4_odd 10 = .ok (.i2l, 1) := by decide +kernel
theorem dX4_odd_11 : decode cX4_odd 11 = .ok (.lconst 0, 1) := by decide +kernel
theorem dX4_odd_12 : decode cX4_odd 12 = .ok (.ldc2_w 214, 3) := by decide +kernel
theorem dX4_odd_15 : decode cX4_odd 15 = .ok (.invokestatic 59, 3) := by decide +kernel
theorem dX4_odd_18 : decode cX4_odd 18 = .ok (.ifCond .eq 7, 3) := by decide +kernel
theorem dX4_odd_21 : decode cX4_odd 21 = .ok (.iconst 1, 1) := by decide +kernel
theorem dX4_odd_22 : decode cX4_odd 22 = .ok (.goto 4, 3) := by decide +kernel
theorem dX4_odd_25 : decode cX4_odd 25 = .ok (.iconst 0, 1) := by decide +kernel
theorem dX4_odd_26 : decode cX4_odd 26 = .ok (.bipush 17, 2) := by decide +kernel
theorem dX4_odd_28 : decode cX4_odd 28 = .ok (.iload_n 1, 1) := by decide +kernel
theorem dX4_odd_29 : decode cX4_odd 29 = .ok (.iadd, 1) := by decide +kernel
theorem dX4_odd_30 : decode cX4_odd 30 = .ok (.iload_n 2, 1) := by decide +kernel
theorem dX4_odd_31 : decode cX4_odd 31 = .ok (.invokevirtual 200, 3) := by decide +kernel
theorem dX4_odd_34 : decode cX4_odd 34 = .ok (.ireturn, 1) := by decide +kernel
theorem dX4_lay_0 : decode cX4_lay 0 = .ok (.aload_n 0, 1) := by decide +kernel
theorem dX4_lay_1 : decode cX4_lay 1 = .ok (.iload_n 1, 1) := by decide +kernel
theorem dX4_lay_2 : decode cX4_lay 2 = .ok (.i2l, 1) := by decide +kernel
theorem dX4_lay_3 : decode cX4_lay 3 = .ok (.lconst 0, 1) := by decide +kernel
theorem dX4_lay_4 : decode cX4_lay 4 = .ok (.lconst 1, 1) := by decide +kernel
theorem dX4_lay_5 : decode cX4_lay 5 = .ok (.invokestatic 59, 3) := by decide +kernel
theorem dX4_lay_8 : decode cX4_lay 8 = .ok (.ifCond .eq 29, 3) := by decide +kernel
theorem dX4_lay_11 : decode cX4_lay 11 = .ok (.iload_n 2, 1) := by decide +kernel
theorem dX4_lay_12 : decode cX4_lay 12 = .ok (.i2l, 1) := by decide +kernel
theorem dX4_lay_13 : decode cX4_lay 13 = .ok (.lconst 0, 1) := by decide +kernel
theorem dX4_lay_14 : decode cX4_lay 14 = .ok (.iload_n 1, 1) := by decide +kernel
theorem dX4_lay_15 : decode cX4_lay 15 = .ok (.ifCond .ne 9, 3) := by decide +kernel
theorem dX4_lay_18 : decode cX4_lay 18 = .ok (.ldc2_w 216, 3) := by decide +kernel
theorem dX4_lay_21 : decode cX4_lay 21 = .ok (.goto 6, 3) := by decide +kernel
theorem dX4_lay_24 : decode cX4_lay 24 = .ok (.ldc2_w 214, 3) := by decide +kernel
theorem dX4_lay_27 : decode cX4_lay 27 = .ok (.invokestatic 59, 3) := by decide +kernel
theorem dX4_lay_30 : decode cX4_lay 30 = .ok (.ifCond .eq 7, 3) := by decide +kernel
theorem dX4_lay_33 : decode cX4_lay 33 = .ok (.iconst 1, 1) := by decide +kernel
theorem dX4_lay_34 : decode cX4_lay 34 = .ok (.goto 4, 3) := by decide +kernel
theorem dX4_lay_37 : decode cX4_lay 37 = .ok (.iconst 0, 1) := by decide +kernel
theorem dX4_lay_38 : decode cX4_lay 38 = .ok (.bipush 12, 2) := by decide +kernel
theorem dX4_lay_40 : decode cX4_lay 40 = .ok (.iload_n 1, 1) := by decide +kernel
theorem dX4_lay_41 : decode cX4_lay 41 = .ok (.iadd, 1) := by decide +kernel
theorem dX4_lay_42 : decode cX4_lay 42 = .ok (.iload_n 2, 1) := by decide +kernel
theorem dX4_lay_43 : decode cX4_lay 43 = .ok (.invokevirtual 200, 3) := by decide +kernel
theorem dX4_lay_46 : decode cX4_lay 46 = .ok (.ireturn, 1) := by decide +kernel
theorem dX4_isOver_0 : decode cX4_isOver 0 = .ok (.aload_n 0, 1) := by decide +kernel
theorem dX4_isOver_1 : decode cX4_isOver 1 = .ok (.getfield 7, 3) := by decide +kernel
theorem dX4_isOver_4 : decode cX4_isOver 4 = .ok (.iload_n 1, 1) := by decide +kernel
theorem dX4_isOver_5 : decode cX4_isOver 5 = .ok (.bipush 9, 2) := by decide +kernel
theorem dX4_isOver_7 : decode cX4_isOver 7 = .ok (.iadd, 1) := by decide +kernel
theorem dX4_isOver_8 : decode cX4_isOver 8 = .ok (.iaload, 1) := by decide +kernel
theorem dX4_isOver_9 : decode cX4_isOver 9 = .ok (.aload_n 0, 1) := by decide +kernel
theorem dX4_isOver_10 : decode cX4_isOver 10 = .ok (.getfield 19, 3) := by decide +kernel
theorem dX4_isOver_13 : decode cX4_isOver 13 = .ok (.if_icmp .ge 11, 3) := by decide +kernel
theorem dX4_isOver_16 : decode cX4_isOver 16 = .ok (.aload_n 0, 1) := by decide +kernel
theorem dX4_isOver_17 : decode cX4_isOver 17 = .ok (.iload_n 1, 1) := by decide +kernel
theorem dX4_isOver_18 : decode cX4_isOver 18 = .ok (.invokevirtual 218, 3) := by decide +kernel
theorem dX4_isOver_21 : decode cX4_isOver 21 = .ok (.ifCond .ne 7, 3) := by decide +kernel
theorem dX4_isOver_24 : decode cX4_isOver 24 = .ok (.iconst 1, 1) := by decide +kernel
theorem dX4_isOver_25 : decode cX4_isOver 25 = .ok (.goto 4, 3) := by decide +kernel
theorem dX4_isOver_28 : decode cX4_isOver 28 = .ok (.iconst 0, 1) := by decide +kernel
theorem dX4_isOver_29 : decode cX4_isOver 29 = .ok (.ireturn, 1) := by decide +kernel
theorem dX4_fillsOn_0 : decode cX4_fillsOn 0 = .ok (.aload_n 0, 1) := by decide +kernel
theorem dX4_fillsOn_1 : decode cX4_fillsOn 1 = .ok (.getfield 7, 3) := by decide +kernel
theorem dX4_fillsOn_4 : decode cX4_fillsOn 4 = .ok (.iload_n 1, 1) := by decide +kernel
theorem dX4_fillsOn_5 : decode cX4_fillsOn 5 = .ok (.bipush 8, 2) := by decide +kernel
theorem dX4_fillsOn_7 : decode cX4_fillsOn 7 = .ok (.iadd, 1) := by decide +kernel
theorem dX4_fillsOn_8 : decode cX4_fillsOn 8 = .ok (.iaload, 1) := by decide +kernel
theorem dX4_fillsOn_9 : decode cX4_fillsOn 9 = .ok (.iload_n 2, 1) := by decide +kernel
theorem dX4_fillsOn_10 : decode cX4_fillsOn 10 = .ok (.iadd, 1) := by decide +kernel
theorem dX4_fillsOn_11 : decode cX4_fillsOn 11 = .ok (.istore_n 3, 1) := by decide +kernel
theorem dX4_fillsOn_12 : decode cX4_fillsOn 12 = .ok (.aload_n 0, 1) := by decide +kernel
theorem dX4_fillsOn_13 : decode cX4_fillsOn 13 = .ok (.getfield 7, 3) := by decide +kernel
theorem dX4_fillsOn_16 : decode cX4_fillsOn 16 = .ok (.iload_n 1, 1) := by decide +kernel
theorem dX4_fillsOn_17 : decode cX4_fillsOn 17 = .ok (.bipush 8, 2) := by decide +kernel
theorem dX4_fillsOn_19 : decode cX4_fillsOn 19 = .ok (.iadd, 1) := by decide +kernel
theorem dX4_fillsOn_20 : decode cX4_fillsOn 20 = .ok (.iload_n 3, 1) := by decide +kernel
theorem dX4_fillsOn_21 : decode cX4_fillsOn 21 = .ok (.bipush 60, 2) := by decide +kernel
theorem dX4_fillsOn_23 : decode cX4_fillsOn 23 = .ok (.if_icmp .le 8, 3) := by decide +kernel
theorem dX4_fillsOn_26 : decode cX4_fillsOn 26 = .ok (.bipush 60, 2) := by decide +kernel
theorem dX4_fillsOn_28 : decode cX4_fillsOn 28 = .ok (.goto 4, 3) := by decide +kernel
theorem dX4_fillsOn_31 : decode cX4_fillsOn 31 = .ok (.iload_n 3, 1) := by decide +kernel
theorem dX4_fillsOn_32 : decode cX4_fillsOn 32 = .ok (.iastore, 1) := by decide +kernel
theorem dX4_fillsOn_33 : decode cX4_fillsOn 33 = .ok (.return_, 1) := by decide +kernel
theorem dX4_givesTo_0 : decode cX4_givesTo 0 = .ok (.iload_n 2, 1) := by decide +kernel
theorem dX4_givesTo_1 : decode cX4_givesTo 1 = .ok (.istore_n 3, 1) := by decide +kernel
theorem dX4_givesTo_2 : decode cX4_givesTo 2 = .ok (.aload_n 0, 1) := by decide +kernel
theorem dX4_givesTo_3 : decode cX4_givesTo 3 = .ok (.getfield 156, 3) := by decide +kernel
theorem dX4_givesTo_6 : decode cX4_givesTo 6 = .ok (.istore 4, 2) := by decide +kernel
theorem dX4_givesTo_8 : decode cX4_givesTo 8 = .ok (.iload 4, 2) := by decide +kernel
theorem dX4_givesTo_10 : decode cX4_givesTo 10 = .ok (.aload_n 0, 1) := by decide +kernel
theorem dX4_givesTo_11 : decode cX4_givesTo 11 = .ok (.getfield 156, 3) := by decide +kernel
theorem dX4_givesTo_14 : decode cX4_givesTo 14 = .ok (.aload_n 0, 1) := by decide +kernel
theorem dX4_givesTo_15 : decode cX4_givesTo 15 = .ok (.getfield 159, 3) := by decide +kernel
theorem dX4_givesTo_18 : decode cX4_givesTo 18 = .ok (.iadd, 1) := by decide +kernel
theorem dX4_givesTo_19 : decode cX4_givesTo 19 = .ok (.if_icmp .ge 62, 3) := by decide +kernel
theorem dX4_givesTo_22 : decode cX4_givesTo 22 = .ok (.aload_n 0, 1) := by decide +kernel
theorem dX4_givesTo_23 : decode cX4_givesTo 23 = .ok (.getfield 7, 3) := by decide +kernel
theorem dX4_givesTo_26 : decode cX4_givesTo 26 = .ok (.iload_n 1, 1) := by decide +kernel
theorem dX4_givesTo_27 : decode cX4_givesTo 27 = .ok (.iload_n 2, 1) := by decide +kernel
theorem dX4_givesTo_28 : decode cX4_givesTo 28 = .ok (.iadd, 1) := by decide +kernel
theorem dX4_givesTo_29 : decode cX4_givesTo 29 = .ok (.iaload, 1) := by decide +kernel
theorem dX4_givesTo_30 : decode cX4_givesTo 30 = .ok (.iconst 4, 1) := by decide +kernel
theorem dX4_givesTo_31 : decode cX4_givesTo 31 = .ok (.if_icmp .ne 50, 3) := by decide +kernel
theorem dX4_givesTo_34 : decode cX4_givesTo 34 = .ok (.aload_n 0, 1) := by decide +kernel
theorem dX4_givesTo_35 : decode cX4_givesTo 35 = .ok (.iload_n 1, 1) := by decide +kernel
theorem dX4_givesTo_36 : decode cX4_givesTo 36 = .ok (.iload 4, 2) := by decide +kernel
theorem dX4_givesTo_38 : decode cX4_givesTo 38 = .ok (.invokevirtual 167, 3) := by decide +kernel
theorem dX4_givesTo_41 : decode cX4_givesTo 41 = .ok (.ifCond .ne 32, 3) := by decide +kernel
theorem dX4_givesTo_44 : decode cX4_givesTo 44 = .ok (.aload_n 0, 1) := by decide +kernel
theorem dX4_givesTo_45 : decode cX4_givesTo 45 = .ok (.getfield 7, 3) := by decide +kernel
theorem dX4_givesTo_48 : decode cX4_givesTo 48 = .ok (.iload_n 1, 1) := by decide +kernel
theorem dX4_givesTo_49 : decode cX4_givesTo 49 = .ok (.iconst 4, 1) := by decide +kernel
theorem dX4_givesTo_50 : decode cX4_givesTo 50 = .ok (.iadd, 1) := by decide +kernel
theorem dX4_givesTo_51 : decode cX4_givesTo 51 = .ok (.iload 4, 2) := by decide +kernel
theorem dX4_givesTo_53 : decode cX4_givesTo 53 = .ok (.iadd, 1) := by decide +kernel
theorem dX4_givesTo_54 : decode cX4_givesTo 54 = .ok (.iaload, 1) := by decide +kernel
theorem dX4_givesTo_55 : decode cX4_givesTo 55 = .ok (.aload_n 0, 1) := by decide +kernel
theorem dX4_givesTo_56 : decode cX4_givesTo 56 = .ok (.getfield 7, 3) := by decide +kernel
theorem dX4_givesTo_59 : decode cX4_givesTo 59 = .ok (.iload_n 1, 1) := by decide +kernel
theorem dX4_givesTo_60 : decode cX4_givesTo 60 = .ok (.iconst 4, 1) := by decide +kernel
theorem dX4_givesTo_61 : decode cX4_givesTo 61 = .ok (.iadd, 1) := by decide +kernel
theorem dX4_givesTo_62 : decode cX4_givesTo 62 = .ok (.iload_n 3, 1) := by decide +kernel
theorem dX4_givesTo_63 : decode cX4_givesTo 63 = .ok (.iadd, 1) := by decide +kernel
theorem dX4_givesTo_64 : decode cX4_givesTo 64 = .ok (.iaload, 1) := by decide +kernel
theorem dX4_givesTo_65 : decode cX4_givesTo 65 = .ok (.if_icmp .ge 8, 3) := by decide +kernel
theorem dX4_givesTo_68 : decode cX4_givesTo 68 = .ok (.iload 4, 2) := by decide +kernel
theorem dX4_givesTo_70 : decode cX4_givesTo 70 = .ok (.goto 4, 3) := by decide +kernel
theorem dX4_givesTo_73 : decode cX4_givesTo 73 = .ok (.iload_n 3, 1) := by decide +kernel
theorem dX4_givesTo_74 : decode cX4_givesTo 74 = .ok (.istore_n 3, 1) := by decide +kernel
theorem dX4_givesTo_75 : decode cX4_givesTo 75 = .ok (.iinc 4 1, 3) := by decide +kernel
theorem dX4_givesTo_78 : decode cX4_givesTo 78 = .ok (.goto (-70), 3) := by decide +kernel
theorem dX4_givesTo_81 : decode cX4_givesTo 81 = .ok (.iload_n 3, 1) := by decide +kernel
theorem dX4_givesTo_82 : decode cX4_givesTo 82 = .ok (.ireturn, 1) := by decide +kernel
theorem dX4_allDrink_0 : decode cX4_allDrink 0 = .ok (.aload_n 0, 1) := by decide +kernel
theorem dX4_allDrink_1 : decode cX4_allDrink 1 = .ok (.iload_n 1, 1) := by decide +kernel
theorem dX4_allDrink_2 : decode cX4_allDrink 2 = .ok (.invokevirtual 174, 3) := by decide +kernel
theorem dX4_allDrink_5 : decode cX4_allDrink 5 = .ok (.aload_n 0, 1) := by decide +kernel
theorem dX4_allDrink_6 : decode cX4_allDrink 6 = .ok (.getfield 156, 3) := by decide +kernel
theorem dX4_allDrink_9 : decode cX4_allDrink 9 = .ok (.isub, 1) := by decide +kernel
theorem dX4_allDrink_10 : decode cX4_allDrink 10 = .ok (.istore_n 2, 1) := by decide +kernel
theorem dX4_allDrink_11 : decode cX4_allDrink 11 = .ok (.iconst 1, 1) := by decide +kernel
theorem dX4_allDrink_12 : decode cX4_allDrink 12 = .ok (.istore_n 3, 1) := by decide +kernel
theorem dX4_allDrink_13 : decode cX4_allDrink 13 = .ok (.iload_n 3, 1) := by decide +kernel
theorem dX4_allDrink_14 : decode cX4_allDrink 14 = .ok (.aload_n 0, 1) := by decide +kernel
theorem dX4_allDrink_15 : decode cX4_allDrink 15 = .ok (.getfield 159, 3) := by decide +kernel
theorem dX4_allDrink_18 : decode cX4_allDrink 18 = .ok (.if_icmp .gt 152, 3) := by decide +kernel
theorem dX4_allDrink_21 : decode cX4_allDrink 21 = .ok (.aload_n 0, 1) := by decide +kernel
theorem dX4_allDrink_22 : decode cX4_allDrink 22 = .ok (.getfield 156, 3) := by decide +kernel
theorem dX4_allDrink_25 : decode cX4_allDrink 25 = .ok (.iload_n 2, 1) := by decide +kernel
theorem dX4_allDrink_26 : decode cX4_allDrink 26 = .ok (.iload_n 3, 1) := by decide +kernel
theorem dX4_allDrink_27 : decode cX4_allDrink 27 = .ok (.iadd, 1) := by decide +kernel
theorem dX4_allDrink_28 : decode cX4_allDrink 28 = .ok (.aload_n 0, 1) := by decide +kernel
theorem dX4_allDrink_29 : decode cX4_allDrink 29 = .ok (.getfield 159, 3) := by decide +kernel
theorem dX4_allDrink_32 : decode cX4_allDrink 32 = .ok (.irem, 1) := by decide +kernel
theorem dX4_allDrink_33 : decode cX4_allDrink 33 = .ok (.iadd, 1) := by decide +kernel
theorem dX4_allDrink_34 : decode cX4_allDrink 34 = .ok (.istore 4, 2) := by decide +kernel
theorem dX4_allDrink_36 : decode cX4_allDrink 36 = .ok (.aload_n 0, 1) := by decide +kernel
theorem dX4_allDrink_37 : decode cX4_allDrink 37 = .ok (.iload_n 1, 1) := by decide +kernel
theorem dX4_allDrink_38 : decode cX4_allDrink 38 = .ok (.iload 4, 2) := by decide +kernel
theorem dX4_allDrink_40 : decode cX4_allDrink 40 = .ok (.invokevirtual 167, 3) := by decide +kernel
theorem dX4_allDrink_43 : decode cX4_allDrink 43 = .ok (.ifCond .ne 121, 3) := by decide +kernel
theorem dX4_allDrink_46 : decode cX4_allDrink 46 = .ok (.aload_n 0, 1) := by decide +kernel
theorem dX4_allDrink_47 : decode cX4_allDrink 47 = .ok (.iload_n 1, 1) := by decide +kernel
theorem dX4_allDrink_48 : decode cX4_allDrink 48 = .ok (.iload 4, 2) := by decide +kernel
theorem dX4_allDrink_50 : decode cX4_allDrink 50 = .ok (.invokevirtual 221, 3) := by decide +kernel
theorem dX4_allDrink_53 : decode cX4_allDrink 53 = .ok (.istore 5, 2) := by decide +kernel
theorem dX4_allDrink_55 : decode cX4_allDrink 55 = .ok (.aload_n 0, 1) := by decide +kernel
theorem dX4_allDrink_56 : decode cX4_allDrink 56 = .ok (.iload_n 1, 1) := by decide +kernel
theorem dX4_allDrink_57 : decode cX4_allDrink 57 = .ok (.iload 4, 2) := by decide +kernel
theorem dX4_allDrink_59 : decode cX4_allDrink 59 = .ok (.invokevirtual 181, 3) := by decide +kernel
theorem dX4_allDrink_62 : decode cX4_allDrink 62 = .ok (.istore 6, 2) := by decide +kernel
theorem dX4_allDrink_64 : decode cX4_allDrink 64 = .ok (.iload 6, 2) := by decide +kernel
theorem dX4_allDrink_66 : decode cX4_allDrink 66 = .ok (.bipush 20, 2) := by decide +kernel
theorem dX4_allDrink_68 : decode cX4_allDrink 68 = .ok (.aload_n 0, 1) := by decide +kernel
theorem dX4_allDrink_69 : decode cX4_allDrink 69 = .ok (.getfield 7, 3) := by decide +kernel
theorem dX4_allDrink_72 : decode cX4_allDrink 72 = .ok (.iload_n 1, 1) := by decide +kernel
theorem dX4_allDrink_73 : decode cX4_allDrink 73 = .ok (.iconst 4, 1) := by decide +kernel
theorem dX4_allDrink_74 : decode cX4_allDrink 74 = .ok (.iadd, 1) := by decide +kernel
theorem dX4_allDrink_75 : decode cX4_allDrink 75 = .ok (.iload 5, 2) := by decide +kernel
theorem dX4_allDrink_77 : decode cX4_allDrink 77 = .ok (.iadd, 1) := by decide +kernel
theorem dX4_allDrink_78 : decode cX4_allDrink 78 = .ok (.iaload, 1) := by decide +kernel
theorem dX4_allDrink_79 : decode cX4_allDrink 79 = .ok (.isub, 1) := by decide +kernel
theorem dX4_allDrink_80 : decode cX4_allDrink 80 = .ok (.if_icmp .ge 8, 3) := by decide +kernel
theorem dX4_allDrink_83 : decode cX4_allDrink 83 = .ok (.iload 6, 2) := by decide +kernel
theorem dX4_allDrink_85 : decode cX4_allDrink 85 = .ok (.goto 17, 3) := by decide +kernel
theorem dX4_allDrink_88 : decode cX4_allDrink 88 = .ok (.bipush 20, 2) := by decide +kernel
theorem dX4_allDrink_90 : decode cX4_allDrink 90 = .ok (.aload_n 0, 1) := by decide +kernel
theorem dX4_allDrink_91 : decode cX4_allDrink 91 = .ok (.getfield 7, 3) := by decide +kernel
theorem dX4_allDrink_94 : decode cX4_allDrink 94 = .ok (.iload_n 1, 1) := by decide +kernel
theorem dX4_allDrink_95 : decode cX4_allDrink 95 = .ok (.iconst 4, 1) := by decide +kernel
theorem dX4_allDrink_96 : decode cX4_allDrink 96 = .ok (.iadd, 1) := by decide +kernel
theorem dX4_allDrink_97 : decode cX4_allDrink 97 = .ok (.iload 5, 2) := by decide +kernel
theorem dX4_allDrink_99 : decode cX4_allDrink 99 = .ok (.iadd, 1) := by decide +kernel
theorem dX4_allDrink_100 : decode cX4_allDrink 100 = .ok (.iaload, 1) := by decide +kernel
theorem dX4_allDrink_101 : decode cX4_allDrink 101 = .ok (.isub, 1) := by decide +kernel
theorem dX4_allDrink_102 : decode cX4_allDrink 102 = .ok (.istore 6, 2) := by decide +kernel
theorem dX4_allDrink_104 : decode cX4_allDrink 104 = .ok (.iload 6, 2) := by decide +kernel
theorem dX4_allDrink_106 : decode cX4_allDrink 106 = .ok (.aload_n 0, 1) := by decide +kernel
theorem dX4_allDrink_107 : decode cX4_allDrink 107 = .ok (.getfield 7, 3) := by decide +kernel
theorem dX4_allDrink_110 : decode cX4_allDrink 110 = .ok (.iload_n 1, 1) := by decide +kernel
theorem dX4_allDrink_111 : decode cX4_allDrink 111 = .ok (.bipush 8, 2) := by decide +kernel
theorem dX4_allDrink_113 : decode cX4_allDrink 113 = .ok (.iadd, 1) := by decide +kernel
theorem dX4_allDrink_114 : decode cX4_allDrink 114 = .ok (.iaload, 1) := by decide +kernel
theorem dX4_allDrink_115 : decode cX4_allDrink 115 = .ok (.if_icmp .ge 8, 3) := by decide +kernel
theorem dX4_allDrink_118 : decode cX4_allDrink 118 = .ok (.iload 6, 2) := by decide +kernel
theorem dX4_allDrink_120 : decode cX4_allDrink 120 = .ok (.goto 12, 3) := by decide +kernel
theorem dX4_allDrink_123 : decode cX4_allDrink 123 = .ok (.aload_n 0, 1) := by decide +kernel
theorem dX4_allDrink_124 : decode cX4_allDrink 124 = .ok (.getfield 7, 3) := by decide +kernel
theorem dX4_allDrink_127 : decode cX4_allDrink 127 = .ok (.iload_n 1, 1) := by decide +kernel
theorem dX4_allDrink_128 : decode cX4_allDrink 128 = .ok (.bipush 8, 2) := by decide +kernel
theorem dX4_allDrink_130 : decode cX4_allDrink 130 = .ok (.iadd, 1) := by decide +kernel
theorem dX4_allDrink_131 : decode cX4_allDrink 131 = .ok (.iaload, 1) := by decide +kernel
theorem dX4_allDrink_132 : decode cX4_allDrink 132 = .ok (.istore 6, 2) := by decide +kernel
theorem dX4_allDrink_134 : decode cX4_allDrink 134 = .ok (.aload_n 0, 1) := by decide +kernel
theorem dX4_allDrink_135 : decode cX4_allDrink 135 = .ok (.getfield 7, 3) := by decide +kernel
theorem dX4_allDrink_138 : decode cX4_allDrink 138 = .ok (.iload_n 1, 1) := by decide +kernel
theorem dX4_allDrink_139 : decode cX4_allDrink 139 = .ok (.iconst 4, 1) := by decide +kernel
theorem dX4_allDrink_140 : decode cX4_allDrink 140 = .ok (.iadd, 1) := by decide +kernel
theorem dX4_allDrink_141 : decode cX4_allDrink 141 = .ok (.iload 5, 2) := by decide +kernel
theorem dX4_allDrink_143 : decode cX4_allDrink 143 = .ok (.iadd, 1) := by decide +kernel
theorem dX4_allDrink_144 : decode cX4_allDrink 144 = .ok (.dup2, 1) := by decide +kernel
theorem dX4_allDrink_145 : decode cX4_allDrink 145 = .ok (.iaload, 1) := by decide +kernel
theorem dX4_allDrink_146 : decode cX4_allDrink 146 = .ok (.iload 6, 2) := by decide +kernel
theorem dX4_allDrink_148 : decode cX4_allDrink 148 = .ok (.iadd, 1) := by decide +kernel
theorem dX4_allDrink_149 : decode cX4_allDrink 149 = .ok (.iastore, 1) := by decide +kernel
theorem dX4_allDrink_150 : decode cX4_allDrink 150 = .ok (.aload_n 0, 1) := by decide +kernel
theorem dX4_allDrink_151 : decode cX4_allDrink 151 = .ok (.getfield 7, 3) := by decide +kernel
theorem dX4_allDrink_154 : decode cX4_allDrink 154 = .ok (.iload_n 1, 1) := by decide +kernel
theorem dX4_allDrink_155 : decode cX4_allDrink 155 = .ok (.bipush 8, 2) := by decide +kernel
theorem dX4_allDrink_157 : decode cX4_allDrink 157 = .ok (.iadd, 1) := by decide +kernel
theorem dX4_allDrink_158 : decode cX4_allDrink 158 = .ok (.dup2, 1) := by decide +kernel
theorem dX4_allDrink_159 : decode cX4_allDrink 159 = .ok (.iaload, 1) := by decide +kernel
theorem dX4_allDrink_160 : decode cX4_allDrink 160 = .ok (.iload 6, 2) := by decide +kernel
theorem dX4_allDrink_162 : decode cX4_allDrink 162 = .ok (.isub, 1) := by decide +kernel
theorem dX4_allDrink_163 : decode cX4_allDrink 163 = .ok (.iastore, 1) := by decide +kernel
theorem dX4_allDrink_164 : decode cX4_allDrink 164 = .ok (.iinc 3 1, 3) := by decide +kernel
theorem dX4_allDrink_167 : decode cX4_allDrink 167 = .ok (.goto (-154), 3) := by decide +kernel
theorem dX4_allDrink_170 : decode cX4_allDrink 170 = .ok (.return_, 1) := by decide +kernel
theorem dX4_walksOn_0 : decode cX4_walksOn 0 = .ok (.iconst 0, 1) := by decide +kernel
theorem dX4_walksOn_1 : decode cX4_walksOn 1 = .ok (.istore_n 2, 1) := by decide +kernel
theorem dX4_walksOn_2 : decode cX4_walksOn 2 = .ok (.aload_n 0, 1) := by decide +kernel
theorem dX4_walksOn_3 : decode cX4_walksOn 3 = .ok (.getfield 156, 3) := by decide +kernel
theorem dX4_walksOn_6 : decode cX4_walksOn 6 = .ok (.istore_n 3, 1) := by decide +kernel
theorem dX4_walksOn_7 : decode cX4_walksOn 7 = .ok (.iload_n 3, 1) := by decide +kernel
theorem dX4_walksOn_8 : decode cX4_walksOn 8 = .ok (.aload_n 0, 1) := by decide +kernel
theorem dX4_walksOn_9 : decode cX4_walksOn 9 = .ok (.getfield 156, 3) := by decide +kernel
theorem dX4_walksOn_12 : decode cX4_walksOn 12 = .ok (.aload_n 0, 1) := by decide +kernel
theorem dX4_walksOn_13 : decode cX4_walksOn 13 = .ok (.getfield 159, 3) := by decide +kernel
theorem dX4_walksOn_16 : decode cX4_walksOn 16 = .ok (.iadd, 1) := by decide +kernel
theorem dX4_walksOn_17 : decode cX4_walksOn 17 = .ok (.if_icmp .ge 36, 3) := by decide +kernel
theorem dX4_walksOn_20 : decode cX4_walksOn 20 = .ok (.aload_n 0, 1) := by decide +kernel
theorem dX4_walksOn_21 : decode cX4_walksOn 21 = .ok (.getfield 7, 3) := by decide +kernel
theorem dX4_walksOn_24 : decode cX4_walksOn 24 = .ok (.iload_n 1, 1) := by decide +kernel
theorem dX4_walksOn_25 : decode cX4_walksOn 25 = .ok (.iconst 4, 1) := by decide +kernel
theorem dX4_walksOn_26 : decode cX4_walksOn 26 = .ok (.iadd, 1) := by decide +kernel
theorem dX4_walksOn_27 : decode cX4_walksOn 27 = .ok (.iload_n 3, 1) := by decide +kernel
theorem dX4_walksOn_28 : decode cX4_walksOn 28 = .ok (.iadd, 1) := by decide +kernel
theorem dX4_walksOn_29 : decode cX4_walksOn 29 = .ok (.iaload, 1) := by decide +kernel
theorem dX4_walksOn_30 : decode cX4_walksOn 30 = .ok (.i2l, 1) := by decide +kernel
theorem dX4_walksOn_31 : decode cX4_walksOn 31 = .ok (.lconst 1, 1) := by decide +kernel
theorem dX4_walksOn_32 : decode cX4_walksOn 32 = .ok (.ldc2_w 133, 3) := by decide +kernel
theorem dX4_walksOn_35 : decode cX4_walksOn 35 = .ok (.invokestatic 59, 3) := by decide +kernel
theorem dX4_walksOn_38 : decode cX4_walksOn 38 = .ok (.ifCond .eq 7, 3) := by decide +kernel
theorem dX4_walksOn_41 : decode cX4_walksOn 41 = .ok (.iconst 1, 1) := by decide +kernel
theorem dX4_walksOn_42 : decode cX4_walksOn 42 = .ok (.goto 4, 3) := by decide +kernel
theorem dX4_walksOn_45 : decode cX4_walksOn 45 = .ok (.iload_n 2, 1) := by decide +kernel
theorem dX4_walksOn_46 : decode cX4_walksOn 46 = .ok (.istore_n 2, 1) := by decide +kernel
theorem dX4_walksOn_47 : decode cX4_walksOn 47 = .ok (.iinc 3 1, 3) := by decide +kernel
theorem dX4_walksOn_50 : decode cX4_walksOn 50 = .ok (.goto (-43), 3) := by decide +kernel
theorem dX4_walksOn_53 : decode cX4_walksOn 53 = .ok (.aload_n 0, 1) := by decide +kernel
theorem dX4_walksOn_54 : decode cX4_walksOn 54 = .ok (.getfield 7, 3) := by decide +kernel
theorem dX4_walksOn_57 : decode cX4_walksOn 57 = .ok (.iload_n 1, 1) := by decide +kernel
theorem dX4_walksOn_58 : decode cX4_walksOn 58 = .ok (.bipush 9, 2) := by decide +kernel
theorem dX4_walksOn_60 : decode cX4_walksOn 60 = .ok (.iadd, 1) := by decide +kernel
theorem dX4_walksOn_61 : decode cX4_walksOn 61 = .ok (.iaload, 1) := by decide +kernel
theorem dX4_walksOn_62 : decode cX4_walksOn 62 = .ok (.istore_n 3, 1) := by decide +kernel
theorem dX4_walksOn_63 : decode cX4_walksOn 63 = .ok (.aload_n 0, 1) := by decide +kernel
theorem dX4_walksOn_64 : decode cX4_walksOn 64 = .ok (.getfield 7, 3) := by decide +kernel
theorem dX4_walksOn_67 : decode cX4_walksOn 67 = .ok (.iload_n 1, 1) := by decide +kernel
theorem dX4_walksOn_68 : decode cX4_walksOn 68 = .ok (.bipush 9, 2) := by decide +kernel
theorem dX4_walksOn_70 : decode cX4_walksOn 70 = .ok (.iadd, 1) := by decide +kernel
theorem dX4_walksOn_71 : decode cX4_walksOn 71 = .ok (.dup2, 1) := by decide +kernel
theorem dX4_walksOn_72 : decode cX4_walksOn 72 = .ok (.iaload, 1) := by decide +kernel
theorem dX4_walksOn_73 : decode cX4_walksOn 73 = .ok (.aload_n 0, 1) := by decide +kernel
theorem dX4_walksOn_74 : decode cX4_walksOn 74 = .ok (.iload_n 1, 1) := by decide +kernel
theorem dX4_walksOn_75 : decode cX4_walksOn 75 = .ok (.invokevirtual 191, 3) := by decide +kernel
theorem dX4_walksOn_78 : decode cX4_walksOn 78 = .ok (.ifCond .eq 7, 3) := by decide +kernel
theorem dX4_walksOn_81 : decode cX4_walksOn 81 = .ok (.iconst 2, 1) := by decide +kernel
theorem dX4_walksOn_82 : decode cX4_walksOn 82 = .ok (.goto 4, 3) := by decide +kernel
theorem dX4_walksOn_85 : decode cX4_walksOn 85 = .ok (.iconst 3, 1) := by decide +kernel
theorem dX4_walksOn_86 : decode cX4_walksOn 86 = .ok (.iload_n 2, 1) := by decide +kernel
theorem dX4_walksOn_87 : decode cX4_walksOn 87 = .ok (.isub, 1) := by decide +kernel
theorem dX4_walksOn_88 : decode cX4_walksOn 88 = .ok (.iadd, 1) := by decide +kernel
theorem dX4_walksOn_89 : decode cX4_walksOn 89 = .ok (.iastore, 1) := by decide +kernel
theorem dX4_walksOn_90 : decode cX4_walksOn 90 = .ok (.iconst 0, 1) := by decide +kernel
theorem dX4_walksOn_91 : decode cX4_walksOn 91 = .ok (.istore 4, 2) := by decide +kernel
theorem dX4_walksOn_93 : decode cX4_walksOn 93 = .ok (.iload 4, 2) := by decide +kernel
theorem dX4_walksOn_95 : decode cX4_walksOn 95 = .ok (.aload_n 0, 1) := by decide +kernel
theorem dX4_walksOn_96 : decode cX4_walksOn 96 = .ok (.getfield 153, 3) := by decide +kernel
theorem dX4_walksOn_99 : decode cX4_walksOn 99 = .ok (.if_icmp .ge 87, 3) := by decide +kernel
theorem dX4_walksOn_102 : decode cX4_walksOn 102 = .ok (.aload_n 0, 1) := by decide +kernel
theorem dX4_walksOn_103 : decode cX4_walksOn 103 = .ok (.getfield 16, 3) := by decide +kernel
theorem dX4_walksOn_106 : decode cX4_walksOn 106 = .ok (.iconst 2, 1) := by decide +kernel
theorem dX4_walksOn_107 : decode cX4_walksOn 107 = .ok (.iload 4, 2) := by decide +kernel
theorem dX4_walksOn_109 : decode cX4_walksOn 109 = .ok (.imul, 1) := by decide +kernel
theorem dX4_walksOn_110 : decode cX4_walksOn 110 = .ok (.iaload, 1) := by decide +kernel
theorem dX4_walksOn_111 : decode cX4_walksOn 111 = .ok (.iload_n 3, 1) := by decide +kernel
theorem dX4_walksOn_112 : decode cX4_walksOn 112 = .ok (.if_icmp .le 68, 3) := by decide +kernel
theorem dX4_walksOn_115 : decode cX4_walksOn 115 = .ok (.aload_n 0, 1) := by decide +kernel
theorem dX4_walksOn_116 : decode cX4_walksOn 116 = .ok (.getfield 16, 3) := by decide +kernel
theorem dX4_walksOn_119 : decode cX4_walksOn 119 = .ok (.iconst 2, 1) := by decide +kernel
theorem dX4_walksOn_120 : decode cX4_walksOn 120 = .ok (.iload 4, 2) := by decide +kernel
theorem dX4_walksOn_122 : decode cX4_walksOn 122 = .ok (.imul, 1) := by decide +kernel
theorem dX4_walksOn_123 : decode cX4_walksOn 123 = .ok (.iaload, 1) := by decide +kernel
theorem dX4_walksOn_124 : decode cX4_walksOn 124 = .ok (.aload_n 0, 1) := by decide +kernel
theorem dX4_walksOn_125 : decode cX4_walksOn 125 = .ok (.getfield 7, 3) := by decide +kernel
theorem dX4_walksOn_128 : decode cX4_walksOn 128 = .ok (.iload_n 1, 1) := by decide +kernel
theorem dX4_walksOn_129 : decode cX4_walksOn 129 = .ok (.bipush 9, 2) := by decide +kernel
theorem dX4_walksOn_131 : decode cX4_walksOn 131 = .ok (.iadd, 1) := by decide +kernel
theorem dX4_walksOn_132 : decode cX4_walksOn 132 = .ok (.iaload, 1) := by decide +kernel
theorem dX4_walksOn_133 : decode cX4_walksOn 133 = .ok (.if_icmp .gt 47, 3) := by decide +kernel
theorem dX4_walksOn_136 : decode cX4_walksOn 136 = .ok (.aload_n 0, 1) := by decide +kernel
theorem dX4_walksOn_137 : decode cX4_walksOn 137 = .ok (.getfield 7, 3) := by decide +kernel
theorem dX4_walksOn_140 : decode cX4_walksOn 140 = .ok (.iload_n 1, 1) := by decide +kernel
theorem dX4_walksOn_141 : decode cX4_walksOn 141 = .ok (.bipush 14, 2) := by decide +kernel
theorem dX4_walksOn_143 : decode cX4_walksOn 143 = .ok (.iadd, 1) := by decide +kernel
theorem dX4_walksOn_144 : decode cX4_walksOn 144 = .ok (.iload 4, 2) := by decide +kernel
theorem dX4_walksOn_146 : decode cX4_walksOn 146 = .ok (.iadd, 1) := by decide +kernel
theorem dX4_walksOn_147 : decode cX4_walksOn 147 = .ok (.iaload, 1) := by decide +kernel
theorem dX4_walksOn_148 : decode cX4_walksOn 148 = .ok (.ifCond .ne 32, 3) := by decide +kernel
theorem dX4_walksOn_151 : decode cX4_walksOn 151 = .ok (.aload_n 0, 1) := by decide +kernel
theorem dX4_walksOn_152 : decode cX4_walksOn 152 = .ok (.iload_n 1, 1) := by decide +kernel
theorem dX4_walksOn_153 : decode cX4_walksOn 153 = .ok (.aload_n 0, 1) := by decide +kernel
theorem dX4_walksOn_154 : decode cX4_walksOn 154 = .ok (.getfield 16, 3) := by decide +kernel
theorem dX4_walksOn_157 : decode cX4_walksOn 157 = .ok (.iconst 2, 1) := by decide +kernel
theorem dX4_walksOn_158 : decode cX4_walksOn 158 = .ok (.iload 4, 2) := by decide +kernel
theorem dX4_walksOn_160 : decode cX4_walksOn 160 = .ok (.imul, 1) := by decide +kernel
theorem dX4_walksOn_161 : decode cX4_walksOn 161 = .ok (.iconst 1, 1) := by decide +kernel
theorem dX4_walksOn_162 : decode cX4_walksOn 162 = .ok (.iadd, 1) := by decide +kernel
theorem dX4_walksOn_163 : decode cX4_walksOn 163 = .ok (.iaload, 1) := by decide +kernel
theorem dX4_walksOn_164 : decode cX4_walksOn 164 = .ok (.invokevirtual 224, 3) := by decide +kernel
theorem dX4_walksOn_167 : decode cX4_walksOn 167 = .ok (.aload_n 0, 1) := by decide +kernel
theorem dX4_walksOn_168 : decode cX4_walksOn 168 = .ok (.getfield 7, 3) := by decide +kernel
theorem dX4_walksOn_171 : decode cX4_walksOn 171 = .ok (.iload_n 1, 1) := by decide +kernel
theorem dX4_walksOn_172 : decode cX4_walksOn 172 = .ok (.bipush 14, 2) := by decide +kernel
theorem dX4_walksOn_174 : decode cX4_walksOn 174 = .ok (.iadd, 1) := by decide +kernel
theorem dX4_walksOn_175 : decode cX4_walksOn 175 = .ok (.iload 4, 2) := by decide +kernel
theorem dX4_walksOn_177 : decode cX4_walksOn 177 = .ok (.iadd, 1) := by decide +kernel
theorem dX4_walksOn_178 : decode cX4_walksOn 178 = .ok (.iconst 1, 1) := by decide +kernel
theorem dX4_walksOn_179 : decode cX4_walksOn 179 = .ok (.iastore, 1) := by decide +kernel
theorem dX4_walksOn_180 : decode cX4_walksOn 180 = .ok (.iinc 4 1, 3) := by decide +kernel
theorem dX4_walksOn_183 : decode cX4_walksOn 183 = .ok (.goto (-90), 3) := by decide +kernel
theorem dX4_walksOn_186 : decode cX4_walksOn 186 = .ok (.return_, 1) := by decide +kernel
theorem dX4_anHour_0 : decode cX4_anHour 0 = .ok (.aload_n 0, 1) := by decide +kernel
theorem dX4_anHour_1 : decode cX4_anHour 1 = .ok (.iload_n 1, 1) := by decide +kernel
theorem dX4_anHour_2 : decode cX4_anHour 2 = .ok (.invokevirtual 228, 3) := by decide +kernel
theorem dX4_anHour_5 : decode cX4_anHour 5 = .ok (.ifCond .ne 116, 3) := by decide +kernel
theorem dX4_anHour_8 : decode cX4_anHour 8 = .ok (.aload_n 0, 1) := by decide +kernel
theorem dX4_anHour_9 : decode cX4_anHour 9 = .ok (.iload_n 1, 1) := by decide +kernel
theorem dX4_anHour_10 : decode cX4_anHour 10 = .ok (.invokevirtual 171, 3) := by decide +kernel
theorem dX4_anHour_13 : decode cX4_anHour 13 = .ok (.bipush 24, 2) := by decide +kernel
theorem dX4_anHour_15 : decode cX4_anHour 15 = .ok (.irem, 1) := by decide +kernel
theorem dX4_anHour_16 : decode cX4_anHour 16 = .ok (.iconst 4, 1) := by decide +kernel
theorem dX4_anHour_17 : decode cX4_anHour 17 = .ok (.if_icmp .ne 17, 3) := by decide +kernel
theorem dX4_anHour_20 : decode cX4_anHour 20 = .ok (.aload_n 0, 1) := by decide +kernel
theorem dX4_anHour_21 : decode cX4_anHour 21 = .ok (.iload_n 1, 1) := by decide +kernel
theorem dX4_anHour_22 : decode cX4_anHour 22 = .ok (.aload_n 0, 1) := by decide +kernel
theorem dX4_anHour_23 : decode cX4_anHour 23 = .ok (.getfield 7, 3) := by decide +kernel
theorem dX4_anHour_26 : decode cX4_anHour 26 = .ok (.iload_n 1, 1) := by decide +kernel
theorem dX4_anHour_27 : decode cX4_anHour 27 = .ok (.bipush 12, 2) := by decide +kernel
theorem dX4_anHour_29 : decode cX4_anHour 29 = .ok (.iadd, 1) := by decide +kernel
theorem dX4_anHour_30 : decode cX4_anHour 30 = .ok (.iaload, 1) := by decide +kernel
theorem dX4_anHour_31 : decode cX4_anHour 31 = .ok (.invokevirtual 224, 3) := by decide +kernel
theorem dX4_anHour_34 : decode cX4_anHour 34 = .ok (.aload_n 0, 1) := by decide +kernel
theorem dX4_anHour_35 : decode cX4_anHour 35 = .ok (.iload_n 1, 1) := by decide +kernel
theorem dX4_anHour_36 : decode cX4_anHour 36 = .ok (.invokevirtual 231, 3) := by decide +kernel
theorem dX4_anHour_39 : decode cX4_anHour 39 = .ok (.aload_n 0, 1) := by decide +kernel
theorem dX4_anHour_40 : decode cX4_anHour 40 = .ok (.getfield 156, 3) := by decide +kernel
theorem dX4_anHour_43 : decode cX4_anHour 43 = .ok (.istore_n 3, 1) := by decide +kernel
theorem dX4_anHour_44 : decode cX4_anHour 44 = .ok (.iload_n 3, 1) := by decide +kernel
theorem dX4_anHour_45 : decode cX4_anHour 45 = .ok (.aload_n 0, 1) := by decide +kernel
theorem dX4_anHour_46 : decode cX4_anHour 46 = .ok (.getfield 156, 3) := by decide +kernel
theorem dX4_anHour_49 : decode cX4_anHour 49 = .ok (.aload_n 0, 1) := by decide +kernel
theorem dX4_anHour_50 : decode cX4_anHour 50 = .ok (.getfield 159, 3) := by decide +kernel
theorem dX4_anHour_53 : decode cX4_anHour 53 = .ok (.iadd, 1) := by decide +kernel
theorem dX4_anHour_54 : decode cX4_anHour 54 = .ok (.if_icmp .ge 50, 3) := by decide +kernel
theorem dX4_anHour_57 : decode cX4_anHour 57 = .ok (.aload_n 0, 1) := by decide +kernel
theorem dX4_anHour_58 : decode cX4_anHour 58 = .ok (.getfield 7, 3) := by decide +kernel
theorem dX4_anHour_61 : decode cX4_anHour 61 = .ok (.iload_n 1, 1) := by decide +kernel
theorem dX4_anHour_62 : decode cX4_anHour 62 = .ok (.iconst 4, 1) := by decide +kernel
theorem dX4_anHour_63 : decode cX4_anHour 63 = .ok (.iadd, 1) := by decide +kernel
theorem dX4_anHour_64 : decode cX4_anHour 64 = .ok (.iload_n 3, 1) := by decide +kernel
theorem dX4_anHour_65 : decode cX4_anHour 65 = .ok (.iadd, 1) := by decide +kernel
theorem dX4_anHour_66 : decode cX4_anHour 66 = .ok (.iaload, 1) := by decide +kernel
theorem dX4_anHour_67 : decode cX4_anHour 67 = .ok (.aload_n 0, 1) := by decide +kernel
theorem dX4_anHour_68 : decode cX4_anHour 68 = .ok (.iload_n 1, 1) := by decide +kernel
theorem dX4_anHour_69 : decode cX4_anHour 69 = .ok (.iload_n 3, 1) := by decide +kernel
theorem dX4_anHour_70 : decode cX4_anHour 70 = .ok (.iload_n 2, 1) := by decide +kernel
theorem dX4_anHour_71 : decode cX4_anHour 71 = .ok (.invokevirtual 194, 3) := by decide +kernel
theorem dX4_anHour_74 : decode cX4_anHour 74 = .ok (.isub, 1) := by decide +kernel
theorem dX4_anHour_75 : decode cX4_anHour 75 = .ok (.istore 4, 2) := by decide +kernel
theorem dX4_anHour_77 : decode cX4_anHour 77 = .ok (.aload_n 0, 1) := by decide +kernel
theorem dX4_anHour_78 : decode cX4_anHour 78 = .ok (.getfield 7, 3) := by decide +kernel
theorem dX4_anHour_81 : decode cX4_anHour 81 = .ok (.iload_n 1, 1) := by decide +kernel
theorem dX4_anHour_82 : decode cX4_anHour 82 = .ok (.iconst 4, 1) := by decide +kernel
theorem dX4_anHour_83 : decode cX4_anHour 83 = .ok (.iadd, 1) := by decide +kernel
theorem dX4_anHour_84 : decode cX4_anHour 84 = .ok (.iload_n 3, 1) := by decide +kernel
theorem dX4_anHour_85 : decode cX4_anHour 85 = .ok (.iadd, 1) := by decide +kernel
theorem dX4_anHour_86 : decode cX4_anHour 86 = .ok (.iload 4, 2) := by decide +kernel
theorem dX4_anHour_88 : decode cX4_anHour 88 = .ok (.ifCond .le 8, 3) := by decide +kernel
theorem dX4_anHour_91 : decode cX4_anHour 91 = .ok (.iload 4, 2) := by decide +kernel
theorem dX4_anHour_93 : decode cX4_anHour 93 = .ok (.goto 4, 3) := by decide +kernel
theorem dX4_anHour_96 : decode cX4_anHour 96 = .ok (.iconst 0, 1) := by decide +kernel
theorem dX4_anHour_97 : decode cX4_anHour 97 = .ok (.iastore, 1) := by decide +kernel
theorem dX4_anHour_98 : decode cX4_anHour 98 = .ok (.iinc 3 1, 3) := by decide +kernel
theorem dX4_anHour_101 : decode cX4_anHour 101 = .ok (.goto (-57), 3) := by decide +kernel
theorem dX4_anHour_104 : decode cX4_anHour 104 = .ok (.iload_n 2, 1) := by decide +kernel
theorem dX4_anHour_105 : decode cX4_anHour 105 = .ok (.ifCond .eq 16, 3) := by decide +kernel
theorem dX4_anHour_108 : decode cX4_anHour 108 = .ok (.aload_n 0, 1) := by decide +kernel
theorem dX4_anHour_109 : decode cX4_anHour 109 = .ok (.iload_n 1, 1) := by decide +kernel
theorem dX4_anHour_110 : decode cX4_anHour 110 = .ok (.invokevirtual 218, 3) := by decide +kernel
theorem dX4_anHour_113 : decode cX4_anHour 113 = .ok (.ifCond .le 8, 3) := by decide +kernel
theorem dX4_anHour_116 : decode cX4_anHour 116 = .ok (.aload_n 0, 1) := by decide +kernel
theorem dX4_anHour_117 : decode cX4_anHour 117 = .ok (.iload_n 1, 1) := by decide +kernel
theorem dX4_anHour_118 : decode cX4_anHour 118 = .ok (.invokevirtual 234, 3) := by decide +kernel
theorem dX4_anHour_121 : decode cX4_anHour 121 = .ok (.aload_n 0, 1) := by decide +kernel
theorem dX4_anHour_122 : decode cX4_anHour 122 = .ok (.getfield 7, 3) := by decide +kernel
theorem dX4_anHour_125 : decode cX4_anHour 125 = .ok (.iload_n 1, 1) := by decide +kernel
theorem dX4_anHour_126 : decode cX4_anHour 126 = .ok (.bipush 10, 2) := by decide +kernel
theorem dX4_anHour_128 : decode cX4_anHour 128 = .ok (.iadd, 1) := by decide +kernel
theorem dX4_anHour_129 : decode cX4_anHour 129 = .ok (.dup2, 1) := by decide +kernel
theorem dX4_anHour_130 : decode cX4_anHour 130 = .ok (.iaload, 1) := by decide +kernel
theorem dX4_anHour_131 : decode cX4_anHour 131 = .ok (.iconst 1, 1) := by decide +kernel
theorem dX4_anHour_132 : decode cX4_anHour 132 = .ok (.iadd, 1) := by decide +kernel
theorem dX4_anHour_133 : decode cX4_anHour 133 = .ok (.iastore, 1) := by decide +kernel
theorem dX4_anHour_134 : decode cX4_anHour 134 = .ok (.return_, 1) := by decide +kernel
theorem dX4_isWalking_0 : decode cX4_isWalking 0 = .ok (.iload_n 2, 1) := by decide +kernel
theorem dX4_isWalking_1 : decode cX4_isWalking 1 = .ok (.iconst 2, 1) := by decide +kernel
theorem dX4_isWalking_2 : decode cX4_isWalking 2 = .ok (.if_icmp .eq 26, 3) := by decide +kernel
theorem dX4_isWalking_5 : decode cX4_isWalking 5 = .ok (.iload_n 2, 1) := by decide +kernel
theorem dX4_isWalking_6 : decode cX4_isWalking 6 = .ok (.iconst 2, 1) := by decide +kernel
theorem dX4_isWalking_7 : decode cX4_isWalking 7 = .ok (.if_icmp .ge 25, 3) := by decide +kernel
theorem dX4_isWalking_10 : decode cX4_isWalking 10 = .ok (.iload_n 2, 1) := by decide +kernel
theorem dX4_isWalking_11 : decode cX4_isWalking 11 = .ok (.iconst 1, 1) := by decide +kernel
theorem dX4_isWalking_12 : decode cX4_isWalking 12 = .ok (.if_icmp .ne 7, 3) := by decide +kernel
theorem dX4_isWalking_15 : decode cX4_isWalking 15 = .ok (.iconst 1, 1) := by decide +kernel
theorem dX4_isWalking_16 : decode cX4_isWalking 16 = .ok (.goto 4, 3) := by decide +kernel
theorem dX4_isWalking_19 : decode cX4_isWalking 19 = .ok (.iconst 0, 1) := by decide +kernel
theorem dX4_isWalking_20 : decode cX4_isWalking 20 = .ok (.aload_n 0, 1) := by decide +kernel
theorem dX4_isWalking_21 : decode cX4_isWalking 21 = .ok (.iload_n 1, 1) := by decide +kernel
theorem dX4_isWalking_22 : decode cX4_isWalking 22 = .ok (.invokevirtual 191, 3) := by decide +kernel
theorem dX4_isWalking_25 : decode cX4_isWalking 25 = .ok (.if_icmp .ne 7, 3) := by decide +kernel
theorem dX4_isWalking_28 : decode cX4_isWalking 28 = .ok (.iconst 1, 1) := by decide +kernel
theorem dX4_isWalking_29 : decode cX4_isWalking 29 = .ok (.goto 4, 3) := by decide +kernel
theorem dX4_isWalking_32 : decode cX4_isWalking 32 = .ok (.iconst 0, 1) := by decide +kernel
theorem dX4_isWalking_33 : decode cX4_isWalking 33 = .ok (.ireturn, 1) := by decide +kernel
theorem dX4_goesOn_0 : decode cX4_goesOn 0 = .ok (.iconst 0, 1) := by decide +kernel
theorem dX4_goesOn_1 : decode cX4_goesOn 1 = .ok (.istore 4, 2) := by decide +kernel
theorem dX4_goesOn_3 : decode cX4_goesOn 3 = .ok (.iload 4, 2) := by decide +kernel
theorem dX4_goesOn_5 : decode cX4_goesOn 5 = .ok (.iload_n 2, 1) := by decide +kernel
theorem dX4_goesOn_6 : decode cX4_goesOn 6 = .ok (.if_icmp .ge 20, 3) := by decide +kernel
theorem dX4_goesOn_9 : decode cX4_goesOn 9 = .ok (.aload_n 0, 1) := by decide +kernel
theorem dX4_goesOn_10 : decode cX4_goesOn 10 = .ok (.iload_n 1, 1) := by decide +kernel
theorem dX4_goesOn_11 : decode cX4_goesOn 11 = .ok (.aload_n 0, 1) := by decide +kernel
theorem dX4_goesOn_12 : decode cX4_goesOn 12 = .ok (.iload_n 1, 1) := by decide +kernel
theorem dX4_goesOn_13 : decode cX4_goesOn 13 = .ok (.iload_n 3, 1) := by decide +kernel
theorem dX4_goesOn_14 : decode cX4_goesOn 14 = .ok (.invokevirtual 237, 3) := by decide +kernel
theorem dX4_goesOn_17 : decode cX4_goesOn 17 = .ok (.invokevirtual 240, 3) := by decide +kernel
theorem dX4_goesOn_20 : decode cX4_goesOn 20 = .ok (.iinc 4 1, 3) := by decide +kernel
theorem dX4_goesOn_23 : decode cX4_goesOn 23 = .ok (.goto (-20), 3) := by decide +kernel
theorem dX4_goesOn_26 : decode cX4_goesOn 26 = .ok (.return_, 1) := by decide +kernel
theorem dX4_copies_0 : decode cX4_copies 0 = .ok (.iconst 0, 1) := by decide +kernel
theorem dX4_copies_1 : decode cX4_copies 1 = .ok (.istore_n 3, 1) := by decide +kernel
theorem dX4_copies_2 : decode cX4_copies 2 = .ok (.iload_n 3, 1) := by decide +kernel
theorem dX4_copies_3 : decode cX4_copies 3 = .ok (.bipush 20, 2) := by decide +kernel
theorem dX4_copies_5 : decode cX4_copies 5 = .ok (.if_icmp .ge 25, 3) := by decide +kernel
theorem dX4_copies_8 : decode cX4_copies 8 = .ok (.aload_n 0, 1) := by decide +kernel
theorem dX4_copies_9 : decode cX4_copies 9 = .ok (.getfield 7, 3) := by decide +kernel
theorem dX4_copies_12 : decode cX4_copies 12 = .ok (.iload_n 2, 1) := by decide +kernel
theorem dX4_copies_13 : decode cX4_copies 13 = .ok (.iload_n 3, 1) := by decide +kernel
theorem dX4_copies_14 : decode cX4_copies 14 = .ok (.iadd, 1) := by decide +kernel
theorem dX4_copies_15 : decode cX4_copies 15 = .ok (.aload_n 0, 1) := by decide +kernel
theorem dX4_copies_16 : decode cX4_copies 16 = .ok (.getfield 7, 3) := by decide +kernel
theorem dX4_copies_19 : decode cX4_copies 19 = .ok (.iload_n 1, 1) := by decide +kernel
theorem dX4_copies_20 : decode cX4_copies 20 = .ok (.iload_n 3, 1) := by decide +kernel
theorem dX4_copies_21 : decode cX4_copies 21 = .ok (.iadd, 1) := by decide +kernel
theorem dX4_copies_22 : decode cX4_copies 22 = .ok (.iaload, 1) := by decide +kernel
theorem dX4_copies_23 : decode cX4_copies 23 = .ok (.iastore, 1) := by decide +kernel
theorem dX4_copies_24 : decode cX4_copies 24 = .ok (.iinc 3 1, 3) := by decide +kernel
theorem dX4_copies_27 : decode cX4_copies 27 = .ok (.goto (-25), 3) := by decide +kernel
theorem dX4_copies_30 : decode cX4_copies 30 = .ok (.return_, 1) := by decide +kernel
theorem dX4_go_0 : decode cX4_go 0 = .ok (.iload_n 1, 1) := by decide +kernel
theorem dX4_go_1 : decode cX4_go 1 = .ok (.i2l, 1) := by decide +kernel
theorem dX4_go_2 : decode cX4_go 2 = .ok (.lconst 0, 1) := by decide +kernel
theorem dX4_go_3 : decode cX4_go 3 = .ok (.ldc2_w 209, 3) := by decide +kernel
theorem dX4_go_6 : decode cX4_go 6 = .ok (.invokestatic 59, 3) := by decide +kernel
theorem dX4_go_9 : decode cX4_go 9 = .ok (.ifCond .ne 5, 3) := by decide +kernel
theorem dX4_go_12 : decode cX4_go 12 = .ok (.iconst (-1), 1) := by decide +kernel
theorem dX4_go_13 : decode cX4_go 13 = .ok (.ireturn, 1) := by decide +kernel
theorem dX4_go_14 : decode cX4_go 14 = .ok (.aload_n 0, 1) := by decide +kernel
theorem dX4_go_15 : decode cX4_go 15 = .ok (.iconst 0, 1) := by decide +kernel
theorem dX4_go_16 : decode cX4_go 16 = .ok (.invokevirtual 171, 3) := by decide +kernel
theorem dX4_go_19 : decode cX4_go 19 = .ok (.iload_n 1, 1) := by decide +kernel
theorem dX4_go_20 : decode cX4_go 20 = .ok (.iadd, 1) := by decide +kernel
theorem dX4_go_21 : decode cX4_go 21 = .ok (.sipush 999, 3) := by decide +kernel
theorem dX4_go_24 : decode cX4_go 24 = .ok (.if_icmp .le 6, 3) := by decide +kernel
theorem dX4_go_27 : decode cX4_go 27 = .ok (.bipush (-3), 2) := by decide +kernel
theorem dX4_go_29 : decode cX4_go 29 = .ok (.ireturn, 1) := by decide +kernel
theorem dX4_go_30 : decode cX4_go 30 = .ok (.aload_n 0, 1) := by decide +kernel
theorem dX4_go_31 : decode cX4_go 31 = .ok (.iconst 0, 1) := by decide +kernel
theorem dX4_go_32 : decode cX4_go 32 = .ok (.iload_n 1, 1) := by decide +kernel
theorem dX4_go_33 : decode cX4_go 33 = .ok (.aload_n 0, 1) := by decide +kernel
theorem dX4_go_34 : decode cX4_go 34 = .ok (.getfield 7, 3) := by decide +kernel
theorem dX4_go_37 : decode cX4_go 37 = .ok (.bipush 11, 2) := by decide +kernel
theorem dX4_go_39 : decode cX4_go 39 = .ok (.iaload, 1) := by decide +kernel
theorem dX4_go_40 : decode cX4_go 40 = .ok (.invokevirtual 244, 3) := by decide +kernel
theorem dX4_go_43 : decode cX4_go 43 = .ok (.aload_n 0, 1) := by decide +kernel
theorem dX4_go_44 : decode cX4_go 44 = .ok (.iconst 0, 1) := by decide +kernel
theorem dX4_go_45 : decode cX4_go 45 = .ok (.invokevirtual 218, 3) := by decide +kernel
theorem dX4_go_48 : decode cX4_go 48 = .ok (.ireturn, 1) := by decide +kernel
theorem dX4_ahead_0 : decode cX4_ahead 0 = .ok (.iload_n 1, 1) := by decide +kernel
theorem dX4_ahead_1 : decode cX4_ahead 1 = .ok (.i2l, 1) := by decide +kernel
theorem dX4_ahead_2 : decode cX4_ahead 2 = .ok (.lconst 0, 1) := by decide +kernel
theorem dX4_ahead_3 : decode cX4_ahead 3 = .ok (.ldc2_w 248, 3) := by decide +kernel
theorem dX4_ahead_6 : decode cX4_ahead 6 = .ok (.invokestatic 59, 3) := by decide +kernel
theorem dX4_ahead_9 : decode cX4_ahead 9 = .ok (.ifCond .eq 34, 3) := by decide +kernel
theorem dX4_ahead_12 : decode cX4_ahead 12 = .ok (.iload_n 2, 1) := by decide +kernel
theorem dX4_ahead_13 : decode cX4_ahead 13 = .ok (.i2l, 1) := by decide +kernel
theorem dX4_ahead_14 : decode cX4_ahead 14 = .ok (.lconst 0, 1) := by decide +kernel
theorem dX4_ahead_15 : decode cX4_ahead 15 = .ok (.ldc2_w 123, 3) := by decide +kernel
theorem dX4_ahead_18 : decode cX4_ahead 18 = .ok (.invokestatic 59, 3) := by decide +kernel
theorem dX4_ahead_21 : decode cX4_ahead 21 = .ok (.ifCond .ne 24, 3) := by decide +kernel
theorem dX4_ahead_24 : decode cX4_ahead 24 = .ok (.iload_n 2, 1) := by decide +kernel
theorem dX4_ahead_25 : decode cX4_ahead 25 = .ok (.i2l, 1) := by decide +kernel
theorem dX4_ahead_26 : decode cX4_ahead 26 = .ok (.ldc2_w 214, 3) := by decide +kernel
theorem dX4_ahead_29 : decode cX4_ahead 29 = .ok (.bipush 9, 2) := by decide +kernel
theorem dX4_ahead_31 : decode cX4_ahead 31 = .ok (.aload_n 0, 1) := by decide +kernel
theorem dX4_ahead_32 : decode cX4_ahead 32 = .ok (.getfield 150, 3) := by decide +kernel
theorem dX4_ahead_35 : decode cX4_ahead 35 = .ok (.iadd, 1) := by decide +kernel
theorem dX4_ahead_36 : decode cX4_ahead 36 = .ok (.i2l, 1) := by decide +kernel
theorem dX4_ahead_37 : decode cX4_ahead 37 = .ok (.invokestatic 59, 3) := by decide +kernel
theorem dX4_ahead_40 : decode cX4_ahead 40 = .ok (.ifCond .ne 5, 3) := by decide +kernel
theorem dX4_ahead_43 : decode cX4_ahead 43 = .ok (.iconst (-1), 1) := by decide +kernel
theorem dX4_ahead_44 : decode cX4_ahead 44 = .ok (.ireturn, 1) := by decide +kernel
theorem dX4_ahead_45 : decode cX4_ahead 45 = .ok (.aload_n 0, 1) := by decide +kernel
theorem dX4_ahead_46 : decode cX4_ahead 46 = .ok (.iconst 0, 1) := by decide +kernel
theorem dX4_ahead_47 : decode cX4_ahead 47 = .ok (.bipush 80, 2) := by decide +kernel
theorem dX4_ahead_49 : decode cX4_ahead 49 = .ok (.invokevirtual 250, 3) := by decide +kernel
theorem dX4_ahead_52 : decode cX4_ahead 52 = .ok (.aload_n 0, 1) := by decide +kernel
theorem dX4_ahead_53 : decode cX4_ahead 53 = .ok (.bipush 80, 2) := by decide +kernel
theorem dX4_ahead_55 : decode cX4_ahead 55 = .ok (.iload_n 1, 1) := by decide +kernel
theorem dX4_ahead_56 : decode cX4_ahead 56 = .ok (.aload_n 0, 1) := by decide +kernel
theorem dX4_ahead_57 : decode cX4_ahead 57 = .ok (.getfield 7, 3) := by decide +kernel
theorem dX4_ahead_60 : decode cX4_ahead 60 = .ok (.bipush 11, 2) := by decide +kernel
theorem dX4_ahead_62 : decode cX4_ahead 62 = .ok (.iaload, 1) := by decide +kernel
theorem dX4_ahead_63 : decode cX4_ahead 63 = .ok (.invokevirtual 244, 3) := by decide +kernel
theorem dX4_ahead_66 : decode cX4_ahead 66 = .ok (.iload_n 2, 1) := by decide +kernel
theorem dX4_ahead_67 : decode cX4_ahead 67 = .ok (.ifCond .ne 13, 3) := by decide +kernel
theorem dX4_ahead_70 : decode cX4_ahead 70 = .ok (.aload_n 0, 1) := by decide +kernel
theorem dX4_ahead_71 : decode cX4_ahead 71 = .ok (.getfield 7, 3) := by decide +kernel
theorem dX4_ahead_74 : decode cX4_ahead 74 = .ok (.bipush 89, 2) := by decide +kernel
theorem dX4_ahead_76 : decode cX4_ahead 76 = .ok (.iaload, 1) := by decide +kernel
theorem dX4_ahead_77 : decode cX4_ahead 77 = .ok (.goto 44, 3) := by decide +kernel
theorem dX4_ahead_80 : decode cX4_ahead 80 = .ok (.iload_n 2, 1) := by decide +kernel
theorem dX4_ahead_81 : decode cX4_ahead 81 = .ok (.iconst 1, 1) := by decide +kernel
theorem dX4_ahead_82 : decode cX4_ahead 82 = .ok (.if_icmp .ne 13, 3) := by decide +kernel
theorem dX4_ahead_85 : decode cX4_ahead 85 = .ok (.aload_n 0, 1) := by decide +kernel
theorem dX4_ahead_86 : decode cX4_ahead 86 = .ok (.getfield 7, 3) := by decide +kernel
theorem dX4_ahead_89 : decode cX4_ahead 89 = .ok (.bipush 88, 2) := by decide +kernel
theorem dX4_ahead_91 : decode cX4_ahead 91 = .ok (.iaload, 1) := by decide +kernel
theorem dX4_ahead_92 : decode cX4_ahead 92 = .ok (.goto 29, 3) := by decide +kernel
theorem dX4_ahead_95 : decode cX4_ahead 95 = .ok (.iload_n 2, 1) := by decide +kernel
theorem dX4_ahead_96 : decode cX4_ahead 96 = .ok (.iconst 2, 1) := by decide +kernel
theorem dX4_ahead_97 : decode cX4_ahead 97 = .ok (.if_icmp .ne 12, 3) := by decide +kernel
theorem dX4_ahead_100 : decode cX4_ahead 100 = .ok (.aload_n 0, 1) := by decide +kernel
theorem dX4_ahead_101 : decode cX4_ahead 101 = .ok (.bipush 80, 2) := by decide +kernel
theorem dX4_ahead_103 : decode cX4_ahead 103 = .ok (.invokevirtual 218, 3) := by decide +kernel
theorem dX4_ahead_106 : decode cX4_ahead 106 = .ok (.goto 15, 3) := by decide +kernel
theorem dX4_ahead_109 : decode cX4_ahead 109 = .ok (.aload_n 0, 1) := by decide +kernel
theorem dX4_ahead_110 : decode cX4_ahead 110 = .ok (.getfield 7, 3) := by decide +kernel
theorem dX4_ahead_113 : decode cX4_ahead 113 = .ok (.bipush 84, 2) := by decide +kernel
theorem dX4_ahead_115 : decode cX4_ahead 115 = .ok (.iload_n 2, 1) := by decide +kernel
theorem dX4_ahead_116 : decode cX4_ahead 116 = .ok (.iadd, 1) := by decide +kernel
theorem dX4_ahead_117 : decode cX4_ahead 117 = .ok (.bipush 10, 2) := by decide +kernel
theorem dX4_ahead_119 : decode cX4_ahead 119 = .ok (.isub, 1) := by decide +kernel
theorem dX4_ahead_120 : decode cX4_ahead 120 = .ok (.iaload, 1) := by decide +kernel
theorem dX4_ahead_121 : decode cX4_ahead 121 = .ok (.ireturn, 1) := by decide +kernel
theorem dX4_down_0 : decode cX4_down 0 = .ok (.aload_n 0, 1) := by decide +kernel
theorem dX4_down_1 : decode cX4_down 1 = .ok (.iload_n 1, 1) := by decide +kernel
theorem dX4_down_2 : decode cX4_down 2 = .ok (.invokevirtual 177, 3) := by decide +kernel
theorem dX4_down_5 : decode cX4_down 5 = .ok (.ifCond .ne 5, 3) := by decide +kernel
theorem dX4_down_8 : decode cX4_down 8 = .ok (.iconst (-1), 1) := by decide +kernel
theorem dX4_down_9 : decode cX4_down 9 = .ok (.ireturn, 1) := by decide +kernel
theorem dX4_down_10 : decode cX4_down 10 = .ok (.aload_n 0, 1) := by decide +kernel
theorem dX4_down_11 : decode cX4_down 11 = .ok (.iconst 0, 1) := by decide +kernel
theorem dX4_down_12 : decode cX4_down 12 = .ok (.bipush 80, 2) := by decide +kernel
theorem dX4_down_14 : decode cX4_down 14 = .ok (.invokevirtual 250, 3) := by decide +kernel
theorem dX4_down_17 : decode cX4_down 17 = .ok (.iconst 0, 1) := by decide +kernel
theorem dX4_down_18 : decode cX4_down 18 = .ok (.istore_n 2, 1) := by decide +kernel
theorem dX4_down_19 : decode cX4_down 19 = .ok (.iload_n 2, 1) := by decide +kernel
theorem dX4_down_20 : decode cX4_down 20 = .ok (.bipush 96, 2) := by decide +kernel
theorem dX4_down_22 : decode cX4_down 22 = .ok (.if_icmp .gt 35, 3) := by decide +kernel
theorem dX4_down_25 : decode cX4_down 25 = .ok (.aload_n 0, 1) := by decide +kernel
theorem dX4_down_26 : decode cX4_down 26 = .ok (.bipush 80, 2) := by decide +kernel
theorem dX4_down_28 : decode cX4_down 28 = .ok (.iload_n 1, 1) := by decide +kernel
theorem dX4_down_29 : decode cX4_down 29 = .ok (.invokevirtual 167, 3) := by decide +kernel
theorem dX4_down_32 : decode cX4_down 32 = .ok (.ifCond .eq 5, 3) := by decide +kernel
theorem dX4_down_35 : decode cX4_down 35 = .ok (.iload_n 2, 1) := by decide +kernel
theorem dX4_down_36 : decode cX4_down 36 = .ok (.ireturn, 1) := by decide +kernel
theorem dX4_down_37 : decode cX4_down 37 = .ok (.aload_n 0, 1) := by decide +kernel
theorem dX4_down_38 : decode cX4_down 38 = .ok (.bipush 80, 2) := by decide +kernel
theorem dX4_down_40 : decode cX4_down 40 = .ok (.iconst 1, 1) := by decide +kernel
theorem dX4_down_41 : decode cX4_down 41 = .ok (.aload_n 0, 1) := by decide +kernel
theorem dX4_down_42 : decode cX4_down 42 = .ok (.getfield 7, 3) := by decide +kernel
theorem dX4_down_45 : decode cX4_down 45 = .ok (.bipush 11, 2) := by decide +kernel
theorem dX4_down_47 : decode cX4_down 47 = .ok (.iaload, 1) := by decide +kernel
theorem dX4_down_48 : decode cX4_down 48 = .ok (.invokevirtual 244, 3) := by decide +kernel
theorem dX4_down_51 : decode cX4_down 51 = .ok (.iinc 2 1, 3) := by decide +kernel
theorem dX4_down_54 : decode cX4_down 54 = .ok (.goto (-35), 3) := by decide +kernel
theorem dX4_down_57 : decode cX4_down 57 = .ok (.bipush (-4), 2) := by decide +kernel
theorem dX4_down_59 : decode cX4_down 59 = .ok (.ireturn, 1) := by decide +kernel
theorem dX4_arriveFrom_0 : decode cX4_arriveFrom 0 = .ok (.aload_n 0, 1) := by decide +kernel
theorem dX4_arriveFrom_1 : decode cX4_arriveFrom 1 = .ok (.iload_n 1, 1) := by decide +kernel
theorem dX4_arriveFrom_2 : decode cX4_arriveFrom 2 = .ok (.bipush 80, 2) := by decide +kernel
theorem dX4_arriveFrom_4 : decode cX4_arriveFrom 4 = .ok (.invokevirtual 250, 3) := by decide +kernel
theorem dX4_arriveFrom_7 : decode cX4_arriveFrom 7 = .ok (.aload_n 0, 1) := by decide +kernel
theorem dX4_arriveFrom_8 : decode cX4_arriveFrom 8 = .ok (.iconst 0, 1) := by decide +kernel
theorem dX4_arriveFrom_9 : decode cX4_arriveFrom 9 = .ok (.putfield 253, 3) := by decide +kernel
theorem dX4_arriveFrom_12 : decode cX4_arriveFrom 12 = .ok (.aload_n 0, 1) := by decide +kernel
theorem dX4_arriveFrom_13 : decode cX4_arriveFrom 13 = .ok (.getfield 7, 3) := by decide +kernel
theorem dX4_arriveFrom_16 : decode cX4_arriveFrom 16 = .ok (.bipush 89, 2) := by decide +kernel
theorem dX4_arriveFrom_18 : decode cX4_arriveFrom 18 = .ok (.iaload, 1) := by decide +kernel
theorem dX4_arriveFrom_19 : decode cX4_arriveFrom 19 = .ok (.aload_n 0, 1) := by decide +kernel
theorem dX4_arriveFrom_20 : decode cX4_arriveFrom 20 = .ok (.getfield 19, 3) := by decide +kernel
theorem dX4_arriveFrom_23 : decode cX4_arriveFrom 23 = .ok (.if_icmp .ge 33, 3) := by decide +kernel
theorem dX4_arriveFrom_26 : decode cX4_arriveFrom 26 = .ok (.aload_n 0, 1) := by decide +kernel
theorem dX4_arriveFrom_27 : decode cX4_arriveFrom 27 = .ok (.getfield 253, 3) := by decide +kernel
theorem dX4_arriveFrom_30 : decode cX4_arriveFrom 30 = .ok (.bipush 96, 2) := by decide +kernel
theorem dX4_arriveFrom_32 : decode cX4_arriveFrom 32 = .ok (.if_icmp .ge 24, 3) := by decide +kernel
theorem dX4_arriveFrom_35 : decode cX4_arriveFrom 35 = .ok (.aload_n 0, 1) := by decide +kernel
theorem dX4_arriveFrom_36 : decode cX4_arriveFrom 36 = .ok (.bipush 80, 2) := by decide +kernel
theorem dX4_arriveFrom_38 : decode cX4_arriveFrom 38 = .ok (.iconst 1, 1) := by decide +kernel
theorem dX4_arriveFrom_39 : decode cX4_arriveFrom 39 = .ok (.iload_n 2, 1) := by decide +kernel
theorem dX4_arriveFrom_40 : decode cX4_arriveFrom 40 = .ok (.invokevirtual 244, 3) := by decide +kernel
theorem dX4_arriveFrom_43 : decode cX4_arriveFrom 43 = .ok (.aload_n 0, 1) := by decide +kernel
theorem dX4_arriveFrom_44 : decode cX4_arriveFrom 44 = .ok (.dup, 1) := by decide +kernel
theorem dX4_arriveFrom_45 : decode cX4_arriveFrom 45 = .ok (.getfield 253, 3) := by decide +kernel
theorem dX4_arriveFrom_48 : decode cX4_arriveFrom 48 = .ok (.iconst 1, 1) := by decide +kernel
theorem dX4_arriveFrom_49 : decode cX4_arriveFrom 49 = .ok (.iadd, 1) := by decide +kernel
theorem dX4_arriveFrom_50 : decode cX4_arriveFrom 50 = .ok (.putfield 253, 3) := by decide +kernel
theorem dX4_arriveFrom_53 : decode cX4_arriveFrom 53 = .ok (.goto (-41), 3) := by decide +kernel
theorem dX4_arriveFrom_56 : decode cX4_arriveFrom 56 = .ok (.aload_n 0, 1) := by decide +kernel
theorem dX4_arriveFrom_57 : decode cX4_arriveFrom 57 = .ok (.getfield 7, 3) := by decide +kernel
theorem dX4_arriveFrom_60 : decode cX4_arriveFrom 60 = .ok (.bipush 89, 2) := by decide +kernel
theorem dX4_arriveFrom_62 : decode cX4_arriveFrom 62 = .ok (.iaload, 1) := by decide +kernel
theorem dX4_arriveFrom_63 : decode cX4_arriveFrom 63 = .ok (.aload_n 0, 1) := by decide +kernel
theorem dX4_arriveFrom_64 : decode cX4_arriveFrom 64 = .ok (.getfield 19, 3) := by decide +kernel
theorem dX4_arriveFrom_67 : decode cX4_arriveFrom 67 = .ok (.if_icmp .lt 12, 3) := by decide +kernel
theorem dX4_arriveFrom_70 : decode cX4_arriveFrom 70 = .ok (.aload_n 0, 1) := by decide +kernel
theorem dX4_arriveFrom_71 : decode cX4_arriveFrom 71 = .ok (.bipush 80, 2) := by decide +kernel
theorem dX4_arriveFrom_73 : decode cX4_arriveFrom 73 = .ok (.invokevirtual 218, 3) := by decide +kernel
theorem dX4_arriveFrom_76 : decode cX4_arriveFrom 76 = .ok (.goto 4, 3) := by decide +kernel
theorem dX4_arriveFrom_79 : decode cX4_arriveFrom 79 = .ok (.iconst 0, 1) := by decide +kernel
theorem dX4_arriveFrom_80 : decode cX4_arriveFrom 80 = .ok (.ireturn, 1) := by decide +kernel
theorem dX4_arrive_0 : decode cX4_arrive 0 = .ok (.iload_n 1, 1) := by decide +kernel
theorem dX4_arrive_1 : decode cX4_arrive 1 = .ok (.invokestatic 211, 3) := by decide +kernel
theorem dX4_arrive_4 : decode cX4_arrive 4 = .ok (.ifCond .eq 13, 3) := by decide +kernel
theorem dX4_arrive_7 : decode cX4_arrive 7 = .ok (.iload_n 2, 1) := by decide +kernel
theorem dX4_arrive_8 : decode cX4_arrive 8 = .ok (.i2l, 1) := by decide +kernel
theorem dX4_arrive_9 : decode cX4_arrive 9 = .ok (.lconst 0, 1) := by decide +kernel
theorem dX4_arrive_10 : decode cX4_arrive 10 = .ok (.lconst 1, 1) := by decide +kernel
theorem dX4_arrive_11 : decode cX4_arrive 11 = .ok (.invokestatic 59, 3) := by decide +kernel
theorem dX4_arrive_14 : decode cX4_arrive 14 = .ok (.ifCond .ne 5, 3) := by decide +kernel
theorem dX4_arrive_17 : decode cX4_arrive 17 = .ok (.iconst (-1), 1) := by decide +kernel
theorem dX4_arrive_18 : decode cX4_arrive 18 = .ok (.ireturn, 1) := by decide +kernel
theorem dX4_arrive_19 : decode cX4_arrive 19 = .ok (.aload_n 0, 1) := by decide +kernel
theorem dX4_arrive_20 : decode cX4_arrive 20 = .ok (.iconst 0, 1) := by decide +kernel
theorem dX4_arrive_21 : decode cX4_arrive 21 = .ok (.iload_n 1, 1) := by decide +kernel
theorem dX4_arrive_22 : decode cX4_arrive 22 = .ok (.invokevirtual 256, 3) := by decide +kernel
theorem dX4_arrive_25 : decode cX4_arrive 25 = .ok (.istore_n 3, 1) := by decide +kernel
theorem dX4_arrive_26 : decode cX4_arrive 26 = .ok (.iload_n 2, 1) := by decide +kernel
theorem dX4_arrive_27 : decode cX4_arrive 27 = .ok (.ifCond .ne 7, 3) := by decide +kernel
theorem dX4_arrive_30 : decode cX4_arrive 30 = .ok (.iload_n 3, 1) := by decide +kernel
theorem dX4_arrive_31 : decode cX4_arrive 31 = .ok (.goto 16, 3) := by decide +kernel
theorem dX4_arrive_34 : decode cX4_arrive 34 = .ok (.iload_n 3, 1) := by decide +kernel
theorem dX4_arrive_35 : decode cX4_arrive 35 = .ok (.ifCond .ne 8, 3) := by decide +kernel
theorem dX4_arrive_38 : decode cX4_arrive 38 = .ok (.bipush (-4), 2) := by decide +kernel
theorem dX4_arrive_40 : decode cX4_arrive 40 = .ok (.goto 7, 3) := by decide +kernel
theorem dX4_arrive_43 : decode cX4_arrive 43 = .ok (.aload_n 0, 1) := by decide +kernel
theorem dX4_arrive_44 : decode cX4_arrive 44 = .ok (.getfield 253, 3) := by decide +kernel
theorem dX4_arrive_47 : decode cX4_arrive 47 = .ok (.ireturn, 1) := by decide +kernel
theorem dX4_best_0 : decode cX4_best 0 = .ok (.iload_n 1, 1) := by decide +kernel
theorem dX4_best_1 : decode cX4_best 1 = .ok (.i2l, 1) := by decide +kernel
theorem dX4_best_2 : decode cX4_best 2 = .ok (.lconst 0, 1) := by decide +kernel
theorem dX4_best_3 : decode cX4_best 3 = .ok (.lconst 1, 1) := by decide +kernel
theorem dX4_best_4 : decode cX4_best 4 = .ok (.invokestatic 59, 3) := by decide +kernel
theorem dX4_best_7 : decode cX4_best 7 = .ok (.ifCond .ne 5, 3) := by decide +kernel
theorem dX4_best_10 : decode cX4_best 10 = .ok (.iconst (-1), 1) := by decide +kernel
theorem dX4_best_11 : decode cX4_best 11 = .ok (.ireturn, 1) := by decide +kernel
theorem dX4_best_12 : decode cX4_best 12 = .ok (.iconst (-1), 1) := by decide +kernel
theorem dX4_best_13 : decode cX4_best 13 = .ok (.istore_n 2, 1) := by decide +kernel
theorem dX4_best_14 : decode cX4_best 14 = .ok (.iconst 0, 1) := by decide +kernel
theorem dX4_best_15 : decode cX4_best 15 = .ok (.istore_n 3, 1) := by decide +kernel
theorem dX4_best_16 : decode cX4_best 16 = .ok (.iconst 0, 1) := by decide +kernel
theorem dX4_best_17 : decode cX4_best 17 = .ok (.istore 4, 2) := by decide +kernel
theorem dX4_best_19 : decode cX4_best 19 = .ok (.iconst 0, 1) := by decide +kernel
theorem dX4_best_20 : decode cX4_best 20 = .ok (.istore 5, 2) := by decide +kernel
theorem dX4_best_22 : decode cX4_best 22 = .ok (.iload 5, 2) := by decide +kernel
theorem dX4_best_24 : decode cX4_best 24 = .ok (.iconst 3, 1) := by decide +kernel
theorem dX4_best_25 : decode cX4_best 25 = .ok (.if_icmp .ge 90, 3) := by decide +kernel
theorem dX4_best_28 : decode cX4_best 28 = .ok (.aload_n 0, 1) := by decide +kernel
theorem dX4_best_29 : decode cX4_best 29 = .ok (.iconst 0, 1) := by decide +kernel
theorem dX4_best_30 : decode cX4_best 30 = .ok (.iload 5, 2) := by decide +kernel
theorem dX4_best_32 : decode cX4_best 32 = .ok (.invokevirtual 256, 3) := by decide +kernel
theorem dX4_best_35 : decode cX4_best 35 = .ok (.istore 6, 2) := by decide +kernel
theorem dX4_best_37 : decode cX4_best 37 = .ok (.iload 6, 2) := by decide +kernel
theorem dX4_best_39 : decode cX4_best 39 = .ok (.iload_n 2, 1) := by decide +kernel
theorem dX4_best_40 : decode cX4_best 40 = .ok (.if_icmp .gt 22, 3) := by decide +kernel
theorem dX4_best_43 : decode cX4_best 43 = .ok (.iload 6, 2) := by decide +kernel
theorem dX4_best_45 : decode cX4_best 45 = .ok (.iload_n 2, 1) := by decide +kernel
theorem dX4_best_46 : decode cX4_best 46 = .ok (.if_icmp .ne 20, 3) := by decide +kernel
theorem dX4_best_49 : decode cX4_best 49 = .ok (.iload 6, 2) := by decide +kernel
theorem dX4_best_51 : decode cX4_best 51 = .ok (.ifCond .le 15, 3) := by decide +kernel
theorem dX4_best_54 : decode cX4_best 54 = .ok (.aload_n 0, 1) := by decide +kernel
theorem dX4_best_55 : decode cX4_best 55 = .ok (.getfield 253, 3) := by decide +kernel
theorem dX4_best_58 : decode cX4_best 58 = .ok (.iload_n 3, 1) := by decide +kernel
theorem dX4_best_59 : decode cX4_best 59 = .ok (.if_icmp .ge 7, 3) := by decide +kernel
theorem dX4_best_62 : decode cX4_best 62 = .ok (.iconst 1, 1) := by decide +kernel
theorem dX4_best_63 : decode cX4_best 63 = .ok (.goto 4, 3) := by decide +kernel
theorem dX4_best_66 : decode cX4_best 66 = .ok (.iconst 0, 1) := by decide +kernel
theorem dX4_best_67 : decode cX4_best 67 = .ok (.istore 7, 2) := by decide +kernel
theorem dX4_best_69 : decode cX4_best 69 = .ok (.iload 7, 2) := by decide +kernel
theorem dX4_best_71 : decode cX4_best 71 = .ok (.ifCond .eq 8, 3) := by decide +kernel
theorem dX4_best_74 : decode cX4_best 74 = .ok (.iload 5, 2) := by decide +kernel
theorem dX4_best_76 : decode cX4_best 76 = .ok (.goto 5, 3) := by decide +kernel
theorem dX4_best_79 : decode cX4_best 79 = .ok (.iload 4, 2) := by decide +kernel
theorem dX4_best_81 : decode cX4_best 81 = .ok (.istore 4, 2) := by decide +kernel
theorem dX4_best_83 : decode cX4_best 83 = .ok (.iload 7, 2) := by decide +kernel
theorem dX4_best_85 : decode cX4_best 85 = .ok (.ifCond .eq 8, 3) := by decide +kernel
theorem dX4_best_88 : decode cX4_best 88 = .ok (.iload 6, 2) := by decide +kernel
theorem dX4_best_90 : decode cX4_best 90 = .ok (.goto 4, 3) := by decide +kernel
theorem dX4_best_93 : decode cX4_best 93 = .ok (.iload_n 2, 1) := by decide +kernel
theorem dX4_best_94 : decode cX4_best 94 = .ok (.istore_n 2, 1) := by decide +kernel
theorem dX4_best_95 : decode cX4_best 95 = .ok (.iload 7, 2) := by decide +kernel
theorem dX4_best_97 : decode cX4_best 97 = .ok (.ifCond .eq 10, 3) := by decide +kernel
theorem dX4_best_100 : decode cX4_best 100 = .ok (.aload_n 0, 1) := by decide +kernel
theorem dX4_best_101 : decode cX4_best 101 = .ok (.getfield 253, 3) := by decide +kernel
theorem dX4_best_104 : decode cX4_best 104 = .ok (.goto 4, 3) := by decide +kernel
theorem dX4_best_107 : decode cX4_best 107 = .ok (.iload_n 3, 1) := by decide +kernel
theorem dX4_best_108 : decode cX4_best 108 = .ok (.istore_n 3, 1) := by decide +kernel
theorem dX4_best_109 : decode cX4_best 109 = .ok (.iinc 5 1, 3) := by decide +kernel
theorem dX4_best_112 : decode cX4_best 112 = .ok (.goto (-90), 3) := by decide +kernel
theorem dX4_best_115 : decode cX4_best 115 = .ok (.iload_n 1, 1) := by decide +kernel
theorem dX4_best_116 : decode cX4_best 116 = .ok (.ifCond .ne 8, 3) := by decide +kernel
theorem dX4_best_119 : decode cX4_best 119 = .ok (.iload 4, 2) := by decide +kernel
theorem dX4_best_121 : decode cX4_best 121 = .ok (.goto 4, 3) := by decide +kernel
theorem dX4_best_124 : decode cX4_best 124 = .ok (.iload_n 2, 1) := by decide +kernel
theorem dX4_best_125 : decode cX4_best 125 = .ok (.ireturn, 1) := by decide +kernel
theorem dX4_late_0 : decode cX4_late 0 = .ok (.iload_n 1, 1) := by decide +kernel
theorem dX4_late_1 : decode cX4_late 1 = .ok (.i2l, 1) := by decide +kernel
theorem dX4_late_2 : decode cX4_late 2 = .ok (.lconst 1, 1) := by decide +kernel
theorem dX4_late_3 : decode cX4_late 3 = .ok (.ldc2_w 198, 3) := by decide +kernel
theorem dX4_late_6 : decode cX4_late 6 = .ok (.invokestatic 59, 3) := by decide +kernel
theorem dX4_late_9 : decode cX4_late 9 = .ok (.ifCond .ne 5, 3) := by decide +kernel
theorem dX4_late_12 : decode cX4_late 12 = .ok (.iconst (-1), 1) := by decide +kernel
theorem dX4_late_13 : decode cX4_late 13 = .ok (.ireturn, 1) := by decide +kernel
theorem dX4_late_14 : decode cX4_late 14 = .ok (.bipush (-4), 2) := by decide +kernel
theorem dX4_late_16 : decode cX4_late 16 = .ok (.istore_n 2, 1) := by decide +kernel
theorem dX4_late_17 : decode cX4_late 17 = .ok (.aload_n 0, 1) := by decide +kernel
theorem dX4_late_18 : decode cX4_late 18 = .ok (.iconst 0, 1) := by decide +kernel
theorem dX4_late_19 : decode cX4_late 19 = .ok (.bipush 100, 2) := by decide +kernel
theorem dX4_late_21 : decode cX4_late 21 = .ok (.invokevirtual 250, 3) := by decide +kernel
theorem dX4_late_24 : decode cX4_late 24 = .ok (.iconst 0, 1) := by decide +kernel
theorem dX4_late_25 : decode cX4_late 25 = .ok (.istore_n 3, 1) := by decide +kernel
theorem dX4_late_26 : decode cX4_late 26 = .ok (.iload_n 3, 1) := by decide +kernel
theorem dX4_late_27 : decode cX4_late 27 = .ok (.bipush 72, 2) := by decide +kernel
theorem dX4_late_29 : decode cX4_late 29 = .ok (.if_icmp .gt 34, 3) := by decide +kernel
theorem dX4_late_32 : decode cX4_late 32 = .ok (.aload_n 0, 1) := by decide +kernel
theorem dX4_late_33 : decode cX4_late 33 = .ok (.bipush 100, 2) := by decide +kernel
theorem dX4_late_35 : decode cX4_late 35 = .ok (.iconst 2, 1) := by decide +kernel
theorem dX4_late_36 : decode cX4_late 36 = .ok (.invokevirtual 256, 3) := by decide +kernel
theorem dX4_late_39 : decode cX4_late 39 = .ok (.iload_n 1, 1) := by decide +kernel
theorem dX4_late_40 : decode cX4_late 40 = .ok (.if_icmp .lt 7, 3) := by decide +kernel
theorem dX4_late_43 : decode cX4_late 43 = .ok (.iload_n 3, 1) := by decide +kernel
theorem dX4_late_44 : decode cX4_late 44 = .ok (.goto 4, 3) := by decide +kernel
theorem dX4_late_47 : decode cX4_late 47 = .ok (.iload_n 2, 1) := by decide +kernel
theorem dX4_late_48 : decode cX4_late 48 = .ok (.istore_n 2, 1) := by decide +kernel
theorem dX4_late_49 : decode cX4_late 49 = .ok (.aload_n 0, 1) := by decide +kernel
theorem dX4_late_50 : decode cX4_late 50 = .ok (.bipush 100, 2) := by decide +kernel
theorem dX4_late_52 : decode cX4_late 52 = .ok (.iconst 1, 1) := by decide +kernel
theorem dX4_late_53 : decode cX4_late 53 = .ok (.iconst 3, 1) := by decide +kernel
theorem dX4_late_54 : decode cX4_late 54 = .ok (.invokevirtual 244, 3) := by decide +kernel
theorem dX4_late_57 : decode cX4_late 57 = .ok (.iinc 3 1, 3) := by decide +kernel
theorem dX4_late_60 : decode cX4_late 60 = .ok (.goto (-34), 3) := by decide +kernel
theorem dX4_late_63 : decode cX4_late 63 = .ok (.iload_n 2, 1) := by decide +kernel
theorem dX4_late_64 : decode cX4_late 64 = .ok (.ireturn, 1) := by decide +kernel
theorem dX4_least_0 : decode cX4_least 0 = .ok (.aload_n 0, 1) := by decide +kernel
theorem dX4_least_1 : decode cX4_least 1 = .ok (.iconst 0, 1) := by decide +kernel
theorem dX4_least_2 : decode cX4_least 2 = .ok (.bipush 100, 2) := by decide +kernel
theorem dX4_least_4 : decode cX4_least 4 = .ok (.invokevirtual 250, 3) := by decide +kernel
theorem dX4_least_7 : decode cX4_least 7 = .ok (.iconst 0, 1) := by decide +kernel
theorem dX4_least_8 : decode cX4_least 8 = .ok (.istore_n 1, 1) := by decide +kernel
theorem dX4_least_9 : decode cX4_least 9 = .ok (.iload_n 1, 1) := by decide +kernel
theorem dX4_least_10 : decode cX4_least 10 = .ok (.bipush 60, 2) := by decide +kernel
theorem dX4_least_12 : decode cX4_least 12 = .ok (.if_icmp .gt 54, 3) := by decide +kernel
theorem dX4_least_15 : decode cX4_least 15 = .ok (.aload_n 0, 1) := by decide +kernel
theorem dX4_least_16 : decode cX4_least 16 = .ok (.getfield 7, 3) := by decide +kernel
theorem dX4_least_19 : decode cX4_least 19 = .ok (.bipush 108, 2) := by decide +kernel
theorem dX4_least_21 : decode cX4_least 21 = .ok (.iload_n 1, 1) := by decide +kernel
theorem dX4_least_22 : decode cX4_least 22 = .ok (.iastore, 1) := by decide +kernel
theorem dX4_least_23 : decode cX4_least 23 = .ok (.aload_n 0, 1) := by decide +kernel
theorem dX4_least_24 : decode cX4_least 24 = .ok (.bipush 100, 2) := by decide +kernel
theorem dX4_least_26 : decode cX4_least 26 = .ok (.aload_n 0, 1) := by decide +kernel
theorem dX4_least_27 : decode cX4_least 27 = .ok (.getfield 7, 3) := by decide +kernel
theorem dX4_least_30 : decode cX4_least 30 = .ok (.bipush 11, 2) := by decide +kernel
theorem dX4_least_32 : decode cX4_least 32 = .ok (.iaload, 1) := by decide +kernel
theorem dX4_least_33 : decode cX4_least 33 = .ok (.invokevirtual 256, 3) := by decide +kernel
theorem dX4_least_36 : decode cX4_least 36 = .ok (.aload_n 0, 1) := by decide +kernel
theorem dX4_least_37 : decode cX4_least 37 = .ok (.iconst 0, 1) := by decide +kernel
theorem dX4_least_38 : decode cX4_least 38 = .ok (.invokevirtual 218, 3) := by decide +kernel
theorem dX4_least_41 : decode cX4_least 41 = .ok (.if_icmp .ne 19, 3) := by decide +kernel
theorem dX4_least_44 : decode cX4_least 44 = .ok (.aload_n 0, 1) := by decide +kernel
theorem dX4_least_45 : decode cX4_least 45 = .ok (.getfield 7, 3) := by decide +kernel
theorem dX4_least_48 : decode cX4_least 48 = .ok (.bipush 89, 2) := by decide +kernel
theorem dX4_least_50 : decode cX4_least 50 = .ok (.iaload, 1) := by decide +kernel
theorem dX4_least_51 : decode cX4_least 51 = .ok (.aload_n 0, 1) := by decide +kernel
theorem dX4_least_52 : decode cX4_least 52 = .ok (.getfield 19, 3) := by decide +kernel
theorem dX4_least_55 : decode cX4_least 55 = .ok (.if_icmp .lt 5, 3) := by decide +kernel
theorem dX4_least_58 : decode cX4_least 58 = .ok (.iload_n 1, 1) := by decide +kernel
theorem dX4_least_59 : decode cX4_least 59 = .ok (.ireturn, 1) := by decide +kernel
theorem dX4_least_60 : decode cX4_least 60 = .ok (.iinc 1 1, 3) := by decide +kernel
theorem dX4_least_63 : decode cX4_least 63 = .ok (.goto (-54), 3) := by decide +kernel
theorem dX4_least_66 : decode cX4_least 66 = .ok (.bipush (-4), 2) := by decide +kernel
theorem dX4_least_68 : decode cX4_least 68 = .ok (.ireturn, 1) := by decide +kernel
theorem dX4_alike_0 : decode cX4_alike 0 = .ok (.iload_n 1, 1) := by decide +kernel
theorem dX4_alike_1 : decode cX4_alike 1 = .ok (.i2l, 1) := by decide +kernel
theorem dX4_alike_2 : decode cX4_alike 2 = .ok (.lconst 0, 1) := by decide +kernel
theorem dX4_alike_3 : decode cX4_alike 3 = .ok (.ldc2_w 198, 3) := by decide +kernel
theorem dX4_alike_6 : decode cX4_alike 6 = .ok (.invokestatic 59, 3) := by decide +kernel
theorem dX4_alike_9 : decode cX4_alike 9 = .ok (.ifCond .ne 5, 3) := by decide +kernel
theorem dX4_alike_12 : decode cX4_alike 12 = .ok (.iconst (-1), 1) := by decide +kernel
theorem dX4_alike_13 : decode cX4_alike 13 = .ok (.ireturn, 1) := by decide +kernel
theorem dX4_alike_14 : decode cX4_alike 14 = .ok (.aload_n 0, 1) := by decide +kernel
theorem dX4_alike_15 : decode cX4_alike 15 = .ok (.iconst 0, 1) := by decide +kernel
theorem dX4_alike_16 : decode cX4_alike 16 = .ok (.bipush 100, 2) := by decide +kernel
theorem dX4_alike_18 : decode cX4_alike 18 = .ok (.invokevirtual 250, 3) := by decide +kernel
theorem dX4_alike_21 : decode cX4_alike 21 = .ok (.iconst 0, 1) := by decide +kernel
theorem dX4_alike_22 : decode cX4_alike 22 = .ok (.istore_n 2, 1) := by decide +kernel
theorem dX4_alike_23 : decode cX4_alike 23 = .ok (.iload_n 2, 1) := by decide +kernel
theorem dX4_alike_24 : decode cX4_alike 24 = .ok (.iconst 4, 1) := by decide +kernel
theorem dX4_alike_25 : decode cX4_alike 25 = .ok (.if_icmp .ge 19, 3) := by decide +kernel
theorem dX4_alike_28 : decode cX4_alike 28 = .ok (.aload_n 0, 1) := by decide +kernel
theorem dX4_alike_29 : decode cX4_alike 29 = .ok (.getfield 7, 3) := by decide +kernel
theorem dX4_alike_32 : decode cX4_alike 32 = .ok (.bipush 100, 2) := by decide +kernel
theorem dX4_alike_34 : decode cX4_alike 34 = .ok (.iload_n 2, 1) := by decide +kernel
theorem dX4_alike_35 : decode cX4_alike 35 = .ok (.iadd, 1) := by decide +kernel
theorem dX4_alike_36 : decode cX4_alike 36 = .ok (.iload_n 1, 1) := by decide +kernel
theorem dX4_alike_37 : decode cX4_alike 37 = .ok (.iastore, 1) := by decide +kernel
theorem dX4_alike_38 : decode cX4_alike 38 = .ok (.iinc 2 1, 3) := by decide +kernel
theorem dX4_alike_41 : decode cX4_alike 41 = .ok (.goto (-18), 3) := by decide +kernel
theorem dX4_alike_44 : decode cX4_alike 44 = .ok (.aload_n 0, 1) := by decide +kernel
theorem dX4_alike_45 : decode cX4_alike 45 = .ok (.bipush 100, 2) := by decide +kernel
theorem dX4_alike_47 : decode cX4_alike 47 = .ok (.aload_n 0, 1) := by decide +kernel
theorem dX4_alike_48 : decode cX4_alike 48 = .ok (.getfield 7, 3) := by decide +kernel
theorem dX4_alike_51 : decode cX4_alike 51 = .ok (.bipush 11, 2) := by decide +kernel
theorem dX4_alike_53 : decode cX4_alike 53 = .ok (.iaload, 1) := by decide +kernel
theorem dX4_alike_54 : decode cX4_alike 54 = .ok (.invokevirtual 256, 3) := by decide +kernel
theorem dX4_alike_57 : decode cX4_alike 57 = .ok (.ireturn, 1) := by decide +kernel
theorem dX4_alone_0 : decode cX4_alone 0 = .ok (.aload_n 0, 1) := by decide +kernel
theorem dX4_alone_1 : decode cX4_alone 1 = .ok (.iload_n 1, 1) := by decide +kernel
theorem dX4_alone_2 : decode cX4_alone 2 = .ok (.invokevirtual 177, 3) := by decide +kernel
theorem dX4_alone_5 : decode cX4_alone 5 = .ok (.ifCond .eq 15, 3) := by decide +kernel
theorem dX4_alone_8 : decode cX4_alone 8 = .ok (.iload_n 2, 1) := by decide +kernel
theorem dX4_alone_9 : decode cX4_alone 9 = .ok (.i2l, 1) := by decide +kernel
theorem dX4_alone_10 : decode cX4_alone 10 = .ok (.lconst 0, 1) := by decide +kernel
theorem dX4_alone_11 : decode cX4_alone 11 = .ok (.ldc2_w 204, 3) := by decide +kernel
theorem dX4_alone_14 : decode cX4_alone 14 = .ok (.invokestatic 59, 3) := by decide +kernel
theorem dX4_alone_17 : decode cX4_alone 17 = .ok (.ifCond .ne 5, 3) := by decide +kernel
theorem dX4_alone_20 : decode cX4_alone 20 = .ok (.iconst (-1), 1) := by decide +kernel
theorem dX4_alone_21 : decode cX4_alone 21 = .ok (.ireturn, 1) := by decide +kernel
theorem dX4_alone_22 : decode cX4_alone 22 = .ok (.aload_n 0, 1) := by decide +kernel
theorem dX4_alone_23 : decode cX4_alone 23 = .ok (.iconst 0, 1) := by decide +kernel
theorem dX4_alone_24 : decode cX4_alone 24 = .ok (.iload_n 1, 1) := by decide +kernel
theorem dX4_alone_25 : decode cX4_alone 25 = .ok (.invokevirtual 167, 3) := by decide +kernel
theorem dX4_alone_28 : decode cX4_alone 28 = .ok (.ifCond .eq 6, 3) := by decide +kernel
theorem dX4_alone_31 : decode cX4_alone 31 = .ok (.bipush (-2), 2) := by decide +kernel
theorem dX4_alone_33 : decode cX4_alone 33 = .ok (.ireturn, 1) := by decide +kernel
theorem dX4_alone_34 : decode cX4_alone 34 = .ok (.aload_n 0, 1) := by decide +kernel
theorem dX4_alone_35 : decode cX4_alone 35 = .ok (.iconst 0, 1) := by decide +kernel
theorem dX4_alone_36 : decode cX4_alone 36 = .ok (.bipush 100, 2) := by decide +kernel
theorem dX4_alone_38 : decode cX4_alone 38 = .ok (.invokevirtual 250, 3) := by decide +kernel
theorem dX4_alone_41 : decode cX4_alone 41 = .ok (.aload_n 0, 1) := by decide +kernel
theorem dX4_alone_42 : decode cX4_alone 42 = .ok (.getfield 7, 3) := by decide +kernel
theorem dX4_alone_45 : decode cX4_alone 45 = .ok (.bipush 108, 2) := by decide +kernel
theorem dX4_alone_47 : decode cX4_alone 47 = .ok (.iload_n 2, 1) := by decide +kernel
theorem dX4_alone_48 : decode cX4_alone 48 = .ok (.iastore, 1) := by decide +kernel
theorem dX4_alone_49 : decode cX4_alone 49 = .ok (.aload_n 0, 1) := by decide +kernel
theorem dX4_alone_50 : decode cX4_alone 50 = .ok (.iload_n 1, 1) := by decide +kernel
theorem dX4_alone_51 : decode cX4_alone 51 = .ok (.putfield 156, 3) := by decide +kernel
theorem dX4_alone_54 : decode cX4_alone 54 = .ok (.aload_n 0, 1) := by decide +kernel
theorem dX4_alone_55 : decode cX4_alone 55 = .ok (.iconst 1, 1) := by decide +kernel
theorem dX4_alone_56 : decode cX4_alone 56 = .ok (.putfield 159, 3) := by decide +kernel
theorem dX4_alone_59 : decode cX4_alone 59 = .ok (.aload_n 0, 1) := by decide +kernel
theorem dX4_alone_60 : decode cX4_alone 60 = .ok (.bipush 100, 2) := by decide +kernel
theorem dX4_alone_62 : decode cX4_alone 62 = .ok (.aload_n 0, 1) := by decide +kernel
theorem dX4_alone_63 : decode cX4_alone 63 = .ok (.getfield 7, 3) := by decide +kernel
theorem dX4_alone_66 : decode cX4_alone 66 = .ok (.bipush 11, 2) := by decide +kernel
theorem dX4_alone_68 : decode cX4_alone 68 = .ok (.iaload, 1) := by decide +kernel
theorem dX4_alone_69 : decode cX4_alone 69 = .ok (.invokevirtual 256, 3) := by decide +kernel
theorem dX4_alone_72 : decode cX4_alone 72 = .ok (.istore_n 3, 1) := by decide +kernel
theorem dX4_alone_73 : decode cX4_alone 73 = .ok (.aload_n 0, 1) := by decide +kernel
theorem dX4_alone_74 : decode cX4_alone 74 = .ok (.iconst 0, 1) := by decide +kernel
theorem dX4_alone_75 : decode cX4_alone 75 = .ok (.putfield 156, 3) := by decide +kernel
theorem dX4_alone_78 : decode cX4_alone 78 = .ok (.aload_n 0, 1) := by decide +kernel
theorem dX4_alone_79 : decode cX4_alone 79 = .ok (.aload_n 0, 1) := by decide +kernel
theorem dX4_alone_80 : decode cX4_alone 80 = .ok (.getfield 150, 3) := by decide +kernel
theorem dX4_alone_83 : decode cX4_alone 83 = .ok (.putfield 159, 3) := by decide +kernel
theorem dX4_alone_86 : decode cX4_alone 86 = .ok (.iload_n 3, 1) := by decide +kernel
theorem dX4_alone_87 : decode cX4_alone 87 = .ok (.ifCond .ne 8, 3) := by decide +kernel
theorem dX4_alone_90 : decode cX4_alone 90 = .ok (.bipush (-4), 2) := by decide +kernel
theorem dX4_alone_92 : decode cX4_alone 92 = .ok (.goto 7, 3) := by decide +kernel
theorem dX4_alone_95 : decode cX4_alone 95 = .ok (.aload_n 0, 1) := by decide +kernel
theorem dX4_alone_96 : decode cX4_alone 96 = .ok (.getfield 253, 3) := by decide +kernel
theorem dX4_alone_99 : decode cX4_alone 99 = .ok (.ireturn, 1) := by decide +kernel
theorem dX4_lowest_0 : decode cX4_lowest 0 = .ok (.lload_n 0, 1) := by decide +kernel
theorem dX4_lowest_1 : decode cX4_lowest 1 = .ok (.lstore 5, 2) := by decide +kernel
theorem dX4_lowest_3 : decode cX4_lowest 3 = .ok (.lload_n 2, 1) := by decide +kernel
theorem dX4_lowest_4 : decode cX4_lowest 4 = .ok (.lstore 7, 2) := by decide +kernel
theorem dX4_lowest_6 : decode cX4_lowest 6 = .ok (.lload 7, 2) := by decide +kernel
theorem dX4_lowest_8 : decode cX4_lowest 8 = .ok (.lconst 0, 1) := by decide +kernel
theorem dX4_lowest_9 : decode cX4_lowest 9 = .ok (.lcmp, 1) := by decide +kernel
theorem dX4_lowest_10 : decode cX4_lowest 10 = .ok (.ifCond .eq 21, 3) := by decide +kernel
theorem dX4_lowest_13 : decode cX4_lowest 13 = .ok (.lload 5, 2) := by decide +kernel
theorem dX4_lowest_15 : decode cX4_lowest 15 = .ok (.lload 7, 2) := by decide +kernel
theorem dX4_lowest_17 : decode cX4_lowest 17 = .ok (.lrem, 1) := by decide +kernel
theorem dX4_lowest_18 : decode cX4_lowest 18 = .ok (.lstore 9, 2) := by decide +kernel
theorem dX4_lowest_20 : decode cX4_lowest 20 = .ok (.lload 7, 2) := by decide +kernel
theorem dX4_lowest_22 : decode cX4_lowest 22 = .ok (.lstore 5, 2) := by decide +kernel
theorem dX4_lowest_24 : decode cX4_lowest 24 = .ok (.lload 9, 2) := by decide +kernel
theorem dX4_lowest_26 : decode cX4_lowest 26 = .ok (.lstore 7, 2) := by decide +kernel
theorem dX4_lowest_28 : decode cX4_lowest 28 = .ok (.goto (-22), 3) := by decide +kernel
theorem dX4_lowest_31 : decode cX4_lowest 31 = .ok (.iload 4, 2) := by decide +kernel
theorem dX4_lowest_33 : decode cX4_lowest 33 = .ok (.ifCond .ne 7, 3) := by decide +kernel
theorem dX4_lowest_36 : decode cX4_lowest 36 = .ok (.lload_n 0, 1) := by decide +kernel
theorem dX4_lowest_37 : decode cX4_lowest 37 = .ok (.goto 4, 3) := by decide +kernel
theorem dX4_lowest_40 : decode cX4_lowest 40 = .ok (.lload_n 2, 1) := by decide +kernel
theorem dX4_lowest_41 : decode cX4_lowest 41 = .ok (.lload 5, 2) := by decide +kernel
theorem dX4_lowest_43 : decode cX4_lowest 43 = .ok (.ldiv, 1) := by decide +kernel
theorem dX4_lowest_44 : decode cX4_lowest 44 = .ok (.lreturn, 1) := by decide +kernel
theorem dX4_sumBy_0 : decode cX4_sumBy 0 = .ok (.lconst 0, 1) := by decide +kernel
theorem dX4_sumBy_1 : decode cX4_sumBy 1 = .ok (.lstore_n 3, 1) := by decide +kernel
theorem dX4_sumBy_2 : decode cX4_sumBy 2 = .ok (.iconst 0, 1) := by decide +kernel
theorem dX4_sumBy_3 : decode cX4_sumBy 3 = .ok (.istore 5, 2) := by decide +kernel
theorem dX4_sumBy_5 : decode cX4_sumBy 5 = .ok (.iload 5, 2) := by decide +kernel
theorem dX4_sumBy_7 : decode cX4_sumBy 7 = .ok (.iconst 1, 1) := by decide +kernel
theorem dX4_sumBy_8 : decode cX4_sumBy 8 = .ok (.aload_n 0, 1) := by decide +kernel
theorem dX4_sumBy_9 : decode cX4_sumBy 9 = .ok (.getfield 153, 3) := by decide +kernel
theorem dX4_sumBy_12 : decode cX4_sumBy 12 = .ok (.ishl, 1) := by decide +kernel
theorem dX4_sumBy_13 : decode cX4_sumBy 13 = .ok (.if_icmp .ge 174, 3) := by decide +kernel
theorem dX4_sumBy_16 : decode cX4_sumBy 16 = .ok (.lconst 1, 1) := by decide +kernel
theorem dX4_sumBy_17 : decode cX4_sumBy 17 = .ok (.lstore 6, 2) := by decide +kernel
theorem dX4_sumBy_19 : decode cX4_sumBy 19 = .ok (.aload_n 0, 1) := by decide +kernel
theorem dX4_sumBy_20 : decode cX4_sumBy 20 = .ok (.iconst 0, 1) := by decide +kernel
theorem dX4_sumBy_21 : decode cX4_sumBy 21 = .ok (.bipush 100, 2) := by decide +kernel
theorem dX4_sumBy_23 : decode cX4_sumBy 23 = .ok (.invokevirtual 250, 3) := by decide +kernel
theorem dX4_sumBy_26 : decode cX4_sumBy 26 = .ok (.iconst 0, 1) := by decide +kernel
theorem dX4_sumBy_27 : decode cX4_sumBy 27 = .ok (.istore 8, 2) := by decide +kernel
theorem dX4_sumBy_29 : decode cX4_sumBy 29 = .ok (.iload 8, 2) := by decide +kernel
theorem dX4_sumBy_31 : decode cX4_sumBy 31 = .ok (.aload_n 0, 1) := by decide +kernel
theorem dX4_sumBy_32 : decode cX4_sumBy 32 = .ok (.getfield 153, 3) := by decide +kernel
theorem dX4_sumBy_35 : decode cX4_sumBy 35 = .ok (.if_icmp .ge 99, 3) := by decide +kernel
theorem dX4_sumBy_38 : decode cX4_sumBy 38 = .ok (.iload 5, 2) := by decide +kernel
theorem dX4_sumBy_40 : decode cX4_sumBy 40 = .ok (.iload 8, 2) := by decide +kernel
theorem dX4_sumBy_42 : decode cX4_sumBy 42 = .ok (.ishr, 1) := by decide +kernel
theorem dX4_sumBy_43 : decode cX4_sumBy 43 = .ok (.iconst 1, 1) := by decide +kernel
theorem dX4_sumBy_44 : decode cX4_sumBy 44 = .ok (.iand, 1) := by decide +kernel
theorem dX4_sumBy_45 : decode cX4_sumBy 45 = .ok (.iconst 1, 1) := by decide +kernel
theorem dX4_sumBy_46 : decode cX4_sumBy 46 = .ok (.if_icmp .ne 7, 3) := by decide +kernel
theorem dX4_sumBy_49 : decode cX4_sumBy 49 = .ok (.iconst 1, 1) := by decide +kernel
theorem dX4_sumBy_50 : decode cX4_sumBy 50 = .ok (.goto 4, 3) := by decide +kernel
theorem dX4_sumBy_53 : decode cX4_sumBy 53 = .ok (.iconst 0, 1) := by decide +kernel
theorem dX4_sumBy_54 : decode cX4_sumBy 54 = .ok (.istore 9, 2) := by decide +kernel
theorem dX4_sumBy_56 : decode cX4_sumBy 56 = .ok (.aload_n 0, 1) := by decide +kernel
theorem dX4_sumBy_57 : decode cX4_sumBy 57 = .ok (.getfield 7, 3) := by decide +kernel
theorem dX4_sumBy_60 : decode cX4_sumBy 60 = .ok (.bipush 14, 2) := by decide +kernel
theorem dX4_sumBy_62 : decode cX4_sumBy 62 = .ok (.iload 8, 2) := by decide +kernel
theorem dX4_sumBy_64 : decode cX4_sumBy 64 = .ok (.iadd, 1) := by decide +kernel
theorem dX4_sumBy_65 : decode cX4_sumBy 65 = .ok (.iaload, 1) := by decide +kernel
theorem dX4_sumBy_66 : decode cX4_sumBy 66 = .ok (.iconst 1, 1) := by decide +kernel
theorem dX4_sumBy_67 : decode cX4_sumBy 67 = .ok (.if_icmp .ne 7, 3) := by decide +kernel
theorem dX4_sumBy_70 : decode cX4_sumBy 70 = .ok (.iconst 0, 1) := by decide +kernel
theorem dX4_sumBy_71 : decode cX4_sumBy 71 = .ok (.goto 13, 3) := by decide +kernel
theorem dX4_sumBy_74 : decode cX4_sumBy 74 = .ok (.aload_n 0, 1) := by decide +kernel
theorem dX4_sumBy_75 : decode cX4_sumBy 75 = .ok (.getfield 7, 3) := by decide +kernel
theorem dX4_sumBy_78 : decode cX4_sumBy 78 = .ok (.bipush 17, 2) := by decide +kernel
theorem dX4_sumBy_80 : decode cX4_sumBy 80 = .ok (.iload 8, 2) := by decide +kernel
theorem dX4_sumBy_82 : decode cX4_sumBy 82 = .ok (.iadd, 1) := by decide +kernel
theorem dX4_sumBy_83 : decode cX4_sumBy 83 = .ok (.iaload, 1) := by decide +kernel
theorem dX4_sumBy_84 : decode cX4_sumBy 84 = .ok (.istore 10, 2) := by decide +kernel
theorem dX4_sumBy_86 : decode cX4_sumBy 86 = .ok (.lload 6, 2) := by decide +kernel
theorem dX4_sumBy_88 : decode cX4_sumBy 88 = .ok (.iload 9, 2) := by decide +kernel
theorem dX4_sumBy_90 : decode cX4_sumBy 90 = .ok (.ifCond .eq 9, 3) := by decide +kernel
theorem dX4_sumBy_93 : decode cX4_sumBy 93 = .ok (.iload 10, 2) := by decide +kernel
theorem dX4_sumBy_95 : decode cX4_sumBy 95 = .ok (.i2l, 1) := by decide +kernel
theorem dX4_sumBy_96 : decode cX4_sumBy 96 = .ok (.goto 9, 3) := by decide +kernel
theorem dX4_sumBy_99 : decode cX4_sumBy 99 = .ok (.bipush 10, 2) := by decide +kernel
theorem dX4_sumBy_101 : decode cX4_sumBy 101 = .ok (.iload 10, 2) := by decide +kernel
theorem dX4_sumBy_103 : decode cX4_sumBy 103 = .ok (.isub, 1) := by decide +kernel
theorem dX4_sumBy_104 : decode cX4_sumBy 104 = .ok (.i2l, 1) := by decide +kernel
theorem dX4_sumBy_105 : decode cX4_sumBy 105 = .ok (.lmul, 1) := by decide +kernel
theorem dX4_sumBy_106 : decode cX4_sumBy 106 = .ok (.lstore 6, 2) := by decide +kernel
theorem dX4_sumBy_108 : decode cX4_sumBy 108 = .ok (.aload_n 0, 1) := by decide +kernel
theorem dX4_sumBy_109 : decode cX4_sumBy 109 = .ok (.getfield 7, 3) := by decide +kernel
theorem dX4_sumBy_112 : decode cX4_sumBy 112 = .ok (.bipush 114, 2) := by decide +kernel
theorem dX4_sumBy_114 : decode cX4_sumBy 114 = .ok (.iload 8, 2) := by decide +kernel
theorem dX4_sumBy_116 : decode cX4_sumBy 116 = .ok (.iadd, 1) := by decide +kernel
theorem dX4_sumBy_117 : decode cX4_sumBy 117 = .ok (.iload 9, 2) := by decide +kernel
theorem dX4_sumBy_119 : decode cX4_sumBy 119 = .ok (.ifCond .eq 7, 3) := by decide +kernel
theorem dX4_sumBy_122 : decode cX4_sumBy 122 = .ok (.iconst 0, 1) := by decide +kernel
theorem dX4_sumBy_123 : decode cX4_sumBy 123 = .ok (.goto 4, 3) := by decide +kernel
theorem dX4_sumBy_126 : decode cX4_sumBy 126 = .ok (.iconst 1, 1) := by decide +kernel
theorem dX4_sumBy_127 : decode cX4_sumBy 127 = .ok (.iastore, 1) := by decide +kernel
theorem dX4_sumBy_128 : decode cX4_sumBy 128 = .ok (.iinc 8 1, 3) := by decide +kernel
theorem dX4_sumBy_131 : decode cX4_sumBy 131 = .ok (.goto (-102), 3) := by decide +kernel
theorem dX4_sumBy_134 : decode cX4_sumBy 134 = .ok (.lload 6, 2) := by decide +kernel
theorem dX4_sumBy_136 : decode cX4_sumBy 136 = .ok (.lconst 0, 1) := by decide +kernel
theorem dX4_sumBy_137 : decode cX4_sumBy 137 = .ok (.lcmp, 1) := by decide +kernel
theorem dX4_sumBy_138 : decode cX4_sumBy 138 = .ok (.ifCond .ne 7, 3) := by decide +kernel
theorem dX4_sumBy_141 : decode cX4_sumBy 141 = .ok (.iconst 0, 1) := by decide +kernel
theorem dX4_sumBy_142 : decode cX4_sumBy 142 = .ok (.goto 10, 3) := by decide +kernel
theorem dX4_sumBy_145 : decode cX4_sumBy 145 = .ok (.aload_n 0, 1) := by decide +kernel
theorem dX4_sumBy_146 : decode cX4_sumBy 146 = .ok (.bipush 100, 2) := by decide +kernel
theorem dX4_sumBy_148 : decode cX4_sumBy 148 = .ok (.iload_n 1, 1) := by decide +kernel
theorem dX4_sumBy_149 : decode cX4_sumBy 149 = .ok (.invokevirtual 256, 3) := by decide +kernel
theorem dX4_sumBy_152 : decode cX4_sumBy 152 = .ok (.istore 8, 2) := by decide +kernel
theorem dX4_sumBy_154 : decode cX4_sumBy 154 = .ok (.lload_n 3, 1) := by decide +kernel
theorem dX4_sumBy_155 : decode cX4_sumBy 155 = .ok (.lload 6, 2) := by decide +kernel
theorem dX4_sumBy_157 : decode cX4_sumBy 157 = .ok (.iload_n 2, 1) := by decide +kernel
theorem dX4_sumBy_158 : decode cX4_sumBy 158 = .ok (.ifCond .ne 8, 3) := by decide +kernel
theorem dX4_sumBy_161 : decode cX4_sumBy 161 = .ok (.iload 8, 2) := by decide +kernel
theorem dX4_sumBy_163 : decode cX4_sumBy 163 = .ok (.goto 14, 3) := by decide +kernel
theorem dX4_sumBy_166 : decode cX4_sumBy 166 = .ok (.iload 8, 2) := by decide +kernel
theorem dX4_sumBy_168 : decode cX4_sumBy 168 = .ok (.iload_n 2, 1) := by decide +kernel
theorem dX4_sumBy_169 : decode cX4_sumBy 169 = .ok (.if_icmp .lt 7, 3) := by decide +kernel
theorem dX4_sumBy_172 : decode cX4_sumBy 172 = .ok (.iconst 1, 1) := by decide +kernel
theorem dX4_sumBy_173 : decode cX4_sumBy 173 = .ok (.goto 4, 3) := by decide +kernel
theorem dX4_sumBy_176 : decode cX4_sumBy 176 = .ok (.iconst 0, 1) := by decide +kernel
theorem dX4_sumBy_177 : decode cX4_sumBy 177 = .ok (.i2l, 1) := by decide +kernel
theorem dX4_sumBy_178 : decode cX4_sumBy 178 = .ok (.lmul, 1) := by decide +kernel
theorem dX4_sumBy_179 : decode cX4_sumBy 179 = .ok (.ladd, 1) := by decide +kernel
theorem dX4_sumBy_180 : decode cX4_sumBy 180 = .ok (.lstore_n 3, 1) := by decide +kernel
theorem dX4_sumBy_181 : decode cX4_sumBy 181 = .ok (.iinc 5 1, 3) := by decide +kernel
theorem dX4_sumBy_184 : decode cX4_sumBy 184 = .ok (.goto (-179), 3) := by decide +kernel
theorem dX4_sumBy_187 : decode cX4_sumBy 187 = .ok (.lload_n 3, 1) := by decide +kernel
theorem dX4_sumBy_188 : decode cX4_sumBy 188 = .ok (.lreturn, 1) := by decide +kernel
theorem dX4_tens_0 : decode cX4_tens 0 = .ok (.lconst 1, 1) := by decide +kernel
theorem dX4_tens_1 : decode cX4_tens 1 = .ok (.lstore_n 2, 1) := by decide +kernel
theorem dX4_tens_2 : decode cX4_tens 2 = .ok (.iconst 0, 1) := by decide +kernel
theorem dX4_tens_3 : decode cX4_tens 3 = .ok (.istore 4, 2) := by decide +kernel
theorem dX4_tens_5 : decode cX4_tens 5 = .ok (.iload 4, 2) := by decide +kernel
theorem dX4_tens_7 : decode cX4_tens 7 = .ok (.iload_n 1, 1) := by decide +kernel
theorem dX4_tens_8 : decode cX4_tens 8 = .ok (.if_icmp .ge 15, 3) := by decide +kernel
theorem dX4_tens_11 : decode cX4_tens 11 = .ok (.lload_n 2, 1) := by decide +kernel
theorem dX4_tens_12 : decode cX4_tens 12 = .ok (.ldc2_w 214, 3) := by decide +kernel
theorem dX4_tens_15 : decode cX4_tens 15 = .ok (.lmul, 1) := by decide +kernel
theorem dX4_tens_16 : decode cX4_tens 16 = .ok (.lstore_n 2, 1) := by decide +kernel
theorem dX4_tens_17 : decode cX4_tens 17 = .ok (.iinc 4 1, 3) := by decide +kernel
theorem dX4_tens_20 : decode cX4_tens 20 = .ok (.goto (-15), 3) := by decide +kernel
theorem dX4_tens_23 : decode cX4_tens 23 = .ok (.lload_n 2, 1) := by decide +kernel
theorem dX4_tens_24 : decode cX4_tens 24 = .ok (.lreturn, 1) := by decide +kernel
theorem dX4_luck_0 : decode cX4_luck 0 = .ok (.iload_n 1, 1) := by decide +kernel
theorem dX4_luck_1 : decode cX4_luck 1 = .ok (.i2l, 1) := by decide +kernel
theorem dX4_luck_2 : decode cX4_luck 2 = .ok (.lconst 1, 1) := by decide +kernel
theorem dX4_luck_3 : decode cX4_luck 3 = .ok (.ldc2_w 198, 3) := by decide +kernel
theorem dX4_luck_6 : decode cX4_luck 6 = .ok (.invokestatic 59, 3) := by decide +kernel
theorem dX4_luck_9 : decode cX4_luck 9 = .ok (.ifCond .eq 20, 3) := by decide +kernel
theorem dX4_luck_12 : decode cX4_luck 12 = .ok (.iload_n 2, 1) := by decide +kernel
theorem dX4_luck_13 : decode cX4_luck 13 = .ok (.invokestatic 211, 3) := by decide +kernel
theorem dX4_luck_16 : decode cX4_luck 16 = .ok (.ifCond .eq 13, 3) := by decide +kernel
theorem dX4_luck_19 : decode cX4_luck 19 = .ok (.iload_n 3, 1) := by decide +kernel
theorem dX4_luck_20 : decode cX4_luck 20 = .ok (.i2l, 1) := by decide +kernel
theorem dX4_luck_21 : decode cX4_luck 21 = .ok (.lconst 0, 1) := by decide +kernel
theorem dX4_luck_22 : decode cX4_luck 22 = .ok (.lconst 1, 1) := by decide +kernel
theorem dX4_luck_23 : decode cX4_luck 23 = .ok (.invokestatic 59, 3) := by decide +kernel
theorem dX4_luck_26 : decode cX4_luck 26 = .ok (.ifCond .ne 7, 3) := by decide +kernel
theorem dX4_luck_29 : decode cX4_luck 29 = .ok (.ldc2_w 259, 3) := by decide +kernel
theorem dX4_luck_32 : decode cX4_luck 32 = .ok (.lreturn, 1) := by decide +kernel
theorem dX4_luck_33 : decode cX4_luck 33 = .ok (.aload_n 0, 1) := by decide +kernel
theorem dX4_luck_34 : decode cX4_luck 34 = .ok (.iload_n 2, 1) := by decide +kernel
theorem dX4_luck_35 : decode cX4_luck 35 = .ok (.iload_n 1, 1) := by decide +kernel
theorem dX4_luck_36 : decode cX4_luck 36 = .ok (.invokevirtual 261, 3) := by decide +kernel
theorem dX4_luck_39 : decode cX4_luck 39 = .ok (.aload_n 0, 1) := by decide +kernel
theorem dX4_luck_40 : decode cX4_luck 40 = .ok (.aload_n 0, 1) := by decide +kernel
theorem dX4_luck_41 : decode cX4_luck 41 = .ok (.getfield 153, 3) := by decide +kernel
theorem dX4_luck_44 : decode cX4_luck 44 = .ok (.invokevirtual 265, 3) := by decide +kernel
theorem dX4_luck_47 : decode cX4_luck 47 = .ok (.iload_n 3, 1) := by decide +kernel
theorem dX4_luck_48 : decode cX4_luck 48 = .ok (.invokestatic 269, 3) := by decide +kernel
theorem dX4_luck_51 : decode cX4_luck 51 = .ok (.lreturn, 1) := by decide +kernel
theorem dX4_mean_0 : decode cX4_mean 0 = .ok (.iload_n 1, 1) := by decide +kernel
theorem dX4_mean_1 : decode cX4_mean 1 = .ok (.invokestatic 211, 3) := by decide +kernel
theorem dX4_mean_4 : decode cX4_mean 4 = .ok (.ifCond .eq 34, 3) := by decide +kernel
theorem dX4_mean_7 : decode cX4_mean 7 = .ok (.iload_n 2, 1) := by decide +kernel
theorem dX4_mean_8 : decode cX4_mean 8 = .ok (.i2l, 1) := by decide +kernel
theorem dX4_mean_9 : decode cX4_mean 9 = .ok (.lconst 0, 1) := by decide +kernel
theorem dX4_mean_10 : decode cX4_mean 10 = .ok (.lconst 1, 1) := by decide +kernel
theorem dX4_mean_11 : decode cX4_mean 11 = .ok (.invokestatic 59, 3) := by decide +kernel
theorem dX4_mean_14 : decode cX4_mean 14 = .ok (.ifCond .eq 24, 3) := by decide +kernel
theorem dX4_mean_17 : decode cX4_mean 17 = .ok (.aload_n 0, 1) := by decide +kernel
theorem dX4_mean_18 : decode cX4_mean 18 = .ok (.iload_n 1, 1) := by decide +kernel
theorem dX4_mean_19 : decode cX4_mean 19 = .ok (.iconst 0, 1) := by decide +kernel
theorem dX4_mean_20 : decode cX4_mean 20 = .ok (.invokevirtual 261, 3) := by decide +kernel
theorem dX4_mean_23 : decode cX4_mean 23 = .ok (.aload_n 0, 1) := by decide +kernel
theorem dX4_mean_24 : decode cX4_mean 24 = .ok (.aload_n 0, 1) := by decide +kernel
theorem dX4_mean_25 : decode cX4_mean 25 = .ok (.getfield 153, 3) := by decide +kernel
theorem dX4_mean_28 : decode cX4_mean 28 = .ok (.invokevirtual 265, 3) := by decide +kernel
theorem dX4_mean_31 : decode cX4_mean 31 = .ok (.iload_n 2, 1) := by decide +kernel
theorem dX4_mean_32 : decode cX4_mean 32 = .ok (.invokestatic 269, 3) := by decide +kernel
theorem dX4_mean_35 : decode cX4_mean 35 = .ok (.goto 6, 3) := by decide +kernel
theorem dX4_mean_38 : decode cX4_mean 38 = .ok (.ldc2_w 259, 3) := by decide +kernel
theorem dX4_mean_41 : decode cX4_mean 41 = .ok (.lreturn, 1) := by decide +kernel
theorem dX4_stay_0 : decode cX4_stay 0 = .ok (.iload_n 1, 1) := by decide +kernel
theorem dX4_stay_1 : decode cX4_stay 1 = .ok (.i2l, 1) := by decide +kernel
theorem dX4_stay_2 : decode cX4_stay 2 = .ok (.lconst 0, 1) := by decide +kernel
theorem dX4_stay_3 : decode cX4_stay 3 = .ok (.ldc2_w 248, 3) := by decide +kernel
theorem dX4_stay_6 : decode cX4_stay 6 = .ok (.invokestatic 59, 3) := by decide +kernel
theorem dX4_stay_9 : decode cX4_stay 9 = .ok (.ifCond .eq 13, 3) := by decide +kernel
theorem dX4_stay_12 : decode cX4_stay 12 = .ok (.iload_n 2, 1) := by decide +kernel
theorem dX4_stay_13 : decode cX4_stay 13 = .ok (.i2l, 1) := by decide +kernel
theorem dX4_stay_14 : decode cX4_stay 14 = .ok (.lconst 0, 1) := by decide +kernel
theorem dX4_stay_15 : decode cX4_stay 15 = .ok (.lconst 1, 1) := by decide +kernel
theorem dX4_stay_16 : decode cX4_stay 16 = .ok (.invokestatic 59, 3) := by decide +kernel
theorem dX4_stay_19 : decode cX4_stay 19 = .ok (.ifCond .ne 7, 3) := by decide +kernel
theorem dX4_stay_22 : decode cX4_stay 22 = .ok (.ldc2_w 259, 3) := by decide +kernel
theorem dX4_stay_25 : decode cX4_stay 25 = .ok (.lreturn, 1) := by decide +kernel
theorem dX4_stay_26 : decode cX4_stay 26 = .ok (.lconst 1, 1) := by decide +kernel
theorem dX4_stay_27 : decode cX4_stay 27 = .ok (.lstore_n 3, 1) := by decide +kernel
theorem dX4_stay_28 : decode cX4_stay 28 = .ok (.lconst 1, 1) := by decide +kernel
theorem dX4_stay_29 : decode cX4_stay 29 = .ok (.lstore 5, 2) := by decide +kernel
theorem dX4_stay_31 : decode cX4_stay 31 = .ok (.aload_n 0, 1) := by decide +kernel
theorem dX4_stay_32 : decode cX4_stay 32 = .ok (.iconst 0, 1) := by decide +kernel
theorem dX4_stay_33 : decode cX4_stay 33 = .ok (.bipush 80, 2) := by decide +kernel
theorem dX4_stay_35 : decode cX4_stay 35 = .ok (.invokevirtual 250, 3) := by decide +kernel
theorem dX4_stay_38 : decode cX4_stay 38 = .ok (.iconst 0, 1) := by decide +kernel
theorem dX4_stay_39 : decode cX4_stay 39 = .ok (.istore 7, 2) := by decide +kernel
theorem dX4_stay_41 : decode cX4_stay 41 = .ok (.iload 7, 2) := by decide +kernel
theorem dX4_stay_43 : decode cX4_stay 43 = .ok (.iload_n 1, 1) := by decide +kernel
theorem dX4_stay_44 : decode cX4_stay 44 = .ok (.if_icmp .ge 62, 3) := by decide +kernel
theorem dX4_stay_47 : decode cX4_stay 47 = .ok (.aload_n 0, 1) := by decide +kernel
theorem dX4_stay_48 : decode cX4_stay 48 = .ok (.bipush 80, 2) := by decide +kernel
theorem dX4_stay_50 : decode cX4_stay 50 = .ok (.invokevirtual 171, 3) := by decide +kernel
theorem dX4_stay_53 : decode cX4_stay 53 = .ok (.bipush 24, 2) := by decide +kernel
theorem dX4_stay_55 : decode cX4_stay 55 = .ok (.irem, 1) := by decide +kernel
theorem dX4_stay_56 : decode cX4_stay 56 = .ok (.bipush 12, 2) := by decide +kernel
theorem dX4_stay_58 : decode cX4_stay 58 = .ok (.if_icmp .ne 34, 3) := by decide +kernel
theorem dX4_stay_61 : decode cX4_stay 61 = .ok (.aload_n 0, 1) := by decide +kernel
theorem dX4_stay_62 : decode cX4_stay 62 = .ok (.bipush 80, 2) := by decide +kernel
theorem dX4_stay_64 : decode cX4_stay 64 = .ok (.invokevirtual 218, 3) := by decide +kernel
theorem dX4_stay_67 : decode cX4_stay 67 = .ok (.ifCond .le 25, 3) := by decide +kernel
theorem dX4_stay_70 : decode cX4_stay 70 = .ok (.lload_n 3, 1) := by decide +kernel
theorem dX4_stay_71 : decode cX4_stay 71 = .ok (.ldc2_w 214, 3) := by decide +kernel
theorem dX4_stay_74 : decode cX4_stay 74 = .ok (.lmul, 1) := by decide +kernel
theorem dX4_stay_75 : decode cX4_stay 75 = .ok (.lstore_n 3, 1) := by decide +kernel
theorem dX4_stay_76 : decode cX4_stay 76 = .ok (.lload 5, 2) := by decide +kernel
theorem dX4_stay_78 : decode cX4_stay 78 = .ok (.bipush 10, 2) := by decide +kernel
theorem dX4_stay_80 : decode cX4_stay 80 = .ok (.aload_n 0, 1) := by decide +kernel
theorem dX4_stay_81 : decode cX4_stay 81 = .ok (.getfield 7, 3) := by decide +kernel
theorem dX4_stay_84 : decode cX4_stay 84 = .ok (.bipush 13, 2) := by decide +kernel
theorem dX4_stay_86 : decode cX4_stay 86 = .ok (.iaload, 1) := by decide +kernel
theorem dX4_stay_87 : decode cX4_stay 87 = .ok (.isub, 1) := by decide +kernel
theorem dX4_stay_88 : decode cX4_stay 88 = .ok (.i2l, 1) := by decide +kernel
theorem dX4_stay_89 : decode cX4_stay 89 = .ok (.lmul, 1) := by decide +kernel
theorem dX4_stay_90 : decode cX4_stay 90 = .ok (.lstore 5, 2) := by decide +kernel
theorem dX4_stay_92 : decode cX4_stay 92 = .ok (.aload_n 0, 1) := by decide +kernel
theorem dX4_stay_93 : decode cX4_stay 93 = .ok (.bipush 80, 2) := by decide +kernel
theorem dX4_stay_95 : decode cX4_stay 95 = .ok (.iconst 1, 1) := by decide +kernel
theorem dX4_stay_96 : decode cX4_stay 96 = .ok (.iconst 3, 1) := by decide +kernel
theorem dX4_stay_97 : decode cX4_stay 97 = .ok (.invokevirtual 244, 3) := by decide +kernel
theorem dX4_stay_100 : decode cX4_stay 100 = .ok (.iinc 7 1, 3) := by decide +kernel
theorem dX4_stay_103 : decode cX4_stay 103 = .ok (.goto (-62), 3) := by decide +kernel
theorem dX4_stay_106 : decode cX4_stay 106 = .ok (.lload_n 3, 1) := by decide +kernel
theorem dX4_stay_107 : decode cX4_stay 107 = .ok (.lload 5, 2) := by decide +kernel
theorem dX4_stay_109 : decode cX4_stay 109 = .ok (.lsub, 1) := by decide +kernel
theorem dX4_stay_110 : decode cX4_stay 110 = .ok (.lload_n 3, 1) := by decide +kernel
theorem dX4_stay_111 : decode cX4_stay 111 = .ok (.iload_n 2, 1) := by decide +kernel
theorem dX4_stay_112 : decode cX4_stay 112 = .ok (.invokestatic 269, 3) := by decide +kernel
theorem dX4_stay_115 : decode cX4_stay 115 = .ok (.lreturn, 1) := by decide +kernel
theorem dX4_see_0 : decode cX4_see 0 = .ok (.iload_n 1, 1) := by decide +kernel
theorem dX4_see_1 : decode cX4_see 1 = .ok (.i2l, 1) := by decide +kernel
theorem dX4_see_2 : decode cX4_see 2 = .ok (.lconst 1, 1) := by decide +kernel
theorem dX4_see_3 : decode cX4_see 3 = .ok (.ldc2_w 273, 3) := by decide +kernel
theorem dX4_see_6 : decode cX4_see 6 = .ok (.invokestatic 59, 3) := by decide +kernel
theorem dX4_see_9 : decode cX4_see 9 = .ok (.ifCond .eq 15, 3) := by decide +kernel
theorem dX4_see_12 : decode cX4_see 12 = .ok (.iload_n 2, 1) := by decide +kernel
theorem dX4_see_13 : decode cX4_see 13 = .ok (.i2l, 1) := by decide +kernel
theorem dX4_see_14 : decode cX4_see 14 = .ok (.lconst 0, 1) := by decide +kernel
theorem dX4_see_15 : decode cX4_see 15 = .ok (.ldc2_w 209, 3) := by decide +kernel
theorem dX4_see_18 : decode cX4_see 18 = .ok (.invokestatic 59, 3) := by decide +kernel
theorem dX4_see_21 : decode cX4_see 21 = .ok (.ifCond .ne 5, 3) := by decide +kernel
theorem dX4_see_24 : decode cX4_see 24 = .ok (.iconst (-1), 1) := by decide +kernel
theorem dX4_see_25 : decode cX4_see 25 = .ok (.ireturn, 1) := by decide +kernel
theorem dX4_see_26 : decode cX4_see 26 = .ok (.aload_n 0, 1) := by decide +kernel
theorem dX4_see_27 : decode cX4_see 27 = .ok (.getfield 162, 3) := by decide +kernel
theorem dX4_see_30 : decode cX4_see 30 = .ok (.bipush 6, 2) := by decide +kernel
theorem dX4_see_32 : decode cX4_see 32 = .ok (.if_icmp .ne 6, 3) := by decide +kernel
theorem dX4_see_35 : decode cX4_see 35 = .ok (.bipush (-3), 2) := by decide +kernel
theorem dX4_see_37 : decode cX4_see 37 = .ok (.ireturn, 1) := by decide +kernel
theorem dX4_see_38 : decode cX4_see 38 = .ok (.aload_n 0, 1) := by decide +kernel
theorem dX4_see_39 : decode cX4_see 39 = .ok (.getfield 41, 3) := by decide +kernel
theorem dX4_see_42 : decode cX4_see 42 = .ok (.iconst 2, 1) := by decide +kernel
theorem dX4_see_43 : decode cX4_see 43 = .ok (.aload_n 0, 1) := by decide +kernel
theorem dX4_see_44 : decode cX4_see 44 = .ok (.getfield 162, 3) := by decide +kernel
theorem dX4_see_47 : decode cX4_see 47 = .ok (.imul, 1) := by decide +kernel
theorem dX4_see_48 : decode cX4_see 48 = .ok (.iload_n 1, 1) := by decide +kernel
theorem dX4_see_49 : decode cX4_see 49 = .ok (.iastore, 1) := by decide +kernel
theorem dX4_see_50 : decode cX4_see 50 = .ok (.aload_n 0, 1) := by decide +kernel
theorem dX4_see_51 : decode cX4_see 51 = .ok (.getfield 41, 3) := by decide +kernel
theorem dX4_see_54 : decode cX4_see 54 = .ok (.iconst 2, 1) := by decide +kernel
theorem dX4_see_55 : decode cX4_see 55 = .ok (.aload_n 0, 1) := by decide +kernel
theorem dX4_see_56 : decode cX4_see 56 = .ok (.getfield 162, 3) := by decide +kernel
theorem dX4_see_59 : decode cX4_see 59 = .ok (.imul, 1) := by decide +kernel
theorem dX4_see_60 : decode cX4_see 60 = .ok (.iconst 1, 1) := by decide +kernel
theorem dX4_see_61 : decode cX4_see 61 = .ok (.iadd, 1) := by decide +kernel
theorem dX4_see_62 : decode cX4_see 62 = .ok (.iload_n 2, 1) := by decide +kernel
theorem dX4_see_63 : decode cX4_see 63 = .ok (.iastore, 1) := by decide +kernel
theorem dX4_see_64 : decode cX4_see 64 = .ok (.aload_n 0, 1) := by decide +kernel
theorem dX4_see_65 : decode cX4_see 65 = .ok (.dup, 1) := by decide +kernel
theorem dX4_see_66 : decode cX4_see 66 = .ok (.getfield 162, 3) := by decide +kernel
theorem dX4_see_69 : decode cX4_see 69 = .ok (.iconst 1, 1) := by decide +kernel
theorem dX4_see_70 : decode cX4_see 70 = .ok (.iadd, 1) := by decide +kernel
theorem dX4_see_71 : decode cX4_see 71 = .ok (.putfield 162, 3) := by decide +kernel
theorem dX4_see_74 : decode cX4_see 74 = .ok (.aload_n 0, 1) := by decide +kernel
theorem dX4_see_75 : decode cX4_see 75 = .ok (.getfield 162, 3) := by decide +kernel
theorem dX4_see_78 : decode cX4_see 78 = .ok (.ireturn, 1) := by decide +kernel
theorem dX4_forget_0 : decode cX4_forget 0 = .ok (.iload_n 1, 1) := by decide +kernel
theorem dX4_forget_1 : decode cX4_forget 1 = .ok (.i2l, 1) := by decide +kernel
theorem dX4_forget_2 : decode cX4_forget 2 = .ok (.lconst 0, 1) := by decide +kernel
theorem dX4_forget_3 : decode cX4_forget 3 = .ok (.aload_n 0, 1) := by decide +kernel
theorem dX4_forget_4 : decode cX4_forget 4 = .ok (.getfield 162, 3) := by decide +kernel
theorem dX4_forget_7 : decode cX4_forget 7 = .ok (.i2l, 1) := by decide +kernel
theorem dX4_forget_8 : decode cX4_forget 8 = .ok (.invokestatic 59, 3) := by decide +kernel
theorem dX4_forget_11 : decode cX4_forget 11 = .ok (.ifCond .ne 5, 3) := by decide +kernel
theorem dX4_forget_14 : decode cX4_forget 14 = .ok (.iconst (-1), 1) := by decide +kernel
theorem dX4_forget_15 : decode cX4_forget 15 = .ok (.ireturn, 1) := by decide +kernel
theorem dX4_forget_16 : decode cX4_forget 16 = .ok (.aload_n 0, 1) := by decide +kernel
theorem dX4_forget_17 : decode cX4_forget 17 = .ok (.getfield 162, 3) := by decide +kernel
theorem dX4_forget_20 : decode cX4_forget 20 = .ok (.istore_n 2, 1) := by decide +kernel
theorem dX4_forget_21 : decode cX4_forget 21 = .ok (.aload_n 0, 1) := by decide +kernel
theorem dX4_forget_22 : decode cX4_forget 22 = .ok (.iload_n 1, 1) := by decide +kernel
theorem dX4_forget_23 : decode cX4_forget 23 = .ok (.putfield 162, 3) := by decide +kernel
theorem dX4_forget_26 : decode cX4_forget 26 = .ok (.iload_n 2, 1) := by decide +kernel
theorem dX4_forget_27 : decode cX4_forget 27 = .ok (.ireturn, 1) := by decide +kernel
theorem dX4_allKinds_0 : decode cX4_allKinds 0 = .ok (.iconst 1, 1) := by decide +kernel
theorem dX4_allKinds_1 : decode cX4_allKinds 1 = .ok (.istore_n 1, 1) := by decide +kernel
theorem dX4_allKinds_2 : decode cX4_allKinds 2 = .ok (.iconst 0, 1) := by decide +kernel
theorem dX4_allKinds_3 : decode cX4_allKinds 3 = .ok (.istore_n 2, 1) := by decide +kernel
theorem dX4_allKinds_4 : decode cX4_allKinds 4 = .ok (.iload_n 2, 1) := by decide +kernel
theorem dX4_allKinds_5 : decode cX4_allKinds 5 = .ok (.aload_n 0, 1) := by decide +kernel
theorem dX4_allKinds_6 : decode cX4_allKinds 6 = .ok (.getfield 150, 3) := by decide +kernel
theorem dX4_allKinds_9 : decode cX4_allKinds 9 = .ok (.if_icmp .ge 13, 3) := by decide +kernel
theorem dX4_allKinds_12 : decode cX4_allKinds 12 = .ok (.iload_n 1, 1) := by decide +kernel
theorem dX4_allKinds_13 : decode cX4_allKinds 13 = .ok (.iconst 5, 1) := by decide +kernel
theorem dX4_allKinds_14 : decode cX4_allKinds 14 = .ok (.imul, 1) := by decide +kernel
theorem dX4_allKinds_15 : decode cX4_allKinds 15 = .ok (.istore_n 1, 1) := by decide +kernel
theorem dX4_allKinds_16 : decode cX4_allKinds 16 = .ok (.iinc 2 1, 3) := by decide +kernel
theorem dX4_allKinds_19 : decode cX4_allKinds 19 = .ok (.goto (-15), 3) := by decide +kernel
theorem dX4_allKinds_22 : decode cX4_allKinds 22 = .ok (.iload_n 1, 1) := by decide +kernel
theorem dX4_allKinds_23 : decode cX4_allKinds 23 = .ok (.ireturn, 1) := by decide +kernel
theorem dX4_kindOf_0 : decode cX4_kindOf 0 = .ok (.iload_n 1, 1) := by decide +kernel
theorem dX4_kindOf_1 : decode cX4_kindOf 1 = .ok (.istore_n 3, 1) := by decide +kernel
theorem dX4_kindOf_2 : decode cX4_kindOf 2 = .ok (.aload_n 0, 1) := by decide +kernel
theorem dX4_kindOf_3 : decode cX4_kindOf 3 = .ok (.getfield 150, 3) := by decide +kernel
theorem dX4_kindOf_6 : decode cX4_kindOf 6 = .ok (.iconst 1, 1) := by decide +kernel
theorem dX4_kindOf_7 : decode cX4_kindOf 7 = .ok (.isub, 1) := by decide +kernel
theorem dX4_kindOf_8 : decode cX4_kindOf 8 = .ok (.istore 4, 2) := by decide +kernel
theorem dX4_kindOf_10 : decode cX4_kindOf 10 = .ok (.iload 4, 2) := by decide +kernel
theorem dX4_kindOf_12 : decode cX4_kindOf 12 = .ok (.iload_n 2, 1) := by decide +kernel
theorem dX4_kindOf_13 : decode cX4_kindOf 13 = .ok (.if_icmp .le 13, 3) := by decide +kernel
theorem dX4_kindOf_16 : decode cX4_kindOf 16 = .ok (.iload_n 3, 1) := by decide +kernel
theorem dX4_kindOf_17 : decode cX4_kindOf 17 = .ok (.iconst 5, 1) := by decide +kernel
theorem dX4_kindOf_18 : decode cX4_kindOf 18 = .ok (.idiv, 1) := by decide +kernel
theorem dX4_kindOf_19 : decode cX4_kindOf 19 = .ok (.istore_n 3, 1) := by decide +kernel
theorem dX4_kindOf_20 : decode cX4_kindOf 20 = .ok (.iinc 4 (-1), 3) := by decide +kernel
theorem dX4_kindOf_23 : decode cX4_kindOf 23 = .ok (.goto (-13), 3) := by decide +kernel
theorem dX4_kindOf_26 : decode cX4_kindOf 26 = .ok (.iload_n 3, 1) := by decide +kernel
theorem dX4_kindOf_27 : decode cX4_kindOf 27 = .ok (.iconst 5, 1) := by decide +kernel
theorem dX4_kindOf_28 : decode cX4_kindOf 28 = .ok (.irem, 1) := by decide +kernel
theorem dX4_kindOf_29 : decode cX4_kindOf 29 = .ok (.ireturn, 1) := by decide +kernel
theorem dX4_isAsSeen_0 : decode cX4_isAsSeen 0 = .ok (.aload_n 0, 1) := by decide +kernel
theorem dX4_isAsSeen_1 : decode cX4_isAsSeen 1 = .ok (.iconst 0, 1) := by decide +kernel
theorem dX4_isAsSeen_2 : decode cX4_isAsSeen 2 = .ok (.bipush 80, 2) := by decide +kernel
end
section
theorem dX4_isAsSeen_4 : decode cX4_isAsSeen 4 = .ok (.invokevirtual 250, 3) := by decide +kernel
theorem dX4_isAsSeen_7 : decode cX4_isAsSeen 7 = .ok (.iconst 0, 1) := by decide +kernel
theorem dX4_isAsSeen_8 : decode cX4_isAsSeen 8 = .ok (.istore_n 2, 1) := by decide +kernel
theorem dX4_isAsSeen_9 : decode cX4_isAsSeen 9 = .ok (.iload_n 2, 1) := by decide +kernel
theorem dX4_isAsSeen_10 : decode cX4_isAsSeen 10 = .ok (.aload_n 0, 1) := by decide +kernel
theorem dX4_isAsSeen_11 : decode cX4_isAsSeen 11 = .ok (.getfield 150, 3) := by decide +kernel
theorem dX4_isAsSeen_14 : decode cX4_isAsSeen 14 = .ok (.if_icmp .ge 24, 3) := by decide +kernel
theorem dX4_isAsSeen_17 : decode cX4_isAsSeen 17 = .ok (.aload_n 0, 1) := by decide +kernel
theorem dX4_isAsSeen_18 : decode cX4_isAsSeen 18 = .ok (.getfield 7, 3) := by decide +kernel
theorem dX4_isAsSeen_21 : decode cX4_isAsSeen 21 = .ok (.bipush 80, 2) := by decide +kernel
theorem dX4_isAsSeen_23 : decode cX4_isAsSeen 23 = .ok (.iload_n 2, 1) := by decide +kernel
theorem dX4_isAsSeen_24 : decode cX4_isAsSeen 24 = .ok (.iadd, 1) := by decide +kernel
theorem dX4_isAsSeen_25 : decode cX4_isAsSeen 25 = .ok (.aload_n 0, 1) := by decide +kernel
theorem dX4_isAsSeen_26 : decode cX4_isAsSeen 26 = .ok (.iload_n 1, 1) := by decide +kernel
theorem dX4_isAsSeen_27 : decode cX4_isAsSeen 27 = .ok (.iload_n 2, 1) := by decide +kernel
theorem dX4_isAsSeen_28 : decode cX4_isAsSeen 28 = .ok (.invokevirtual 275, 3) := by decide +kernel
theorem dX4_isAsSeen_31 : decode cX4_isAsSeen 31 = .ok (.iastore, 1) := by decide +kernel
theorem dX4_isAsSeen_32 : decode cX4_isAsSeen 32 = .ok (.iinc 2 1, 3) := by decide +kernel
theorem dX4_isAsSeen_35 : decode cX4_isAsSeen 35 = .ok (.goto (-26), 3) := by decide +kernel
theorem dX4_isAsSeen_38 : decode cX4_isAsSeen 38 = .ok (.iconst 1, 1) := by decide +kernel
theorem dX4_isAsSeen_39 : decode cX4_isAsSeen 39 = .ok (.istore_n 2, 1) := by decide +kernel
theorem dX4_isAsSeen_40 : decode cX4_isAsSeen 40 = .ok (.iconst 1, 1) := by decide +kernel
theorem dX4_isAsSeen_41 : decode cX4_isAsSeen 41 = .ok (.istore_n 3, 1) := by decide +kernel
theorem dX4_isAsSeen_42 : decode cX4_isAsSeen 42 = .ok (.iload_n 3, 1) := by decide +kernel
theorem dX4_isAsSeen_43 : decode cX4_isAsSeen 43 = .ok (.bipush 24, 2) := by decide +kernel
theorem dX4_isAsSeen_45 : decode cX4_isAsSeen 45 = .ok (.if_icmp .gt 89, 3) := by decide +kernel
theorem dX4_isAsSeen_48 : decode cX4_isAsSeen 48 = .ok (.iload_n 2, 1) := by decide +kernel
theorem dX4_isAsSeen_49 : decode cX4_isAsSeen 49 = .ok (.ifCond .eq 85, 3) := by decide +kernel
theorem dX4_isAsSeen_52 : decode cX4_isAsSeen 52 = .ok (.aload_n 0, 1) := by decide +kernel
theorem dX4_isAsSeen_53 : decode cX4_isAsSeen 53 = .ok (.bipush 80, 2) := by decide +kernel
theorem dX4_isAsSeen_55 : decode cX4_isAsSeen 55 = .ok (.iconst 1, 1) := by decide +kernel
theorem dX4_isAsSeen_56 : decode cX4_isAsSeen 56 = .ok (.aload_n 0, 1) := by decide +kernel
theorem dX4_isAsSeen_57 : decode cX4_isAsSeen 57 = .ok (.getfield 7, 3) := by decide +kernel
theorem dX4_isAsSeen_60 : decode cX4_isAsSeen 60 = .ok (.bipush 11, 2) := by decide +kernel
theorem dX4_isAsSeen_62 : decode cX4_isAsSeen 62 = .ok (.iaload, 1) := by decide +kernel
theorem dX4_isAsSeen_63 : decode cX4_isAsSeen 63 = .ok (.invokevirtual 244, 3) := by decide +kernel
theorem dX4_isAsSeen_66 : decode cX4_isAsSeen 66 = .ok (.iconst 0, 1) := by decide +kernel
theorem dX4_isAsSeen_67 : decode cX4_isAsSeen 67 = .ok (.istore 4, 2) := by decide +kernel
theorem dX4_isAsSeen_69 : decode cX4_isAsSeen 69 = .ok (.iload 4, 2) := by decide +kernel
theorem dX4_isAsSeen_71 : decode cX4_isAsSeen 71 = .ok (.aload_n 0, 1) := by decide +kernel
theorem dX4_isAsSeen_72 : decode cX4_isAsSeen 72 = .ok (.getfield 162, 3) := by decide +kernel
theorem dX4_isAsSeen_75 : decode cX4_isAsSeen 75 = .ok (.if_icmp .ge 53, 3) := by decide +kernel
theorem dX4_isAsSeen_78 : decode cX4_isAsSeen 78 = .ok (.iload_n 2, 1) := by decide +kernel
theorem dX4_isAsSeen_79 : decode cX4_isAsSeen 79 = .ok (.ifCond .eq 41, 3) := by decide +kernel
theorem dX4_isAsSeen_82 : decode cX4_isAsSeen 82 = .ok (.aload_n 0, 1) := by decide +kernel
theorem dX4_isAsSeen_83 : decode cX4_isAsSeen 83 = .ok (.getfield 41, 3) := by decide +kernel
theorem dX4_isAsSeen_86 : decode cX4_isAsSeen 86 = .ok (.iconst 2, 1) := by decide +kernel
theorem dX4_isAsSeen_87 : decode cX4_isAsSeen 87 = .ok (.iload 4, 2) := by decide +kernel
theorem dX4_isAsSeen_89 : decode cX4_isAsSeen 89 = .ok (.imul, 1) := by decide +kernel
theorem dX4_isAsSeen_90 : decode cX4_isAsSeen 90 = .ok (.iaload, 1) := by decide +kernel
theorem dX4_isAsSeen_91 : decode cX4_isAsSeen 91 = .ok (.iload_n 3, 1) := by decide +kernel
theorem dX4_isAsSeen_92 : decode cX4_isAsSeen 92 = .ok (.if_icmp .ne 24, 3) := by decide +kernel
theorem dX4_isAsSeen_95 : decode cX4_isAsSeen 95 = .ok (.aload_n 0, 1) := by decide +kernel
theorem dX4_isAsSeen_96 : decode cX4_isAsSeen 96 = .ok (.getfield 41, 3) := by decide +kernel
theorem dX4_isAsSeen_99 : decode cX4_isAsSeen 99 = .ok (.iconst 2, 1) := by decide +kernel
theorem dX4_isAsSeen_100 : decode cX4_isAsSeen 100 = .ok (.iload 4, 2) := by decide +kernel
theorem dX4_isAsSeen_102 : decode cX4_isAsSeen 102 = .ok (.imul, 1) := by decide +kernel
theorem dX4_isAsSeen_103 : decode cX4_isAsSeen 103 = .ok (.iconst 1, 1) := by decide +kernel
theorem dX4_isAsSeen_104 : decode cX4_isAsSeen 104 = .ok (.iadd, 1) := by decide +kernel
theorem dX4_isAsSeen_105 : decode cX4_isAsSeen 105 = .ok (.iaload, 1) := by decide +kernel
theorem dX4_isAsSeen_106 : decode cX4_isAsSeen 106 = .ok (.aload_n 0, 1) := by decide +kernel
theorem dX4_isAsSeen_107 : decode cX4_isAsSeen 107 = .ok (.getfield 7, 3) := by decide +kernel
theorem dX4_isAsSeen_110 : decode cX4_isAsSeen 110 = .ok (.bipush 88, 2) := by decide +kernel
theorem dX4_isAsSeen_112 : decode cX4_isAsSeen 112 = .ok (.iaload, 1) := by decide +kernel
theorem dX4_isAsSeen_113 : decode cX4_isAsSeen 113 = .ok (.if_icmp .ne 7, 3) := by decide +kernel
theorem dX4_isAsSeen_116 : decode cX4_isAsSeen 116 = .ok (.iconst 1, 1) := by decide +kernel
theorem dX4_isAsSeen_117 : decode cX4_isAsSeen 117 = .ok (.goto 4, 3) := by decide +kernel
theorem dX4_isAsSeen_120 : decode cX4_isAsSeen 120 = .ok (.iconst 0, 1) := by decide +kernel
theorem dX4_isAsSeen_121 : decode cX4_isAsSeen 121 = .ok (.istore_n 2, 1) := by decide +kernel
theorem dX4_isAsSeen_122 : decode cX4_isAsSeen 122 = .ok (.iinc 4 1, 3) := by decide +kernel
theorem dX4_isAsSeen_125 : decode cX4_isAsSeen 125 = .ok (.goto (-56), 3) := by decide +kernel
theorem dX4_isAsSeen_128 : decode cX4_isAsSeen 128 = .ok (.iinc 3 1, 3) := by decide +kernel
theorem dX4_isAsSeen_131 : decode cX4_isAsSeen 131 = .ok (.goto (-89), 3) := by decide +kernel
theorem dX4_isAsSeen_134 : decode cX4_isAsSeen 134 = .ok (.iload_n 2, 1) := by decide +kernel
theorem dX4_isAsSeen_135 : decode cX4_isAsSeen 135 = .ok (.ireturn, 1) := by decide +kernel
theorem dX4_fits_0 : decode cX4_fits 0 = .ok (.iload_n 1, 1) := by decide +kernel
theorem dX4_fits_1 : decode cX4_fits 1 = .ok (.i2l, 1) := by decide +kernel
theorem dX4_fits_2 : decode cX4_fits 2 = .ok (.lconst 0, 1) := by decide +kernel
theorem dX4_fits_3 : decode cX4_fits 3 = .ok (.lconst 1, 1) := by decide +kernel
theorem dX4_fits_4 : decode cX4_fits 4 = .ok (.invokestatic 59, 3) := by decide +kernel
theorem dX4_fits_7 : decode cX4_fits 7 = .ok (.ifCond .ne 5, 3) := by decide +kernel
theorem dX4_fits_10 : decode cX4_fits 10 = .ok (.iconst (-1), 1) := by decide +kernel
theorem dX4_fits_11 : decode cX4_fits 11 = .ok (.ireturn, 1) := by decide +kernel
theorem dX4_fits_12 : decode cX4_fits 12 = .ok (.iconst 0, 1) := by decide +kernel
theorem dX4_fits_13 : decode cX4_fits 13 = .ok (.istore_n 2, 1) := by decide +kernel
theorem dX4_fits_14 : decode cX4_fits 14 = .ok (.bipush (-4), 2) := by decide +kernel
theorem dX4_fits_16 : decode cX4_fits 16 = .ok (.istore_n 3, 1) := by decide +kernel
theorem dX4_fits_17 : decode cX4_fits 17 = .ok (.iconst 0, 1) := by decide +kernel
theorem dX4_fits_18 : decode cX4_fits 18 = .ok (.istore 4, 2) := by decide +kernel
theorem dX4_fits_20 : decode cX4_fits 20 = .ok (.iload 4, 2) := by decide +kernel
theorem dX4_fits_22 : decode cX4_fits 22 = .ok (.aload_n 0, 1) := by decide +kernel
theorem dX4_fits_23 : decode cX4_fits 23 = .ok (.invokevirtual 278, 3) := by decide +kernel
theorem dX4_fits_26 : decode cX4_fits 26 = .ok (.if_icmp .ge 32, 3) := by decide +kernel
theorem dX4_fits_29 : decode cX4_fits 29 = .ok (.aload_n 0, 1) := by decide +kernel
theorem dX4_fits_30 : decode cX4_fits 30 = .ok (.iload 4, 2) := by decide +kernel
theorem dX4_fits_32 : decode cX4_fits 32 = .ok (.invokevirtual 281, 3) := by decide +kernel
theorem dX4_fits_35 : decode cX4_fits 35 = .ok (.ifCond .eq 17, 3) := by decide +kernel
theorem dX4_fits_38 : decode cX4_fits 38 = .ok (.iload_n 2, 1) := by decide +kernel
theorem dX4_fits_39 : decode cX4_fits 39 = .ok (.ifCond .ne 8, 3) := by decide +kernel
theorem dX4_fits_42 : decode cX4_fits 42 = .ok (.iload 4, 2) := by decide +kernel
theorem dX4_fits_44 : decode cX4_fits 44 = .ok (.goto 4, 3) := by decide +kernel
theorem dX4_fits_47 : decode cX4_fits 47 = .ok (.iload_n 3, 1) := by decide +kernel
theorem dX4_fits_48 : decode cX4_fits 48 = .ok (.istore_n 3, 1) := by decide +kernel
theorem dX4_fits_49 : decode cX4_fits 49 = .ok (.iinc 2 1, 3) := by decide +kernel
theorem dX4_fits_52 : decode cX4_fits 52 = .ok (.iinc 4 1, 3) := by decide +kernel
theorem dX4_fits_55 : decode cX4_fits 55 = .ok (.goto (-35), 3) := by decide +kernel
theorem dX4_fits_58 : decode cX4_fits 58 = .ok (.iload_n 1, 1) := by decide +kernel
theorem dX4_fits_59 : decode cX4_fits 59 = .ok (.ifCond .ne 7, 3) := by decide +kernel
theorem dX4_fits_62 : decode cX4_fits 62 = .ok (.iload_n 2, 1) := by decide +kernel
theorem dX4_fits_63 : decode cX4_fits 63 = .ok (.goto 4, 3) := by decide +kernel
theorem dX4_fits_66 : decode cX4_fits 66 = .ok (.iload_n 3, 1) := by decide +kernel
theorem dX4_fits_67 : decode cX4_fits 67 = .ok (.ireturn, 1) := by decide +kernel
theorem dX4_kinds_0 : decode cX4_kinds 0 = .ok (.aload_n 0, 1) := by decide +kernel
theorem dX4_kinds_1 : decode cX4_kinds 1 = .ok (.iload_n 1, 1) := by decide +kernel
theorem dX4_kinds_2 : decode cX4_kinds 2 = .ok (.invokevirtual 177, 3) := by decide +kernel
theorem dX4_kinds_5 : decode cX4_kinds 5 = .ok (.ifCond .ne 5, 3) := by decide +kernel
theorem dX4_kinds_8 : decode cX4_kinds 8 = .ok (.iconst (-1), 1) := by decide +kernel
theorem dX4_kinds_9 : decode cX4_kinds 9 = .ok (.ireturn, 1) := by decide +kernel
theorem dX4_kinds_10 : decode cX4_kinds 10 = .ok (.iconst 0, 1) := by decide +kernel
theorem dX4_kinds_11 : decode cX4_kinds 11 = .ok (.istore_n 2, 1) := by decide +kernel
theorem dX4_kinds_12 : decode cX4_kinds 12 = .ok (.iconst 0, 1) := by decide +kernel
theorem dX4_kinds_13 : decode cX4_kinds 13 = .ok (.istore_n 3, 1) := by decide +kernel
theorem dX4_kinds_14 : decode cX4_kinds 14 = .ok (.iload_n 3, 1) := by decide +kernel
theorem dX4_kinds_15 : decode cX4_kinds 15 = .ok (.aload_n 0, 1) := by decide +kernel
theorem dX4_kinds_16 : decode cX4_kinds 16 = .ok (.invokevirtual 278, 3) := by decide +kernel
theorem dX4_kinds_19 : decode cX4_kinds 19 = .ok (.if_icmp .ge 32, 3) := by decide +kernel
theorem dX4_kinds_22 : decode cX4_kinds 22 = .ok (.iload_n 2, 1) := by decide +kernel
theorem dX4_kinds_23 : decode cX4_kinds 23 = .ok (.aload_n 0, 1) := by decide +kernel
theorem dX4_kinds_24 : decode cX4_kinds 24 = .ok (.iload_n 3, 1) := by decide +kernel
theorem dX4_kinds_25 : decode cX4_kinds 25 = .ok (.invokevirtual 281, 3) := by decide +kernel
theorem dX4_kinds_28 : decode cX4_kinds 28 = .ok (.ifCond .eq 14, 3) := by decide +kernel
theorem dX4_kinds_31 : decode cX4_kinds 31 = .ok (.iconst 1, 1) := by decide +kernel
theorem dX4_kinds_32 : decode cX4_kinds 32 = .ok (.aload_n 0, 1) := by decide +kernel
theorem dX4_kinds_33 : decode cX4_kinds 33 = .ok (.iload_n 3, 1) := by decide +kernel
theorem dX4_kinds_34 : decode cX4_kinds 34 = .ok (.iload_n 1, 1) := by decide +kernel
theorem dX4_kinds_35 : decode cX4_kinds 35 = .ok (.invokevirtual 275, 3) := by decide +kernel
theorem dX4_kinds_38 : decode cX4_kinds 38 = .ok (.ishl, 1) := by decide +kernel
theorem dX4_kinds_39 : decode cX4_kinds 39 = .ok (.goto 4, 3) := by decide +kernel
theorem dX4_kinds_42 : decode cX4_kinds 42 = .ok (.iconst 0, 1) := by decide +kernel
theorem dX4_kinds_43 : decode cX4_kinds 43 = .ok (.ior, 1) := by decide +kernel
theorem dX4_kinds_44 : decode cX4_kinds 44 = .ok (.istore_n 2, 1) := by decide +kernel
theorem dX4_kinds_45 : decode cX4_kinds 45 = .ok (.iinc 3 1, 3) := by decide +kernel
theorem dX4_kinds_48 : decode cX4_kinds 48 = .ok (.goto (-34), 3) := by decide +kernel
theorem dX4_kinds_51 : decode cX4_kinds 51 = .ok (.iload_n 2, 1) := by decide +kernel
theorem dX4_kinds_52 : decode cX4_kinds 52 = .ok (.ireturn, 1) := by decide +kernel
theorem dX4_drift_0 : decode cX4_drift 0 = .ok (.iload_n 2, 1) := by decide +kernel
theorem dX4_drift_1 : decode cX4_drift 1 = .ok (.i2l, 1) := by decide +kernel
theorem dX4_drift_2 : decode cX4_drift 2 = .ok (.lconst 1, 1) := by decide +kernel
theorem dX4_drift_3 : decode cX4_drift 3 = .ok (.ldc2_w 209, 3) := by decide +kernel
theorem dX4_drift_6 : decode cX4_drift 6 = .ok (.invokestatic 59, 3) := by decide +kernel
theorem dX4_drift_9 : decode cX4_drift 9 = .ok (.ifCond .eq 15, 3) := by decide +kernel
theorem dX4_drift_12 : decode cX4_drift 12 = .ok (.iload_n 3, 1) := by decide +kernel
theorem dX4_drift_13 : decode cX4_drift 13 = .ok (.i2l, 1) := by decide +kernel
theorem dX4_drift_14 : decode cX4_drift 14 = .ok (.lconst 0, 1) := by decide +kernel
theorem dX4_drift_15 : decode cX4_drift 15 = .ok (.ldc2_w 123, 3) := by decide +kernel
theorem dX4_drift_18 : decode cX4_drift 18 = .ok (.invokestatic 59, 3) := by decide +kernel
theorem dX4_drift_21 : decode cX4_drift 21 = .ok (.ifCond .ne 5, 3) := by decide +kernel
theorem dX4_drift_24 : decode cX4_drift 24 = .ok (.iconst (-1), 1) := by decide +kernel
theorem dX4_drift_25 : decode cX4_drift 25 = .ok (.ireturn, 1) := by decide +kernel
theorem dX4_drift_26 : decode cX4_drift 26 = .ok (.aload_n 0, 1) := by decide +kernel
theorem dX4_drift_27 : decode cX4_drift 27 = .ok (.iconst 0, 1) := by decide +kernel
theorem dX4_drift_28 : decode cX4_drift 28 = .ok (.bipush 80, 2) := by decide +kernel
theorem dX4_drift_30 : decode cX4_drift 30 = .ok (.invokevirtual 250, 3) := by decide +kernel
theorem dX4_drift_33 : decode cX4_drift 33 = .ok (.iload_n 1, 1) := by decide +kernel
theorem dX4_drift_34 : decode cX4_drift 34 = .ok (.istore 4, 2) := by decide +kernel
theorem dX4_drift_36 : decode cX4_drift 36 = .ok (.iconst 0, 1) := by decide +kernel
theorem dX4_drift_37 : decode cX4_drift 37 = .ok (.istore 5, 2) := by decide +kernel
theorem dX4_drift_39 : decode cX4_drift 39 = .ok (.iload 5, 2) := by decide +kernel
theorem dX4_drift_41 : decode cX4_drift 41 = .ok (.iload_n 2, 1) := by decide +kernel
theorem dX4_drift_42 : decode cX4_drift 42 = .ok (.if_icmp .ge 46, 3) := by decide +kernel
theorem dX4_drift_45 : decode cX4_drift 45 = .ok (.iload 4, 2) := by decide +kernel
theorem dX4_drift_47 : decode cX4_drift 47 = .ok (.ldc_w 284, 3) := by decide +kernel
theorem dX4_drift_50 : decode cX4_drift 50 = .ok (.imul, 1) := by decide +kernel
theorem dX4_drift_51 : decode cX4_drift 51 = .ok (.sipush 12345, 3) := by decide +kernel
theorem dX4_drift_54 : decode cX4_drift 54 = .ok (.iadd, 1) := by decide +kernel
theorem dX4_drift_55 : decode cX4_drift 55 = .ok (.istore 4, 2) := by decide +kernel
theorem dX4_drift_57 : decode cX4_drift 57 = .ok (.aload_n 0, 1) := by decide +kernel
theorem dX4_drift_58 : decode cX4_drift 58 = .ok (.bipush 80, 2) := by decide +kernel
theorem dX4_drift_60 : decode cX4_drift 60 = .ok (.iload 4, 2) := by decide +kernel
theorem dX4_drift_62 : decode cX4_drift 62 = .ok (.bipush 16, 2) := by decide +kernel
theorem dX4_drift_64 : decode cX4_drift 64 = .ok (.ishr, 1) := by decide +kernel
theorem dX4_drift_65 : decode cX4_drift 65 = .ok (.sipush 32767, 3) := by decide +kernel
theorem dX4_drift_68 : decode cX4_drift 68 = .ok (.iand, 1) := by decide +kernel
theorem dX4_drift_69 : decode cX4_drift 69 = .ok (.iconst 3, 1) := by decide +kernel
theorem dX4_drift_70 : decode cX4_drift 70 = .ok (.irem, 1) := by decide +kernel
theorem dX4_drift_71 : decode cX4_drift 71 = .ok (.ifCond .eq 7, 3) := by decide +kernel
theorem dX4_drift_74 : decode cX4_drift 74 = .ok (.iconst 1, 1) := by decide +kernel
theorem dX4_drift_75 : decode cX4_drift 75 = .ok (.goto 4, 3) := by decide +kernel
theorem dX4_drift_78 : decode cX4_drift 78 = .ok (.iconst 0, 1) := by decide +kernel
theorem dX4_drift_79 : decode cX4_drift 79 = .ok (.invokevirtual 240, 3) := by decide +kernel
theorem dX4_drift_82 : decode cX4_drift 82 = .ok (.iinc 5 1, 3) := by decide +kernel
theorem dX4_drift_85 : decode cX4_drift 85 = .ok (.goto (-46), 3) := by decide +kernel
theorem dX4_drift_88 : decode cX4_drift 88 = .ok (.iload_n 3, 1) := by decide +kernel
theorem dX4_drift_89 : decode cX4_drift 89 = .ok (.ifCond .ne 13, 3) := by decide +kernel
theorem dX4_drift_92 : decode cX4_drift 92 = .ok (.aload_n 0, 1) := by decide +kernel
theorem dX4_drift_93 : decode cX4_drift 93 = .ok (.getfield 7, 3) := by decide +kernel
theorem dX4_drift_96 : decode cX4_drift 96 = .ok (.bipush 89, 2) := by decide +kernel
theorem dX4_drift_98 : decode cX4_drift 98 = .ok (.iaload, 1) := by decide +kernel
theorem dX4_drift_99 : decode cX4_drift 99 = .ok (.goto 24, 3) := by decide +kernel
theorem dX4_drift_102 : decode cX4_drift 102 = .ok (.iload_n 3, 1) := by decide +kernel
theorem dX4_drift_103 : decode cX4_drift 103 = .ok (.iconst 1, 1) := by decide +kernel
theorem dX4_drift_104 : decode cX4_drift 104 = .ok (.if_icmp .ne 13, 3) := by decide +kernel
theorem dX4_drift_107 : decode cX4_drift 107 = .ok (.aload_n 0, 1) := by decide +kernel
theorem dX4_drift_108 : decode cX4_drift 108 = .ok (.getfield 7, 3) := by decide +kernel
theorem dX4_drift_111 : decode cX4_drift 111 = .ok (.bipush 88, 2) := by decide +kernel
theorem dX4_drift_113 : decode cX4_drift 113 = .ok (.iaload, 1) := by decide +kernel
theorem dX4_drift_114 : decode cX4_drift 114 = .ok (.goto 9, 3) := by decide +kernel
theorem dX4_drift_117 : decode cX4_drift 117 = .ok (.aload_n 0, 1) := by decide +kernel
theorem dX4_drift_118 : decode cX4_drift 118 = .ok (.bipush 80, 2) := by decide +kernel
theorem dX4_drift_120 : decode cX4_drift 120 = .ok (.invokevirtual 218, 3) := by decide +kernel
theorem dX4_drift_123 : decode cX4_drift 123 = .ok (.ireturn, 1) := by decide +kernel
theorem dX4_keep_0 : decode cX4_keep 0 = .ok (.iload_n 1, 1) := by decide +kernel
theorem dX4_keep_1 : decode cX4_keep 1 = .ok (.i2l, 1) := by decide +kernel
theorem dX4_keep_2 : decode cX4_keep 2 = .ok (.lconst 0, 1) := by decide +kernel
theorem dX4_keep_3 : decode cX4_keep 3 = .ok (.lconst 1, 1) := by decide +kernel
theorem dX4_keep_4 : decode cX4_keep 4 = .ok (.invokestatic 59, 3) := by decide +kernel
theorem dX4_keep_7 : decode cX4_keep 7 = .ok (.ifCond .ne 5, 3) := by decide +kernel
theorem dX4_keep_10 : decode cX4_keep 10 = .ok (.iconst (-1), 1) := by decide +kernel
theorem dX4_keep_11 : decode cX4_keep 11 = .ok (.ireturn, 1) := by decide +kernel
theorem dX4_keep_12 : decode cX4_keep 12 = .ok (.aload_n 0, 1) := by decide +kernel
theorem dX4_keep_13 : decode cX4_keep 13 = .ok (.iconst 0, 1) := by decide +kernel
theorem dX4_keep_14 : decode cX4_keep 14 = .ok (.bipush 20, 2) := by decide +kernel
theorem dX4_keep_16 : decode cX4_keep 16 = .ok (.iload_n 1, 1) := by decide +kernel
theorem dX4_keep_17 : decode cX4_keep 17 = .ok (.iconst 1, 1) := by decide +kernel
theorem dX4_keep_18 : decode cX4_keep 18 = .ok (.iadd, 1) := by decide +kernel
theorem dX4_keep_19 : decode cX4_keep 19 = .ok (.imul, 1) := by decide +kernel
theorem dX4_keep_20 : decode cX4_keep 20 = .ok (.invokevirtual 250, 3) := by decide +kernel
theorem dX4_keep_23 : decode cX4_keep 23 = .ok (.aload_n 0, 1) := by decide +kernel
theorem dX4_keep_24 : decode cX4_keep 24 = .ok (.getfield 44, 3) := by decide +kernel
theorem dX4_keep_27 : decode cX4_keep 27 = .ok (.iload_n 1, 1) := by decide +kernel
theorem dX4_keep_28 : decode cX4_keep 28 = .ok (.baload, 1) := by decide +kernel
theorem dX4_keep_29 : decode cX4_keep 29 = .ok (.ifCond .eq 7, 3) := by decide +kernel
theorem dX4_keep_32 : decode cX4_keep 32 = .ok (.iconst 1, 1) := by decide +kernel
theorem dX4_keep_33 : decode cX4_keep 33 = .ok (.goto 4, 3) := by decide +kernel
theorem dX4_keep_36 : decode cX4_keep 36 = .ok (.iconst 0, 1) := by decide +kernel
theorem dX4_keep_37 : decode cX4_keep 37 = .ok (.istore_n 2, 1) := by decide +kernel
theorem dX4_keep_38 : decode cX4_keep 38 = .ok (.aload_n 0, 1) := by decide +kernel
theorem dX4_keep_39 : decode cX4_keep 39 = .ok (.getfield 44, 3) := by decide +kernel
theorem dX4_keep_42 : decode cX4_keep 42 = .ok (.iload_n 1, 1) := by decide +kernel
theorem dX4_keep_43 : decode cX4_keep 43 = .ok (.iconst 1, 1) := by decide +kernel
theorem dX4_keep_44 : decode cX4_keep 44 = .ok (.bastore, 1) := by decide +kernel
theorem dX4_keep_45 : decode cX4_keep 45 = .ok (.iload_n 2, 1) := by decide +kernel
theorem dX4_keep_46 : decode cX4_keep 46 = .ok (.ireturn, 1) := by decide +kernel
theorem dX4_back_0 : decode cX4_back 0 = .ok (.iload_n 1, 1) := by decide +kernel
theorem dX4_back_1 : decode cX4_back 1 = .ok (.i2l, 1) := by decide +kernel
theorem dX4_back_2 : decode cX4_back 2 = .ok (.lconst 0, 1) := by decide +kernel
theorem dX4_back_3 : decode cX4_back 3 = .ok (.lconst 1, 1) := by decide +kernel
theorem dX4_back_4 : decode cX4_back 4 = .ok (.invokestatic 59, 3) := by decide +kernel
theorem dX4_back_7 : decode cX4_back 7 = .ok (.ifCond .ne 5, 3) := by decide +kernel
theorem dX4_back_10 : decode cX4_back 10 = .ok (.iconst (-1), 1) := by decide +kernel
theorem dX4_back_11 : decode cX4_back 11 = .ok (.ireturn, 1) := by decide +kernel
theorem dX4_back_12 : decode cX4_back 12 = .ok (.aload_n 0, 1) := by decide +kernel
theorem dX4_back_13 : decode cX4_back 13 = .ok (.getfield 44, 3) := by decide +kernel
theorem dX4_back_16 : decode cX4_back 16 = .ok (.iload_n 1, 1) := by decide +kernel
theorem dX4_back_17 : decode cX4_back 17 = .ok (.baload, 1) := by decide +kernel
theorem dX4_back_18 : decode cX4_back 18 = .ok (.ifCond .ne 6, 3) := by decide +kernel
theorem dX4_back_21 : decode cX4_back 21 = .ok (.bipush (-2), 2) := by decide +kernel
theorem dX4_back_23 : decode cX4_back 23 = .ok (.ireturn, 1) := by decide +kernel
theorem dX4_back_24 : decode cX4_back 24 = .ok (.aload_n 0, 1) := by decide +kernel
theorem dX4_back_25 : decode cX4_back 25 = .ok (.bipush 20, 2) := by decide +kernel
theorem dX4_back_27 : decode cX4_back 27 = .ok (.iload_n 1, 1) := by decide +kernel
theorem dX4_back_28 : decode cX4_back 28 = .ok (.iconst 1, 1) := by decide +kernel
theorem dX4_back_29 : decode cX4_back 29 = .ok (.iadd, 1) := by decide +kernel
theorem dX4_back_30 : decode cX4_back 30 = .ok (.imul, 1) := by decide +kernel
theorem dX4_back_31 : decode cX4_back 31 = .ok (.iconst 0, 1) := by decide +kernel
theorem dX4_back_32 : decode cX4_back 32 = .ok (.invokevirtual 250, 3) := by decide +kernel
theorem dX4_back_35 : decode cX4_back 35 = .ok (.aload_n 0, 1) := by decide +kernel
theorem dX4_back_36 : decode cX4_back 36 = .ok (.iconst 0, 1) := by decide +kernel
theorem dX4_back_37 : decode cX4_back 37 = .ok (.invokevirtual 171, 3) := by decide +kernel
theorem dX4_back_40 : decode cX4_back 40 = .ok (.ireturn, 1) := by decide +kernel
theorem dX4_sheet_0 : decode cX4_sheet 0 = .ok (.iload_n 1, 1) := by decide +kernel
theorem dX4_sheet_1 : decode cX4_sheet 1 = .ok (.i2l, 1) := by decide +kernel
theorem dX4_sheet_2 : decode cX4_sheet 2 = .ok (.lconst 0, 1) := by decide +kernel
theorem dX4_sheet_3 : decode cX4_sheet 3 = .ok (.ldc2_w 165, 3) := by decide +kernel
theorem dX4_sheet_6 : decode cX4_sheet 6 = .ok (.invokestatic 59, 3) := by decide +kernel
theorem dX4_sheet_9 : decode cX4_sheet 9 = .ok (.ifCond .eq 21, 3) := by decide +kernel
theorem dX4_sheet_12 : decode cX4_sheet 12 = .ok (.iload_n 2, 1) := by decide +kernel
theorem dX4_sheet_13 : decode cX4_sheet 13 = .ok (.i2l, 1) := by decide +kernel
theorem dX4_sheet_14 : decode cX4_sheet 14 = .ok (.lconst 0, 1) := by decide +kernel
theorem dX4_sheet_15 : decode cX4_sheet 15 = .ok (.ldc2_w 123, 3) := by decide +kernel
theorem dX4_sheet_18 : decode cX4_sheet 18 = .ok (.invokestatic 59, 3) := by decide +kernel
theorem dX4_sheet_21 : decode cX4_sheet 21 = .ok (.ifCond .eq 9, 3) := by decide +kernel
theorem dX4_sheet_24 : decode cX4_sheet 24 = .ok (.iload_n 3, 1) := by decide +kernel
theorem dX4_sheet_25 : decode cX4_sheet 25 = .ok (.bipush 40, 2) := by decide +kernel
theorem dX4_sheet_27 : decode cX4_sheet 27 = .ok (.if_icmp .le 5, 3) := by decide +kernel
theorem dX4_sheet_30 : decode cX4_sheet 30 = .ok (.iconst (-1), 1) := by decide +kernel
theorem dX4_sheet_31 : decode cX4_sheet 31 = .ok (.ireturn, 1) := by decide +kernel
theorem dX4_sheet_32 : decode cX4_sheet 32 = .ok (.iload_n 3, 1) := by decide +kernel
theorem dX4_sheet_33 : decode cX4_sheet 33 = .ok (.ifCond .ge 6, 3) := by decide +kernel
theorem dX4_sheet_36 : decode cX4_sheet 36 = .ok (.bipush (-14), 2) := by decide +kernel
theorem dX4_sheet_38 : decode cX4_sheet 38 = .ok (.ireturn, 1) := by decide +kernel
theorem dX4_sheet_39 : decode cX4_sheet 39 = .ok (.aload_n 0, 1) := by decide +kernel
theorem dX4_sheet_40 : decode cX4_sheet 40 = .ok (.getfield 48, 3) := by decide +kernel
theorem dX4_sheet_43 : decode cX4_sheet 43 = .ok (.iload_n 1, 1) := by decide +kernel
theorem dX4_sheet_44 : decode cX4_sheet 44 = .ok (.iload_n 2, 1) := by decide +kernel
theorem dX4_sheet_45 : decode cX4_sheet 45 = .ok (.iastore, 1) := by decide +kernel
theorem dX4_sheet_46 : decode cX4_sheet 46 = .ok (.aload_n 0, 1) := by decide +kernel
theorem dX4_sheet_47 : decode cX4_sheet 47 = .ok (.getfield 51, 3) := by decide +kernel
theorem dX4_sheet_50 : decode cX4_sheet 50 = .ok (.iload_n 1, 1) := by decide +kernel
theorem dX4_sheet_51 : decode cX4_sheet 51 = .ok (.iload_n 3, 1) := by decide +kernel
theorem dX4_sheet_52 : decode cX4_sheet 52 = .ok (.iastore, 1) := by decide +kernel
theorem dX4_sheet_53 : decode cX4_sheet 53 = .ok (.iconst 0, 1) := by decide +kernel
theorem dX4_sheet_54 : decode cX4_sheet 54 = .ok (.istore 4, 2) := by decide +kernel
theorem dX4_sheet_56 : decode cX4_sheet 56 = .ok (.iload 4, 2) := by decide +kernel
theorem dX4_sheet_58 : decode cX4_sheet 58 = .ok (.bipush 40, 2) := by decide +kernel
theorem dX4_sheet_60 : decode cX4_sheet 60 = .ok (.if_icmp .ge 22, 3) := by decide +kernel
theorem dX4_sheet_63 : decode cX4_sheet 63 = .ok (.aload_n 0, 1) := by decide +kernel
theorem dX4_sheet_64 : decode cX4_sheet 64 = .ok (.getfield 54, 3) := by decide +kernel
theorem dX4_sheet_67 : decode cX4_sheet 67 = .ok (.bipush 40, 2) := by decide +kernel
theorem dX4_sheet_69 : decode cX4_sheet 69 = .ok (.iload_n 1, 1) := by decide +kernel
theorem dX4_sheet_70 : decode cX4_sheet 70 = .ok (.imul, 1) := by decide +kernel
theorem dX4_sheet_71 : decode cX4_sheet 71 = .ok (.iload 4, 2) := by decide +kernel
theorem dX4_sheet_73 : decode cX4_sheet 73 = .ok (.iadd, 1) := by decide +kernel
theorem dX4_sheet_74 : decode cX4_sheet 74 = .ok (.iconst 0, 1) := by decide +kernel
theorem dX4_sheet_75 : decode cX4_sheet 75 = .ok (.iastore, 1) := by decide +kernel
theorem dX4_sheet_76 : decode cX4_sheet 76 = .ok (.iinc 4 1, 3) := by decide +kernel
theorem dX4_sheet_79 : decode cX4_sheet 79 = .ok (.goto (-23), 3) := by decide +kernel
theorem dX4_sheet_82 : decode cX4_sheet 82 = .ok (.iconst 1, 1) := by decide +kernel
theorem dX4_sheet_83 : decode cX4_sheet 83 = .ok (.ireturn, 1) := by decide +kernel
theorem dX4_put_0 : decode cX4_put 0 = .ok (.iload_n 1, 1) := by decide +kernel
theorem dX4_put_1 : decode cX4_put 1 = .ok (.i2l, 1) := by decide +kernel
theorem dX4_put_2 : decode cX4_put 2 = .ok (.lconst 0, 1) := by decide +kernel
theorem dX4_put_3 : decode cX4_put 3 = .ok (.ldc2_w 165, 3) := by decide +kernel
theorem dX4_put_6 : decode cX4_put 6 = .ok (.invokestatic 59, 3) := by decide +kernel
theorem dX4_put_9 : decode cX4_put 9 = .ok (.ifCond .ne 5, 3) := by decide +kernel
theorem dX4_put_12 : decode cX4_put 12 = .ok (.iconst (-1), 1) := by decide +kernel
theorem dX4_put_13 : decode cX4_put 13 = .ok (.ireturn, 1) := by decide +kernel
theorem dX4_put_14 : decode cX4_put 14 = .ok (.aload_n 0, 1) := by decide +kernel
theorem dX4_put_15 : decode cX4_put 15 = .ok (.getfield 48, 3) := by decide +kernel
theorem dX4_put_18 : decode cX4_put 18 = .ok (.iload_n 1, 1) := by decide +kernel
theorem dX4_put_19 : decode cX4_put 19 = .ok (.iaload, 1) := by decide +kernel
theorem dX4_put_20 : decode cX4_put 20 = .ok (.bipush (-4), 2) := by decide +kernel
theorem dX4_put_22 : decode cX4_put 22 = .ok (.if_icmp .ne 6, 3) := by decide +kernel
theorem dX4_put_25 : decode cX4_put 25 = .ok (.bipush (-11), 2) := by decide +kernel
theorem dX4_put_27 : decode cX4_put 27 = .ok (.ireturn, 1) := by decide +kernel
theorem dX4_put_28 : decode cX4_put 28 = .ok (.iload_n 2, 1) := by decide +kernel
theorem dX4_put_29 : decode cX4_put 29 = .ok (.i2l, 1) := by decide +kernel
theorem dX4_put_30 : decode cX4_put 30 = .ok (.lconst 0, 1) := by decide +kernel
theorem dX4_put_31 : decode cX4_put 31 = .ok (.aload_n 0, 1) := by decide +kernel
theorem dX4_put_32 : decode cX4_put 32 = .ok (.getfield 51, 3) := by decide +kernel
theorem dX4_put_35 : decode cX4_put 35 = .ok (.iload_n 1, 1) := by decide +kernel
theorem dX4_put_36 : decode cX4_put 36 = .ok (.iaload, 1) := by decide +kernel
theorem dX4_put_37 : decode cX4_put 37 = .ok (.iconst 1, 1) := by decide +kernel
theorem dX4_put_38 : decode cX4_put 38 = .ok (.isub, 1) := by decide +kernel
theorem dX4_put_39 : decode cX4_put 39 = .ok (.i2l, 1) := by decide +kernel
theorem dX4_put_40 : decode cX4_put 40 = .ok (.invokestatic 59, 3) := by decide +kernel
theorem dX4_put_43 : decode cX4_put 43 = .ok (.ifCond .ne 6, 3) := by decide +kernel
theorem dX4_put_46 : decode cX4_put 46 = .ok (.bipush (-12), 2) := by decide +kernel
theorem dX4_put_48 : decode cX4_put 48 = .ok (.ireturn, 1) := by decide +kernel
theorem dX4_put_49 : decode cX4_put 49 = .ok (.aload_n 0, 1) := by decide +kernel
theorem dX4_put_50 : decode cX4_put 50 = .ok (.getfield 54, 3) := by decide +kernel
theorem dX4_put_53 : decode cX4_put 53 = .ok (.bipush 40, 2) := by decide +kernel
theorem dX4_put_55 : decode cX4_put 55 = .ok (.iload_n 1, 1) := by decide +kernel
theorem dX4_put_56 : decode cX4_put 56 = .ok (.imul, 1) := by decide +kernel
theorem dX4_put_57 : decode cX4_put 57 = .ok (.iload_n 2, 1) := by decide +kernel
theorem dX4_put_58 : decode cX4_put 58 = .ok (.iadd, 1) := by decide +kernel
theorem dX4_put_59 : decode cX4_put 59 = .ok (.aload_n 0, 1) := by decide +kernel
theorem dX4_put_60 : decode cX4_put 60 = .ok (.getfield 48, 3) := by decide +kernel
theorem dX4_put_63 : decode cX4_put 63 = .ok (.iload_n 1, 1) := by decide +kernel
theorem dX4_put_64 : decode cX4_put 64 = .ok (.iaload, 1) := by decide +kernel
theorem dX4_put_65 : decode cX4_put 65 = .ok (.ifCond .ne 13, 3) := by decide +kernel
theorem dX4_put_68 : decode cX4_put 68 = .ok (.iload_n 3, 1) := by decide +kernel
theorem dX4_put_69 : decode cX4_put 69 = .ok (.bipush 24, 2) := by decide +kernel
theorem dX4_put_71 : decode cX4_put 71 = .ok (.ishl, 1) := by decide +kernel
theorem dX4_put_72 : decode cX4_put 72 = .ok (.bipush 24, 2) := by decide +kernel
theorem dX4_put_74 : decode cX4_put 74 = .ok (.ishr, 1) := by decide +kernel
theorem dX4_put_75 : decode cX4_put 75 = .ok (.goto 24, 3) := by decide +kernel
theorem dX4_put_78 : decode cX4_put 78 = .ok (.aload_n 0, 1) := by decide +kernel
theorem dX4_put_79 : decode cX4_put 79 = .ok (.getfield 48, 3) := by decide +kernel
theorem dX4_put_82 : decode cX4_put 82 = .ok (.iload_n 1, 1) := by decide +kernel
theorem dX4_put_83 : decode cX4_put 83 = .ok (.iaload, 1) := by decide +kernel
theorem dX4_put_84 : decode cX4_put 84 = .ok (.iconst 1, 1) := by decide +kernel
theorem dX4_put_85 : decode cX4_put 85 = .ok (.if_icmp .ne 13, 3) := by decide +kernel
theorem dX4_put_88 : decode cX4_put 88 = .ok (.iload_n 3, 1) := by decide +kernel
theorem dX4_put_89 : decode cX4_put 89 = .ok (.bipush 16, 2) := by decide +kernel
theorem dX4_put_91 : decode cX4_put 91 = .ok (.ishl, 1) := by decide +kernel
theorem dX4_put_92 : decode cX4_put 92 = .ok (.bipush 16, 2) := by decide +kernel
theorem dX4_put_94 : decode cX4_put 94 = .ok (.ishr, 1) := by decide +kernel
theorem dX4_put_95 : decode cX4_put 95 = .ok (.goto 4, 3) := by decide +kernel
theorem dX4_put_98 : decode cX4_put 98 = .ok (.iload_n 3, 1) := by decide +kernel
theorem dX4_put_99 : decode cX4_put 99 = .ok (.iastore, 1) := by decide +kernel
theorem dX4_put_100 : decode cX4_put 100 = .ok (.iconst 1, 1) := by decide +kernel
theorem dX4_put_101 : decode cX4_put 101 = .ok (.ireturn, 1) := by decide +kernel
theorem dX4_read_0 : decode cX4_read 0 = .ok (.iload_n 1, 1) := by decide +kernel
theorem dX4_read_1 : decode cX4_read 1 = .ok (.i2l, 1) := by decide +kernel
theorem dX4_read_2 : decode cX4_read 2 = .ok (.lconst 0, 1) := by decide +kernel
theorem dX4_read_3 : decode cX4_read 3 = .ok (.ldc2_w 165, 3) := by decide +kernel
theorem dX4_read_6 : decode cX4_read 6 = .ok (.invokestatic 59, 3) := by decide +kernel
theorem dX4_read_9 : decode cX4_read 9 = .ok (.ifCond .eq 28, 3) := by decide +kernel
theorem dX4_read_12 : decode cX4_read 12 = .ok (.iload_n 2, 1) := by decide +kernel
theorem dX4_read_13 : decode cX4_read 13 = .ok (.i2l, 1) := by decide +kernel
theorem dX4_read_14 : decode cX4_read 14 = .ok (.lconst 0, 1) := by decide +kernel
theorem dX4_read_15 : decode cX4_read 15 = .ok (.ldc2_w 123, 3) := by decide +kernel
theorem dX4_read_18 : decode cX4_read 18 = .ok (.invokestatic 59, 3) := by decide +kernel
theorem dX4_read_21 : decode cX4_read 21 = .ok (.ifCond .eq 16, 3) := by decide +kernel
theorem dX4_read_24 : decode cX4_read 24 = .ok (.iload 4, 2) := by decide +kernel
theorem dX4_read_26 : decode cX4_read 26 = .ok (.i2l, 1) := by decide +kernel
theorem dX4_read_27 : decode cX4_read 27 = .ok (.lconst 0, 1) := by decide +kernel
theorem dX4_read_28 : decode cX4_read 28 = .ok (.ldc2_w 204, 3) := by decide +kernel
theorem dX4_read_31 : decode cX4_read 31 = .ok (.invokestatic 59, 3) := by decide +kernel
theorem dX4_read_34 : decode cX4_read 34 = .ok (.ifCond .ne 5, 3) := by decide +kernel
theorem dX4_read_37 : decode cX4_read 37 = .ok (.iconst (-1), 1) := by decide +kernel
theorem dX4_read_38 : decode cX4_read 38 = .ok (.ireturn, 1) := by decide +kernel
theorem dX4_read_39 : decode cX4_read 39 = .ok (.aload_n 0, 1) := by decide +kernel
theorem dX4_read_40 : decode cX4_read 40 = .ok (.iconst 0, 1) := by decide +kernel
theorem dX4_read_41 : decode cX4_read 41 = .ok (.bipush 60, 2) := by decide +kernel
theorem dX4_read_43 : decode cX4_read 43 = .ok (.invokevirtual 250, 3) := by decide +kernel
theorem dX4_read_46 : decode cX4_read 46 = .ok (.iconst 0, 1) := by decide +kernel
theorem dX4_read_47 : decode cX4_read 47 = .ok (.istore 5, 2) := by decide +kernel
theorem dX4_read_49 : decode cX4_read 49 = .ok (.iconst 0, 1) := by decide +kernel
theorem dX4_read_50 : decode cX4_read 50 = .ok (.istore 6, 2) := by decide +kernel
theorem dX4_read_52 : decode cX4_read 52 = .ok (.iconst 0, 1) := by decide +kernel
theorem dX4_read_53 : decode cX4_read 53 = .ok (.istore 7, 2) := by decide +kernel
theorem dX4_read_55 : decode cX4_read 55 = .ok (.iload 7, 2) := by decide +kernel
theorem dX4_read_57 : decode cX4_read 57 = .ok (.iconst 2, 1) := by decide +kernel
theorem dX4_read_58 : decode cX4_read 58 = .ok (.iload 4, 2) := by decide +kernel
theorem dX4_read_60 : decode cX4_read 60 = .ok (.imul, 1) := by decide +kernel
theorem dX4_read_61 : decode cX4_read 61 = .ok (.if_icmp .ge 135, 3) := by decide +kernel
theorem dX4_read_64 : decode cX4_read 64 = .ok (.iload 5, 2) := by decide +kernel
theorem dX4_read_66 : decode cX4_read 66 = .ok (.ifCond .ne 130, 3) := by decide +kernel
theorem dX4_read_69 : decode cX4_read 69 = .ok (.aload_n 0, 1) := by decide +kernel
theorem dX4_read_70 : decode cX4_read 70 = .ok (.getfield 48, 3) := by decide +kernel
theorem dX4_read_73 : decode cX4_read 73 = .ok (.iload_n 1, 1) := by decide +kernel
theorem dX4_read_74 : decode cX4_read 74 = .ok (.iaload, 1) := by decide +kernel
theorem dX4_read_75 : decode cX4_read 75 = .ok (.bipush (-4), 2) := by decide +kernel
theorem dX4_read_77 : decode cX4_read 77 = .ok (.if_icmp .ne 7, 3) := by decide +kernel
theorem dX4_read_80 : decode cX4_read 80 = .ok (.iconst 1, 1) := by decide +kernel
theorem dX4_read_81 : decode cX4_read 81 = .ok (.goto 44, 3) := by decide +kernel
theorem dX4_read_84 : decode cX4_read 84 = .ok (.aload_n 0, 1) := by decide +kernel
theorem dX4_read_85 : decode cX4_read 85 = .ok (.getfield 48, 3) := by decide +kernel
theorem dX4_read_88 : decode cX4_read 88 = .ok (.iload_n 1, 1) := by decide +kernel
theorem dX4_read_89 : decode cX4_read 89 = .ok (.iaload, 1) := by decide +kernel
theorem dX4_read_90 : decode cX4_read 90 = .ok (.iload_n 2, 1) := by decide +kernel
theorem dX4_read_91 : decode cX4_read 91 = .ok (.if_icmp .eq 7, 3) := by decide +kernel
theorem dX4_read_94 : decode cX4_read 94 = .ok (.iconst 3, 1) := by decide +kernel
theorem dX4_read_95 : decode cX4_read 95 = .ok (.goto 30, 3) := by decide +kernel
theorem dX4_read_98 : decode cX4_read 98 = .ok (.iload_n 3, 1) := by decide +kernel
theorem dX4_read_99 : decode cX4_read 99 = .ok (.i2l, 1) := by decide +kernel
theorem dX4_read_100 : decode cX4_read 100 = .ok (.iload 7, 2) := by decide +kernel
theorem dX4_read_102 : decode cX4_read 102 = .ok (.i2l, 1) := by decide +kernel
theorem dX4_read_103 : decode cX4_read 103 = .ok (.ladd, 1) := by decide +kernel
theorem dX4_read_104 : decode cX4_read 104 = .ok (.lconst 0, 1) := by decide +kernel
theorem dX4_read_105 : decode cX4_read 105 = .ok (.aload_n 0, 1) := by decide +kernel
theorem dX4_read_106 : decode cX4_read 106 = .ok (.getfield 51, 3) := by decide +kernel
theorem dX4_read_109 : decode cX4_read 109 = .ok (.iload_n 1, 1) := by decide +kernel
theorem dX4_read_110 : decode cX4_read 110 = .ok (.iaload, 1) := by decide +kernel
theorem dX4_read_111 : decode cX4_read 111 = .ok (.iconst 1, 1) := by decide +kernel
theorem dX4_read_112 : decode cX4_read 112 = .ok (.isub, 1) := by decide +kernel
theorem dX4_read_113 : decode cX4_read 113 = .ok (.i2l, 1) := by decide +kernel
theorem dX4_read_114 : decode cX4_read 114 = .ok (.invokestatic 59, 3) := by decide +kernel
theorem dX4_read_117 : decode cX4_read 117 = .ok (.ifCond .ne 7, 3) := by decide +kernel
theorem dX4_read_120 : decode cX4_read 120 = .ok (.iconst 2, 1) := by decide +kernel
theorem dX4_read_121 : decode cX4_read 121 = .ok (.goto 4, 3) := by decide +kernel
theorem dX4_read_124 : decode cX4_read 124 = .ok (.iconst 0, 1) := by decide +kernel
theorem dX4_read_125 : decode cX4_read 125 = .ok (.istore 5, 2) := by decide +kernel
theorem dX4_read_127 : decode cX4_read 127 = .ok (.iload 5, 2) := by decide +kernel
theorem dX4_read_129 : decode cX4_read 129 = .ok (.ifCond .ne 61, 3) := by decide +kernel
theorem dX4_read_132 : decode cX4_read 132 = .ok (.iload 7, 2) := by decide +kernel
theorem dX4_read_134 : decode cX4_read 134 = .ok (.iconst 2, 1) := by decide +kernel
theorem dX4_read_135 : decode cX4_read 135 = .ok (.irem, 1) := by decide +kernel
theorem dX4_read_136 : decode cX4_read 136 = .ok (.iconst 1, 1) := by decide +kernel
theorem dX4_read_137 : decode cX4_read 137 = .ok (.if_icmp .ne 53, 3) := by decide +kernel
theorem dX4_read_140 : decode cX4_read 140 = .ok (.bipush 40, 2) := by decide +kernel
theorem dX4_read_142 : decode cX4_read 142 = .ok (.iload_n 1, 1) := by decide +kernel
theorem dX4_read_143 : decode cX4_read 143 = .ok (.imul, 1) := by decide +kernel
theorem dX4_read_144 : decode cX4_read 144 = .ok (.iload_n 3, 1) := by decide +kernel
theorem dX4_read_145 : decode cX4_read 145 = .ok (.iadd, 1) := by decide +kernel
theorem dX4_read_146 : decode cX4_read 146 = .ok (.iload 7, 2) := by decide +kernel
theorem dX4_read_148 : decode cX4_read 148 = .ok (.iadd, 1) := by decide +kernel
theorem dX4_read_149 : decode cX4_read 149 = .ok (.istore 8, 2) := by decide +kernel
theorem dX4_read_151 : decode cX4_read 151 = .ok (.aload_n 0, 1) := by decide +kernel
theorem dX4_read_152 : decode cX4_read 152 = .ok (.aload_n 0, 1) := by decide +kernel
theorem dX4_read_153 : decode cX4_read 153 = .ok (.getfield 54, 3) := by decide +kernel
theorem dX4_read_156 : decode cX4_read 156 = .ok (.iload 8, 2) := by decide +kernel
theorem dX4_read_158 : decode cX4_read 158 = .ok (.iconst 1, 1) := by decide +kernel
theorem dX4_read_159 : decode cX4_read 159 = .ok (.isub, 1) := by decide +kernel
theorem dX4_read_160 : decode cX4_read 160 = .ok (.iaload, 1) := by decide +kernel
theorem dX4_read_161 : decode cX4_read 161 = .ok (.aload_n 0, 1) := by decide +kernel
theorem dX4_read_162 : decode cX4_read 162 = .ok (.getfield 54, 3) := by decide +kernel
theorem dX4_read_165 : decode cX4_read 165 = .ok (.iload 8, 2) := by decide +kernel
theorem dX4_read_167 : decode cX4_read 167 = .ok (.iaload, 1) := by decide +kernel
theorem dX4_read_168 : decode cX4_read 168 = .ok (.invokevirtual 206, 3) := by decide +kernel
theorem dX4_read_171 : decode cX4_read 171 = .ok (.ifCond .ge 16, 3) := by decide +kernel
theorem dX4_read_174 : decode cX4_read 174 = .ok (.aload_n 0, 1) := by decide +kernel
theorem dX4_read_175 : decode cX4_read 175 = .ok (.bipush 60, 2) := by decide +kernel
theorem dX4_read_177 : decode cX4_read 177 = .ok (.iconst 0, 1) := by decide +kernel
theorem dX4_read_178 : decode cX4_read 178 = .ok (.invokevirtual 250, 3) := by decide +kernel
theorem dX4_read_181 : decode cX4_read 181 = .ok (.bipush (-20), 2) := by decide +kernel
theorem dX4_read_183 : decode cX4_read 183 = .ok (.iload 6, 2) := by decide +kernel
theorem dX4_read_185 : decode cX4_read 185 = .ok (.isub, 1) := by decide +kernel
theorem dX4_read_186 : decode cX4_read 186 = .ok (.ireturn, 1) := by decide +kernel
theorem dX4_read_187 : decode cX4_read 187 = .ok (.iinc 6 1, 3) := by decide +kernel
theorem dX4_read_190 : decode cX4_read 190 = .ok (.iinc 7 1, 3) := by decide +kernel
theorem dX4_read_193 : decode cX4_read 193 = .ok (.goto (-138), 3) := by decide +kernel
theorem dX4_read_196 : decode cX4_read 196 = .ok (.aload_n 0, 1) := by decide +kernel
theorem dX4_read_197 : decode cX4_read 197 = .ok (.iload 5, 2) := by decide +kernel
theorem dX4_read_199 : decode cX4_read 199 = .ok (.putfield 285, 3) := by decide +kernel
theorem dX4_read_202 : decode cX4_read 202 = .ok (.iload 6, 2) := by decide +kernel
theorem dX4_read_204 : decode cX4_read 204 = .ok (.ireturn, 1) := by decide +kernel
theorem dX4_torn_0 : decode cX4_torn 0 = .ok (.aload_n 0, 1) := by decide +kernel
theorem dX4_torn_1 : decode cX4_torn 1 = .ok (.getfield 285, 3) := by decide +kernel
theorem dX4_torn_4 : decode cX4_torn 4 = .ok (.ireturn, 1) := by decide +kernel
theorem dX4_count_0 : decode cX4_count 0 = .ok (.iconst 0, 1) := by decide +kernel
theorem dX4_count_1 : decode cX4_count 1 = .ok (.istore_n 2, 1) := by decide +kernel
theorem dX4_count_2 : decode cX4_count 2 = .ok (.iconst 0, 1) := by decide +kernel
theorem dX4_count_3 : decode cX4_count 3 = .ok (.istore_n 3, 1) := by decide +kernel
theorem dX4_count_4 : decode cX4_count 4 = .ok (.iconst 0, 1) := by decide +kernel
theorem dX4_count_5 : decode cX4_count 5 = .ok (.istore 4, 2) := by decide +kernel
theorem dX4_count_7 : decode cX4_count 7 = .ok (.iload 4, 2) := by decide +kernel
theorem dX4_count_9 : decode cX4_count 9 = .ok (.aload_n 0, 1) := by decide +kernel
theorem dX4_count_10 : decode cX4_count 10 = .ok (.getfield 150, 3) := by decide +kernel
theorem dX4_count_13 : decode cX4_count 13 = .ok (.if_icmp .ge 21, 3) := by decide +kernel
theorem dX4_count_16 : decode cX4_count 16 = .ok (.iload_n 2, 1) := by decide +kernel
theorem dX4_count_17 : decode cX4_count 17 = .ok (.aload_n 0, 1) := by decide +kernel
theorem dX4_count_18 : decode cX4_count 18 = .ok (.getfield 7, 3) := by decide +kernel
theorem dX4_count_21 : decode cX4_count 21 = .ok (.iconst 4, 1) := by decide +kernel
theorem dX4_count_22 : decode cX4_count 22 = .ok (.iload 4, 2) := by decide +kernel
theorem dX4_count_24 : decode cX4_count 24 = .ok (.iadd, 1) := by decide +kernel
theorem dX4_count_25 : decode cX4_count 25 = .ok (.iaload, 1) := by decide +kernel
theorem dX4_count_26 : decode cX4_count 26 = .ok (.iadd, 1) := by decide +kernel
theorem dX4_count_27 : decode cX4_count 27 = .ok (.istore_n 2, 1) := by decide +kernel
theorem dX4_count_28 : decode cX4_count 28 = .ok (.iinc 4 1, 3) := by decide +kernel
theorem dX4_count_31 : decode cX4_count 31 = .ok (.goto (-24), 3) := by decide +kernel
theorem dX4_count_34 : decode cX4_count 34 = .ok (.iconst 0, 1) := by decide +kernel
theorem dX4_count_35 : decode cX4_count 35 = .ok (.istore 4, 2) := by decide +kernel
theorem dX4_count_37 : decode cX4_count 37 = .ok (.iload 4, 2) := by decide +kernel
theorem dX4_count_39 : decode cX4_count 39 = .ok (.aload_n 0, 1) := by decide +kernel
theorem dX4_count_40 : decode cX4_count 40 = .ok (.getfield 153, 3) := by decide +kernel
theorem dX4_count_43 : decode cX4_count 43 = .ok (.if_icmp .ge 24, 3) := by decide +kernel
theorem dX4_count_46 : decode cX4_count 46 = .ok (.iload_n 3, 1) := by decide +kernel
theorem dX4_count_47 : decode cX4_count 47 = .ok (.iconst 1, 1) := by decide +kernel
theorem dX4_count_48 : decode cX4_count 48 = .ok (.aload_n 0, 1) := by decide +kernel
theorem dX4_count_49 : decode cX4_count 49 = .ok (.getfield 7, 3) := by decide +kernel
theorem dX4_count_52 : decode cX4_count 52 = .ok (.bipush 14, 2) := by decide +kernel
theorem dX4_count_54 : decode cX4_count 54 = .ok (.iload 4, 2) := by decide +kernel
theorem dX4_count_56 : decode cX4_count 56 = .ok (.iadd, 1) := by decide +kernel
theorem dX4_count_57 : decode cX4_count 57 = .ok (.iaload, 1) := by decide +kernel
theorem dX4_count_58 : decode cX4_count 58 = .ok (.isub, 1) := by decide +kernel
theorem dX4_count_59 : decode cX4_count 59 = .ok (.iadd, 1) := by decide +kernel
theorem dX4_count_60 : decode cX4_count 60 = .ok (.istore_n 3, 1) := by decide +kernel
theorem dX4_count_61 : decode cX4_count 61 = .ok (.iinc 4 1, 3) := by decide +kernel
theorem dX4_count_64 : decode cX4_count 64 = .ok (.goto (-27), 3) := by decide +kernel
theorem dX4_count_67 : decode cX4_count 67 = .ok (.iload_n 1, 1) := by decide +kernel
theorem dX4_count_68 : decode cX4_count 68 = .ok (.tableswitch 117 0 6 #[44, 49, 79, 84, 107, 113, 115], 44) := by decide +kernel
theorem dX4_count_112 : decode cX4_count 112 = .ok (.aload_n 0, 1) := by decide +kernel
theorem dX4_count_113 : decode cX4_count 113 = .ok (.getfield 162, 3) := by decide +kernel
theorem dX4_count_116 : decode cX4_count 116 = .ok (.ireturn, 1) := by decide +kernel
theorem dX4_count_117 : decode cX4_count 117 = .ok (.aload_n 0, 1) := by decide +kernel
theorem dX4_count_118 : decode cX4_count 118 = .ok (.getfield 44, 3) := by decide +kernel
theorem dX4_count_121 : decode cX4_count 121 = .ok (.iconst 0, 1) := by decide +kernel
theorem dX4_count_122 : decode cX4_count 122 = .ok (.baload, 1) := by decide +kernel
theorem dX4_count_123 : decode cX4_count 123 = .ok (.ifCond .eq 7, 3) := by decide +kernel
theorem dX4_count_126 : decode cX4_count 126 = .ok (.iconst 1, 1) := by decide +kernel
theorem dX4_count_127 : decode cX4_count 127 = .ok (.goto 4, 3) := by decide +kernel
theorem dX4_count_130 : decode cX4_count 130 = .ok (.iconst 0, 1) := by decide +kernel
theorem dX4_count_131 : decode cX4_count 131 = .ok (.aload_n 0, 1) := by decide +kernel
theorem dX4_count_132 : decode cX4_count 132 = .ok (.getfield 44, 3) := by decide +kernel
theorem dX4_count_135 : decode cX4_count 135 = .ok (.iconst 1, 1) := by decide +kernel
theorem dX4_count_136 : decode cX4_count 136 = .ok (.baload, 1) := by decide +kernel
theorem dX4_count_137 : decode cX4_count 137 = .ok (.ifCond .eq 7, 3) := by decide +kernel
theorem dX4_count_140 : decode cX4_count 140 = .ok (.iconst 1, 1) := by decide +kernel
theorem dX4_count_141 : decode cX4_count 141 = .ok (.goto 4, 3) := by decide +kernel
theorem dX4_count_144 : decode cX4_count 144 = .ok (.iconst 0, 1) := by decide +kernel
theorem dX4_count_145 : decode cX4_count 145 = .ok (.iadd, 1) := by decide +kernel
theorem dX4_count_146 : decode cX4_count 146 = .ok (.ireturn, 1) := by decide +kernel
theorem dX4_count_147 : decode cX4_count 147 = .ok (.aload_n 0, 1) := by decide +kernel
theorem dX4_count_148 : decode cX4_count 148 = .ok (.getfield 63, 3) := by decide +kernel
theorem dX4_count_151 : decode cX4_count 151 = .ok (.ireturn, 1) := by decide +kernel
theorem dX4_count_152 : decode cX4_count 152 = .ok (.aload_n 0, 1) := by decide +kernel
theorem dX4_count_153 : decode cX4_count 153 = .ok (.getfield 48, 3) := by decide +kernel
theorem dX4_count_156 : decode cX4_count 156 = .ok (.iconst 0, 1) := by decide +kernel
theorem dX4_count_157 : decode cX4_count 157 = .ok (.iaload, 1) := by decide +kernel
theorem dX4_count_158 : decode cX4_count 158 = .ok (.bipush (-4), 2) := by decide +kernel
theorem dX4_count_160 : decode cX4_count 160 = .ok (.if_icmp .ne 8, 3) := by decide +kernel
theorem dX4_count_163 : decode cX4_count 163 = .ok (.bipush (-4), 2) := by decide +kernel
theorem dX4_count_165 : decode cX4_count 165 = .ok (.goto 9, 3) := by decide +kernel
theorem dX4_count_168 : decode cX4_count 168 = .ok (.aload_n 0, 1) := by decide +kernel
theorem dX4_count_169 : decode cX4_count 169 = .ok (.getfield 51, 3) := by decide +kernel
theorem dX4_count_172 : decode cX4_count 172 = .ok (.iconst 0, 1) := by decide +kernel
theorem dX4_count_173 : decode cX4_count 173 = .ok (.iaload, 1) := by decide +kernel
theorem dX4_count_174 : decode cX4_count 174 = .ok (.ireturn, 1) := by decide +kernel
theorem dX4_count_175 : decode cX4_count 175 = .ok (.aload_n 0, 1) := by decide +kernel
theorem dX4_count_176 : decode cX4_count 176 = .ok (.iconst 0, 1) := by decide +kernel
theorem dX4_count_177 : decode cX4_count 177 = .ok (.invokevirtual 218, 3) := by decide +kernel
theorem dX4_count_180 : decode cX4_count 180 = .ok (.ireturn, 1) := by decide +kernel
theorem dX4_count_181 : decode cX4_count 181 = .ok (.iload_n 2, 1) := by decide +kernel
theorem dX4_count_182 : decode cX4_count 182 = .ok (.ireturn, 1) := by decide +kernel
theorem dX4_count_183 : decode cX4_count 183 = .ok (.iload_n 3, 1) := by decide +kernel
theorem dX4_count_184 : decode cX4_count 184 = .ok (.ireturn, 1) := by decide +kernel
theorem dX4_count_185 : decode cX4_count 185 = .ok (.iconst (-1), 1) := by decide +kernel
theorem dX4_count_186 : decode cX4_count 186 = .ok (.ireturn, 1) := by decide +kernel
end
section
def zGW : List Cond := lw_tbl.filter goodWord
theorem zin_of {w : Cond} (i : Nat) (h : lw_tbl[i]? = some w) (g : goodWord w = true) : w ∈ zGW := List.mem_filter.mpr ⟨List.mem_of_getElem? h, g⟩
theorem zin_list (ws : List Cond) (ps : List Nat) (hp : ws = ps.filterMap (fun i => lw_tbl[i]?)) (h : ws.all goodWord = true) : ∀ w ∈ ws, w ∈ zGW := by
  intro w hw
  have h1 := List.all_eq_true.mp h w hw
  rw [hp] at hw
  obtain ⟨i, -, hi⟩ := List.mem_filterMap.mp hw
  exact List.mem_filter.mpr ⟨List.mem_of_getElem? hi, h1⟩
theorem zGW_tbl : ∀ w ∈ zGW, w ∈ lw_tbl := fun w h => (List.mem_filter.mp h).1
theorem zGW_good {y : MethodName} {c : ByteArray} {n : Nat} {r : Option FieldType} (h : Cond.code y c n r ∈ zGW) : GoodIn zGW (Cond.code y c n r :: zGW) := by
  intro w hw
  have hm : w ∈ zGW := (List.mem_cons.mp hw).elim (fun e => e ▸ h) id
  exact ⟨hm, good_of_word (List.mem_filter.mp hm).2⟩
theorem zw_sel_X3_isOne : Cond.selects RX3 yX3_isOne yX3_isOne ∈ zGW := zin_of 0 (by decide +kernel) (by decide +kernel)
theorem zw_sel_X3_isWell : Cond.selects RX3 yX3_isWell yX3_isWell ∈ zGW := zin_of 1 (by decide +kernel) (by decide +kernel)
theorem zw_sel_X3_weightOf : Cond.selects RX3 yX3_weightOf yX3_weightOf ∈ zGW := zin_of 2 (by decide +kernel) (by decide +kernel)
theorem zw_sel_X3_arrivingBy : Cond.selects RX3 yX3_arrivingBy yX3_arrivingBy ∈ zGW := zin_of 3 (by decide +kernel) (by decide +kernel)
theorem zw_sel_X3_isAsSeen : Cond.selects RX3 yX3_isAsSeen yX3_isAsSeen ∈ zGW := zin_of 4 (by decide +kernel) (by decide +kernel)
theorem zw_sel_X3_lastHourSeen : Cond.selects RX3 yX3_lastHourSeen yX3_lastHourSeen ∈ zGW := zin_of 5 (by decide +kernel) (by decide +kernel)
theorem zw_sel_X3_isAsSeenBehind : Cond.selects RX3 yX3_isAsSeenBehind yX3_isAsSeenBehind ∈ zGW := zin_of 6 (by decide +kernel) (by decide +kernel)
theorem zw_sel_X4_step : Cond.selects RX4 yX4_step yX4_step ∈ zGW := zin_of 7 (by decide +kernel) (by decide +kernel)
theorem zw_sel_X4_byteAt : Cond.selects RX4 yX4_byteAt yX4_byteAt ∈ zGW := zin_of 8 (by decide +kernel) (by decide +kernel)
theorem zw_sel_X4_fails : Cond.selects RX4 yX4_fails yX4_fails ∈ zGW := zin_of 9 (by decide +kernel) (by decide +kernel)
theorem zw_sel_X4_readLine : Cond.selects RX4 yX4_readLine yX4_readLine ∈ zGW := zin_of 10 (by decide +kernel) (by decide +kernel)
theorem zw_sel_X4_nameHere : Cond.selects RX4 yX4_nameHere yX4_nameHere ∈ zGW := zin_of 11 (by decide +kernel) (by decide +kernel)
theorem zw_sel_X4_readOnce : Cond.selects RX4 yX4_readOnce yX4_readOnce ∈ zGW := zin_of 12 (by decide +kernel) (by decide +kernel)
theorem zw_sel_X4_number : Cond.selects RX4 yX4_number yX4_number ∈ zGW := zin_of 13 (by decide +kernel) (by decide +kernel)
theorem zw_sel_X4_named : Cond.selects RX4 yX4_named yX4_named ∈ zGW := zin_of 14 (by decide +kernel) (by decide +kernel)
theorem zw_sel_X4_readMore : Cond.selects RX4 yX4_readMore yX4_readMore ∈ zGW := zin_of 15 (by decide +kernel) (by decide +kernel)
theorem zw_sel_X4_hourOn : Cond.selects RX4 yX4_hourOn yX4_hourOn ∈ zGW := zin_of 16 (by decide +kernel) (by decide +kernel)
theorem zw_sel_X4_isOne : Cond.selects RX4 yX4_isOne yX4_isOne ∈ zGW := zin_of 17 (by decide +kernel) (by decide +kernel)
theorem zw_sel_X4_isDown : Cond.selects RX4 yX4_isDown yX4_isDown ∈ zGW := zin_of 18 (by decide +kernel) (by decide +kernel)
theorem zw_sel_X4_wantOf : Cond.selects RX4 yX4_wantOf yX4_wantOf ∈ zGW := zin_of 19 (by decide +kernel) (by decide +kernel)
theorem zw_sel_X4_pourer : Cond.selects RX4 yX4_pourer yX4_pourer ∈ zGW := zin_of 20 (by decide +kernel) (by decide +kernel)
theorem zw_sel_X4_isWell : Cond.selects RX4 yX4_isWell yX4_isWell ∈ zGW := zin_of 21 (by decide +kernel) (by decide +kernel)
theorem zw_sel_X4_lossOf : Cond.selects RX4 yX4_lossOf yX4_lossOf ∈ zGW := zin_of 22 (by decide +kernel) (by decide +kernel)
theorem zw_sel_X4_isDay : Cond.selects RX4 yX4_isDay yX4_isDay ∈ zGW := zin_of 23 (by decide +kernel) (by decide +kernel)
theorem zw_sel_X4_sets : Cond.selects RX4 yX4_sets yX4_sets ∈ zGW := zin_of 24 (by decide +kernel) (by decide +kernel)
theorem zw_sel_X4_drinks : Cond.selects RX4 yX4_drinks yX4_drinks ∈ zGW := zin_of 25 (by decide +kernel) (by decide +kernel)
theorem zw_sel_X4_goesOn : Cond.selects RX4 yX4_goesOn yX4_goesOn ∈ zGW := zin_of 26 (by decide +kernel) (by decide +kernel)
theorem zw_sel_X4_isWalking : Cond.selects RX4 yX4_isWalking yX4_isWalking ∈ zGW := zin_of 27 (by decide +kernel) (by decide +kernel)
theorem zw_sel_X4_anHour : Cond.selects RX4 yX4_anHour yX4_anHour ∈ zGW := zin_of 28 (by decide +kernel) (by decide +kernel)
theorem zw_sel_X4_isOver : Cond.selects RX4 yX4_isOver yX4_isOver ∈ zGW := zin_of 29 (by decide +kernel) (by decide +kernel)
theorem zw_sel_X4_upOn : Cond.selects RX4 yX4_upOn yX4_upOn ∈ zGW := zin_of 30 (by decide +kernel) (by decide +kernel)
theorem zw_sel_X4_fillsOn : Cond.selects RX4 yX4_fillsOn yX4_fillsOn ∈ zGW := zin_of 31 (by decide +kernel) (by decide +kernel)
theorem zw_sel_X4_allDrink : Cond.selects RX4 yX4_allDrink yX4_allDrink ∈ zGW := zin_of 32 (by decide +kernel) (by decide +kernel)
theorem zw_sel_X4_givesTo : Cond.selects RX4 yX4_givesTo yX4_givesTo ∈ zGW := zin_of 33 (by decide +kernel) (by decide +kernel)
theorem zw_sel_X4_walksOn : Cond.selects RX4 yX4_walksOn yX4_walksOn ∈ zGW := zin_of 34 (by decide +kernel) (by decide +kernel)
theorem zw_sel_X4_copies : Cond.selects RX4 yX4_copies yX4_copies ∈ zGW := zin_of 35 (by decide +kernel) (by decide +kernel)
theorem zw_sel_X4_arriveFrom : Cond.selects RX4 yX4_arriveFrom yX4_arriveFrom ∈ zGW := zin_of 36 (by decide +kernel) (by decide +kernel)
theorem zw_sel_X4_sumBy : Cond.selects RX4 yX4_sumBy yX4_sumBy ∈ zGW := zin_of 37 (by decide +kernel) (by decide +kernel)
theorem zw_sel_X4_tens : Cond.selects RX4 yX4_tens yX4_tens ∈ zGW := zin_of 38 (by decide +kernel) (by decide +kernel)
theorem zw_sel_X4_allKinds : Cond.selects RX4 yX4_allKinds yX4_allKinds ∈ zGW := zin_of 39 (by decide +kernel) (by decide +kernel)
theorem zw_sel_X4_isAsSeen : Cond.selects RX4 yX4_isAsSeen yX4_isAsSeen ∈ zGW := zin_of 40 (by decide +kernel) (by decide +kernel)
theorem zw_sel_X4_kindOf : Cond.selects RX4 yX4_kindOf yX4_kindOf ∈ zGW := zin_of 41 (by decide +kernel) (by decide +kernel)
theorem zw_ini_L : Cond.initialized RL ∈ zGW := zin_of 42 (by decide +kernel) (by decide +kernel)
theorem zw_ini_X3 : Cond.initialized RX3 ∈ zGW := zin_of 43 (by decide +kernel) (by decide +kernel)
theorem zw_ini_X0 : Cond.initialized RX0 ∈ zGW := zin_of 44 (by decide +kernel) (by decide +kernel)
theorem zw_ini_X2 : Cond.initialized RX2 ∈ zGW := zin_of 45 (by decide +kernel) (by decide +kernel)
theorem zw_ini_X1 : Cond.initialized RX1 ∈ zGW := zin_of 46 (by decide +kernel) (by decide +kernel)
theorem zw_ini_X4 : Cond.initialized RX4 ∈ zGW := zin_of 47 (by decide +kernel) (by decide +kernel)
theorem zw_ini_J9 : Cond.initialized RJ9 ∈ zGW := zin_of 48 (by decide +kernel) (by decide +kernel)
theorem zw_ini_J0 : Cond.initialized RJ0 ∈ zGW := zin_of 49 (by decide +kernel) (by decide +kernel)
theorem zw_ini_J1 : Cond.initialized RJ1 ∈ zGW := zin_of 50 (by decide +kernel) (by decide +kernel)
theorem zw_ini_J3 : Cond.initialized RJ3 ∈ zGW := zin_of 51 (by decide +kernel) (by decide +kernel)
theorem zw_ini_J2 : Cond.initialized RJ2 ∈ zGW := zin_of 52 (by decide +kernel) (by decide +kernel)
theorem zw_cl_L_7 : Cond.classLink RL 7 RX3 ∈ zGW := zin_of 53 (by decide +kernel) (by decide +kernel)
theorem zw_ins_X3 : Cond.instantiable RX3 14 ∈ zGW := zin_of 54 (by decide +kernel) (by decide +kernel)
theorem zw_ml_L_9 : Cond.methodLink RL 9 yX3_init ∈ zGW := zin_of 55 (by decide +kernel) (by decide +kernel)
theorem zw_im_X3_init : Cond.instanceMethod yX3_init ∈ zGW := zin_of 56 (by decide +kernel) (by decide +kernel)
set_option maxRecDepth 100000 in
theorem zw_cd_X3_init : Cond.code yX3_init cX3_init 1 none ∈ zGW := zin_of 57 (rfl) (by decide +kernel)
theorem zw_ml_X3_1 : Cond.methodLink RX3 1 objectInit ∈ zGW := zin_of 58 (by decide +kernel) (by decide +kernel)
theorem zw_im_objectInit : Cond.instanceMethod objectInit ∈ zGW := zin_of 59 (by decide +kernel) (by decide +kernel)
set_option maxRecDepth 100000 in
theorem zw_cd_objectInit : Cond.code objectInit ⟨#[0xb1]⟩ 1 none ∈ zGW := zin_of 60 (rfl) (by decide +kernel)
theorem zw_cl_X3_20 : Cond.classLink RX3 20 RX0 ∈ zGW := zin_of 61 (by decide +kernel) (by decide +kernel)
theorem zw_ins_X0 : Cond.instantiable RX0 16 ∈ zGW := zin_of 62 (by decide +kernel) (by decide +kernel)
theorem zw_im_X0_init : Cond.instanceMethod yX0_init ∈ zGW := zin_of 64 (by decide +kernel) (by decide +kernel)
set_option maxRecDepth 100000 in
theorem zw_cd_X0_init : Cond.code yX0_init cX0_init 1 none ∈ zGW := zin_of 65 (rfl) (by decide +kernel)
theorem zw_ml_X0_3 : Cond.methodLink RX0 3 objectInit ∈ zGW := zin_of 66 (by decide +kernel) (by decide +kernel)
theorem zw_fl_X0_9 : Cond.fieldLink RX0 9 (TX0 0).1 (TX0 0).2.1 (TX0 0).2.2.1 ∈ zGW := zin_of 67 (by decide +kernel) (by decide +kernel)
theorem zw_fl_X3_91 : Cond.fieldLink RX3 91 (TX0 0).1 (TX0 0).2.1 (TX0 0).2.2.1 ∈ zGW := zin_of 68 (by decide +kernel) (by decide +kernel)
theorem zw_fl_X2_149 : Cond.fieldLink RX2 149 (TX0 0).1 (TX0 0).2.1 (TX0 0).2.2.1 ∈ zGW := zin_of 69 (by decide +kernel) (by decide +kernel)
theorem zw_fl_X0_15 : Cond.fieldLink RX0 15 (TX0 1).1 (TX0 1).2.1 (TX0 1).2.2.1 ∈ zGW := zin_of 70 (by decide +kernel) (by decide +kernel)
theorem zw_fl_X3_122 : Cond.fieldLink RX3 122 (TX0 1).1 (TX0 1).2.1 (TX0 1).2.2.1 ∈ zGW := zin_of 71 (by decide +kernel) (by decide +kernel)
theorem zw_fl_X2_155 : Cond.fieldLink RX2 155 (TX0 1).1 (TX0 1).2.1 (TX0 1).2.2.1 ∈ zGW := zin_of 72 (by decide +kernel) (by decide +kernel)
theorem zw_fl_X0_19 : Cond.fieldLink RX0 19 (TX0 2).1 (TX0 2).2.1 (TX0 2).2.2.1 ∈ zGW := zin_of 73 (by decide +kernel) (by decide +kernel)
theorem zw_fl_X3_125 : Cond.fieldLink RX3 125 (TX0 2).1 (TX0 2).2.1 (TX0 2).2.2.1 ∈ zGW := zin_of 74 (by decide +kernel) (by decide +kernel)
theorem zw_fl_X2_162 : Cond.fieldLink RX2 162 (TX0 2).1 (TX0 2).2.1 (TX0 2).2.2.1 ∈ zGW := zin_of 75 (by decide +kernel) (by decide +kernel)
theorem zw_fl_X0_22 : Cond.fieldLink RX0 22 (TX0 3).1 (TX0 3).2.1 (TX0 3).2.2.1 ∈ zGW := zin_of 76 (by decide +kernel) (by decide +kernel)
theorem zw_fl_X3_128 : Cond.fieldLink RX3 128 (TX0 3).1 (TX0 3).2.1 (TX0 3).2.2.1 ∈ zGW := zin_of 77 (by decide +kernel) (by decide +kernel)
theorem zw_fl_X2_165 : Cond.fieldLink RX2 165 (TX0 3).1 (TX0 3).2.1 (TX0 3).2.2.1 ∈ zGW := zin_of 78 (by decide +kernel) (by decide +kernel)
theorem zw_fl_X0_25 : Cond.fieldLink RX0 25 (TX0 4).1 (TX0 4).2.1 (TX0 4).2.2.1 ∈ zGW := zin_of 79 (by decide +kernel) (by decide +kernel)
theorem zw_fl_X2_71 : Cond.fieldLink RX2 71 (TX0 4).1 (TX0 4).2.1 (TX0 4).2.2.1 ∈ zGW := zin_of 80 (by decide +kernel) (by decide +kernel)
theorem zw_fl_X3_94 : Cond.fieldLink RX3 94 (TX0 4).1 (TX0 4).2.1 (TX0 4).2.2.1 ∈ zGW := zin_of 81 (by decide +kernel) (by decide +kernel)
theorem zw_fl_X0_28 : Cond.fieldLink RX0 28 (TX0 5).1 (TX0 5).2.1 (TX0 5).2.2.1 ∈ zGW := zin_of 82 (by decide +kernel) (by decide +kernel)
theorem zw_fl_X3_138 : Cond.fieldLink RX3 138 (TX0 5).1 (TX0 5).2.1 (TX0 5).2.2.1 ∈ zGW := zin_of 83 (by decide +kernel) (by decide +kernel)
theorem zw_fl_X2_178 : Cond.fieldLink RX2 178 (TX0 5).1 (TX0 5).2.1 (TX0 5).2.2.1 ∈ zGW := zin_of 84 (by decide +kernel) (by decide +kernel)
theorem zw_fl_X0_31 : Cond.fieldLink RX0 31 (TX0 6).1 (TX0 6).2.1 (TX0 6).2.2.1 ∈ zGW := zin_of 85 (by decide +kernel) (by decide +kernel)
theorem zw_fl_X3_141 : Cond.fieldLink RX3 141 (TX0 6).1 (TX0 6).2.1 (TX0 6).2.2.1 ∈ zGW := zin_of 86 (by decide +kernel) (by decide +kernel)
theorem zw_fl_X2_181 : Cond.fieldLink RX2 181 (TX0 6).1 (TX0 6).2.1 (TX0 6).2.2.1 ∈ zGW := zin_of 87 (by decide +kernel) (by decide +kernel)
theorem zw_fl_X0_34 : Cond.fieldLink RX0 34 (TX0 7).1 (TX0 7).2.1 (TX0 7).2.2.1 ∈ zGW := zin_of 88 (by decide +kernel) (by decide +kernel)
theorem zw_fl_X3_144 : Cond.fieldLink RX3 144 (TX0 7).1 (TX0 7).2.1 (TX0 7).2.2.1 ∈ zGW := zin_of 89 (by decide +kernel) (by decide +kernel)
theorem zw_fl_X2_184 : Cond.fieldLink RX2 184 (TX0 7).1 (TX0 7).2.1 (TX0 7).2.2.1 ∈ zGW := zin_of 90 (by decide +kernel) (by decide +kernel)
theorem zw_fl_X0_37 : Cond.fieldLink RX0 37 (TX0 8).1 (TX0 8).2.1 (TX0 8).2.2.1 ∈ zGW := zin_of 91 (by decide +kernel) (by decide +kernel)
theorem zw_fl_X2_78 : Cond.fieldLink RX2 78 (TX0 8).1 (TX0 8).2.1 (TX0 8).2.2.1 ∈ zGW := zin_of 92 (by decide +kernel) (by decide +kernel)
theorem zw_fl_X3_147 : Cond.fieldLink RX3 147 (TX0 8).1 (TX0 8).2.1 (TX0 8).2.2.1 ∈ zGW := zin_of 93 (by decide +kernel) (by decide +kernel)
theorem zw_fl_X0_41 : Cond.fieldLink RX0 41 (TX0 9).1 (TX0 9).2.1 (TX0 9).2.2.1 ∈ zGW := zin_of 94 (by decide +kernel) (by decide +kernel)
theorem zw_fl_X3_106 : Cond.fieldLink RX3 106 (TX0 9).1 (TX0 9).2.1 (TX0 9).2.2.1 ∈ zGW := zin_of 95 (by decide +kernel) (by decide +kernel)
theorem zw_fl_X2_187 : Cond.fieldLink RX2 187 (TX0 9).1 (TX0 9).2.1 (TX0 9).2.2.1 ∈ zGW := zin_of 96 (by decide +kernel) (by decide +kernel)
theorem zw_fl_X0_44 : Cond.fieldLink RX0 44 (TX0 10).1 (TX0 10).2.1 (TX0 10).2.2.1 ∈ zGW := zin_of 97 (by decide +kernel) (by decide +kernel)
theorem zw_fl_X3_97 : Cond.fieldLink RX3 97 (TX0 10).1 (TX0 10).2.1 (TX0 10).2.2.1 ∈ zGW := zin_of 98 (by decide +kernel) (by decide +kernel)
theorem zw_fl_X2_189 : Cond.fieldLink RX2 189 (TX0 10).1 (TX0 10).2.1 (TX0 10).2.2.1 ∈ zGW := zin_of 99 (by decide +kernel) (by decide +kernel)
theorem zw_fl_X0_47 : Cond.fieldLink RX0 47 (TX0 11).1 (TX0 11).2.1 (TX0 11).2.2.1 ∈ zGW := zin_of 100 (by decide +kernel) (by decide +kernel)
theorem zw_fl_X3_100 : Cond.fieldLink RX3 100 (TX0 11).1 (TX0 11).2.1 (TX0 11).2.2.1 ∈ zGW := zin_of 101 (by decide +kernel) (by decide +kernel)
theorem zw_fl_X0_50 : Cond.fieldLink RX0 50 (TX0 12).1 (TX0 12).2.1 (TX0 12).2.2.1 ∈ zGW := zin_of 102 (by decide +kernel) (by decide +kernel)
theorem zw_fl_X3_103 : Cond.fieldLink RX3 103 (TX0 12).1 (TX0 12).2.1 (TX0 12).2.2.1 ∈ zGW := zin_of 103 (by decide +kernel) (by decide +kernel)
theorem zw_fl_X2_191 : Cond.fieldLink RX2 191 (TX0 12).1 (TX0 12).2.1 (TX0 12).2.2.1 ∈ zGW := zin_of 104 (by decide +kernel) (by decide +kernel)
theorem zw_fl_X0_53 : Cond.fieldLink RX0 53 (TX0 13).1 (TX0 13).2.1 (TX0 13).2.2.1 ∈ zGW := zin_of 105 (by decide +kernel) (by decide +kernel)
theorem zw_fl_X3_109 : Cond.fieldLink RX3 109 (TX0 13).1 (TX0 13).2.1 (TX0 13).2.2.1 ∈ zGW := zin_of 106 (by decide +kernel) (by decide +kernel)
theorem zw_fl_X2_197 : Cond.fieldLink RX2 197 (TX0 13).1 (TX0 13).2.1 (TX0 13).2.2.1 ∈ zGW := zin_of 107 (by decide +kernel) (by decide +kernel)
theorem zw_fl_X0_56 : Cond.fieldLink RX0 56 (TX0 14).1 (TX0 14).2.1 (TX0 14).2.2.1 ∈ zGW := zin_of 108 (by decide +kernel) (by decide +kernel)
theorem zw_fl_X3_112 : Cond.fieldLink RX3 112 (TX0 14).1 (TX0 14).2.1 (TX0 14).2.2.1 ∈ zGW := zin_of 109 (by decide +kernel) (by decide +kernel)
theorem zw_fl_X2_207 : Cond.fieldLink RX2 207 (TX0 14).1 (TX0 14).2.1 (TX0 14).2.2.1 ∈ zGW := zin_of 110 (by decide +kernel) (by decide +kernel)
theorem zw_fl_X0_59 : Cond.fieldLink RX0 59 (TX0 15).1 (TX0 15).2.1 (TX0 15).2.2.1 ∈ zGW := zin_of 111 (by decide +kernel) (by decide +kernel)
theorem zw_fl_X3_115 : Cond.fieldLink RX3 115 (TX0 15).1 (TX0 15).2.1 (TX0 15).2.2.1 ∈ zGW := zin_of 112 (by decide +kernel) (by decide +kernel)
theorem zw_fl_X2_210 : Cond.fieldLink RX2 210 (TX0 15).1 (TX0 15).2.1 (TX0 15).2.2.1 ∈ zGW := zin_of 113 (by decide +kernel) (by decide +kernel)
theorem zw_ac_byte : Cond.arrayClass .byte ∈ zGW := zin_of 147 (by decide +kernel) (by decide +kernel)
theorem zw_ac_int : Cond.arrayClass .int ∈ zGW := zin_of 148 (by decide +kernel) (by decide +kernel)
theorem zw_ac_boolean : Cond.arrayClass .boolean ∈ zGW := zin_of 149 (by decide +kernel) (by decide +kernel)
theorem zw_cl_X3_33 : Cond.classLink RX3 33 RX2 ∈ zGW := zin_of 150 (by decide +kernel) (by decide +kernel)
theorem zw_ins_X2 : Cond.instantiable RX2 12 ∈ zGW := zin_of 151 (by decide +kernel) (by decide +kernel)
theorem zw_ml_X3_35 : Cond.methodLink RX3 35 yX2_init ∈ zGW := zin_of 152 (by decide +kernel) (by decide +kernel)
theorem zw_im_X2_init : Cond.instanceMethod yX2_init ∈ zGW := zin_of 153 (by decide +kernel) (by decide +kernel)
set_option maxRecDepth 100000 in
theorem zw_cd_X2_init : Cond.code yX2_init cX2_init 3 none ∈ zGW := zin_of 154 (rfl) (by decide +kernel)
theorem zw_ml_X2_3 : Cond.methodLink RX2 3 objectInit ∈ zGW := zin_of 155 (by decide +kernel) (by decide +kernel)
theorem zw_fl_X2_42 : Cond.fieldLink RX2 42 (TX2 0).1 (TX2 0).2.1 (TX2 0).2.2.1 ∈ zGW := zin_of 156 (by decide +kernel) (by decide +kernel)
theorem zw_fl_X2_46 : Cond.fieldLink RX2 46 (TX2 1).1 (TX2 1).2.1 (TX2 1).2.2.1 ∈ zGW := zin_of 157 (by decide +kernel) (by decide +kernel)
theorem zw_fl_X2_9 : Cond.fieldLink RX2 9 (TX2 2).1 (TX2 2).2.1 (TX2 2).2.2.1 ∈ zGW := zin_of 158 (by decide +kernel) (by decide +kernel)
theorem zw_fl_X2_15 : Cond.fieldLink RX2 15 (TX2 3).1 (TX2 3).2.1 (TX2 3).2.2.1 ∈ zGW := zin_of 159 (by decide +kernel) (by decide +kernel)
theorem zw_fl_X2_18 : Cond.fieldLink RX2 18 (TX2 4).1 (TX2 4).2.1 (TX2 4).2.2.1 ∈ zGW := zin_of 160 (by decide +kernel) (by decide +kernel)
theorem zw_fl_X2_21 : Cond.fieldLink RX2 21 (TX2 5).1 (TX2 5).2.1 (TX2 5).2.2.1 ∈ zGW := zin_of 161 (by decide +kernel) (by decide +kernel)
theorem zw_fl_X2_24 : Cond.fieldLink RX2 24 (TX2 6).1 (TX2 6).2.1 (TX2 6).2.2.1 ∈ zGW := zin_of 162 (by decide +kernel) (by decide +kernel)
theorem zw_fl_X2_27 : Cond.fieldLink RX2 27 (TX2 7).1 (TX2 7).2.1 (TX2 7).2.2.1 ∈ zGW := zin_of 163 (by decide +kernel) (by decide +kernel)
theorem zw_fl_X2_30 : Cond.fieldLink RX2 30 (TX2 8).1 (TX2 8).2.1 (TX2 8).2.2.1 ∈ zGW := zin_of 164 (by decide +kernel) (by decide +kernel)
theorem zw_fl_X2_33 : Cond.fieldLink RX2 33 (TX2 9).1 (TX2 9).2.1 (TX2 9).2.2.1 ∈ zGW := zin_of 165 (by decide +kernel) (by decide +kernel)
theorem zw_fl_X3_88 : Cond.fieldLink RX3 88 (TX2 9).1 (TX2 9).2.1 (TX2 9).2.2.1 ∈ zGW := zin_of 166 (by decide +kernel) (by decide +kernel)
theorem zw_fl_X2_36 : Cond.fieldLink RX2 36 (TX2 10).1 (TX2 10).2.1 (TX2 10).2.2.1 ∈ zGW := zin_of 167 (by decide +kernel) (by decide +kernel)
theorem zw_fl_X3_78 : Cond.fieldLink RX3 78 (TX2 10).1 (TX2 10).2.1 (TX2 10).2.2.1 ∈ zGW := zin_of 168 (by decide +kernel) (by decide +kernel)
theorem zw_fl_X2_39 : Cond.fieldLink RX2 39 (TX2 11).1 (TX2 11).2.1 (TX2 11).2.2.1 ∈ zGW := zin_of 169 (by decide +kernel) (by decide +kernel)
theorem zw_fl_X3_81 : Cond.fieldLink RX3 81 (TX2 11).1 (TX2 11).2.1 (TX2 11).2.2.1 ∈ zGW := zin_of 170 (by decide +kernel) (by decide +kernel)
theorem zw_cl_X3_60 : Cond.classLink RX3 60 RX1 ∈ zGW := zin_of 197 (by decide +kernel) (by decide +kernel)
theorem zw_ins_X1 : Cond.instantiable RX1 3 ∈ zGW := zin_of 199 (by decide +kernel) (by decide +kernel)
theorem zw_im_X1_init : Cond.instanceMethod yX1_init ∈ zGW := zin_of 201 (by decide +kernel) (by decide +kernel)
set_option maxRecDepth 100000 in
theorem zw_cd_X1_init : Cond.code yX1_init cX1_init 1 none ∈ zGW := zin_of 202 (rfl) (by decide +kernel)
theorem zw_ml_X1_3 : Cond.methodLink RX1 3 objectInit ∈ zGW := zin_of 203 (by decide +kernel) (by decide +kernel)
theorem zw_fl_X1_9 : Cond.fieldLink RX1 9 (TX1 0).1 (TX1 0).2.1 (TX1 0).2.2.1 ∈ zGW := zin_of 204 (by decide +kernel) (by decide +kernel)
theorem zw_fl_X3_245 : Cond.fieldLink RX3 245 (TX1 0).1 (TX1 0).2.1 (TX1 0).2.2.1 ∈ zGW := zin_of 205 (by decide +kernel) (by decide +kernel)
theorem zw_fl_X1_15 : Cond.fieldLink RX1 15 (TX1 1).1 (TX1 1).2.1 (TX1 1).2.2.1 ∈ zGW := zin_of 206 (by decide +kernel) (by decide +kernel)
theorem zw_fl_X1_19 : Cond.fieldLink RX1 19 (TX1 2).1 (TX1 2).2.1 (TX1 2).2.2.1 ∈ zGW := zin_of 207 (by decide +kernel) (by decide +kernel)
theorem zw_fl_X3_251 : Cond.fieldLink RX3 251 (TX1 2).1 (TX1 2).2.1 (TX1 2).2.2.1 ∈ zGW := zin_of 208 (by decide +kernel) (by decide +kernel)
theorem zw_fl_X3_9 : Cond.fieldLink RX3 9 (TX3 0).1 (TX3 0).2.1 (TX3 0).2.2.1 ∈ zGW := zin_of 216 (by decide +kernel) (by decide +kernel)
theorem zw_fl_X3_13 : Cond.fieldLink RX3 13 (TX3 1).1 (TX3 1).2.1 (TX3 1).2.2.1 ∈ zGW := zin_of 217 (by decide +kernel) (by decide +kernel)
theorem zw_fl_X3_17 : Cond.fieldLink RX3 17 (TX3 2).1 (TX3 2).2.1 (TX3 2).2.2.1 ∈ zGW := zin_of 218 (by decide +kernel) (by decide +kernel)
theorem zw_fl_X3_23 : Cond.fieldLink RX3 23 (TX3 3).1 (TX3 3).2.1 (TX3 3).2.2.1 ∈ zGW := zin_of 219 (by decide +kernel) (by decide +kernel)
theorem zw_fl_X3_27 : Cond.fieldLink RX3 27 (TX3 4).1 (TX3 4).2.1 (TX3 4).2.2.1 ∈ zGW := zin_of 220 (by decide +kernel) (by decide +kernel)
theorem zw_fl_X3_30 : Cond.fieldLink RX3 30 (TX3 5).1 (TX3 5).2.1 (TX3 5).2.2.1 ∈ zGW := zin_of 221 (by decide +kernel) (by decide +kernel)
theorem zw_fl_X3_38 : Cond.fieldLink RX3 38 (TX3 6).1 (TX3 6).2.1 (TX3 6).2.2.1 ∈ zGW := zin_of 222 (by decide +kernel) (by decide +kernel)
theorem zw_fl_X3_42 : Cond.fieldLink RX3 42 (TX3 7).1 (TX3 7).2.1 (TX3 7).2.2.1 ∈ zGW := zin_of 223 (by decide +kernel) (by decide +kernel)
theorem zw_fl_X3_46 : Cond.fieldLink RX3 46 (TX3 8).1 (TX3 8).2.1 (TX3 8).2.2.1 ∈ zGW := zin_of 224 (by decide +kernel) (by decide +kernel)
theorem zw_fl_X3_50 : Cond.fieldLink RX3 50 (TX3 9).1 (TX3 9).2.1 (TX3 9).2.2.1 ∈ zGW := zin_of 225 (by decide +kernel) (by decide +kernel)
theorem zw_fl_X3_54 : Cond.fieldLink RX3 54 (TX3 10).1 (TX3 10).2.1 (TX3 10).2.2.1 ∈ zGW := zin_of 226 (by decide +kernel) (by decide +kernel)
theorem zw_fl_X3_57 : Cond.fieldLink RX3 57 (TX3 11).1 (TX3 11).2.1 (TX3 11).2.2.1 ∈ zGW := zin_of 227 (by decide +kernel) (by decide +kernel)
theorem zw_fl_X3_63 : Cond.fieldLink RX3 63 (TX3 12).1 (TX3 12).2.1 (TX3 12).2.2.1 ∈ zGW := zin_of 228 (by decide +kernel) (by decide +kernel)
theorem zw_fl_X3_67 : Cond.fieldLink RX3 67 (TX3 13).1 (TX3 13).2.1 (TX3 13).2.2.1 ∈ zGW := zin_of 229 (by decide +kernel) (by decide +kernel)
theorem zw_ml_L_13 : Cond.methodLink RL 13 yX3_feed ∈ zGW := zin_of 259 (by decide +kernel) (by decide +kernel)
theorem zw_im_X3_feed : Cond.instanceMethod yX3_feed ∈ zGW := zin_of 260 (by decide +kernel) (by decide +kernel)
theorem zw_sel_X3_feed : Cond.selects RX3 yX3_feed yX3_feed ∈ zGW := zin_of 261 (by decide +kernel) (by decide +kernel)
set_option maxRecDepth 100000 in
theorem zw_cd_X3_feed : Cond.code yX3_feed cX3_feed 2 (some .int) ∈ zGW := zin_of 262 (rfl) (by decide +kernel)
theorem zw_ml_X3_70 : Cond.methodLink RX3 70 yX3_within ∈ zGW := zin_of 263 (by decide +kernel) (by decide +kernel)
theorem zw_st_X3_within : Cond.static yX3_within ∈ zGW := zin_of 264 (by decide +kernel) (by decide +kernel)
set_option maxRecDepth 100000 in
theorem zw_cd_X3_within : Cond.code yX3_within cX3_within 3 (some .boolean) ∈ zGW := zin_of 265 (rfl) (by decide +kernel)
theorem zw_ml_L_18 : Cond.methodLink RL 18 yX3_end ∈ zGW := zin_of 266 (by decide +kernel) (by decide +kernel)
theorem zw_im_X3_end : Cond.instanceMethod yX3_end ∈ zGW := zin_of 267 (by decide +kernel) (by decide +kernel)
theorem zw_sel_X3_end : Cond.selects RX3 yX3_end yX3_end ∈ zGW := zin_of 268 (by decide +kernel) (by decide +kernel)
set_option maxRecDepth 100000 in
theorem zw_cd_X3_end : Cond.code yX3_end cX3_end 3 (some .int) ∈ zGW := zin_of 269 (rfl) (by decide +kernel)
theorem zw_ml_L_22 : Cond.methodLink RL 22 yX3_text ∈ zGW := zin_of 270 (by decide +kernel) (by decide +kernel)
theorem zw_im_X3_text : Cond.instanceMethod yX3_text ∈ zGW := zin_of 271 (by decide +kernel) (by decide +kernel)
theorem zw_sel_X3_text : Cond.selects RX3 yX3_text yX3_text ∈ zGW := zin_of 272 (by decide +kernel) (by decide +kernel)
set_option maxRecDepth 100000 in
theorem zw_cd_X3_text : Cond.code yX3_text cX3_text 3 (some .int) ∈ zGW := zin_of 273 (rfl) (by decide +kernel)
theorem zw_ml_X3_74 : Cond.methodLink RX3 74 yX2_readAll ∈ zGW := zin_of 274 (by decide +kernel) (by decide +kernel)
theorem zw_im_X2_readAll : Cond.instanceMethod yX2_readAll ∈ zGW := zin_of 275 (by decide +kernel) (by decide +kernel)
theorem zw_sel_X2_readAll : Cond.selects RX2 yX2_readAll yX2_readAll ∈ zGW := zin_of 276 (by decide +kernel) (by decide +kernel)
set_option maxRecDepth 100000 in
theorem zw_cd_X2_readAll : Cond.code yX2_readAll cX2_readAll 3 none ∈ zGW := zin_of 277 (rfl) (by decide +kernel)
theorem zw_ml_X2_50 : Cond.methodLink RX2 50 Lib.Math.min.name ∈ zGW := zin_of 278 (by decide +kernel) (by decide +kernel)
theorem zw_st_Lib_Math_min_name : Cond.static Lib.Math.min.name ∈ zGW := zin_of 279 (by decide +kernel) (by decide +kernel)
set_option maxRecDepth 100000 in
theorem zw_cd_Lib_Math_min : Cond.code Lib.Math.min.name Lib.Math.min.code 2 (some .int) ∈ zGW := zin_of 280 (rfl) (by decide +kernel)
theorem zw_ml_X2_56 : Cond.methodLink RX2 56 yX0_clear ∈ zGW := zin_of 281 (by decide +kernel) (by decide +kernel)
theorem zw_im_X0_clear : Cond.instanceMethod yX0_clear ∈ zGW := zin_of 282 (by decide +kernel) (by decide +kernel)
theorem zw_sel_X0_clear : Cond.selects RX0 yX0_clear yX0_clear ∈ zGW := zin_of 283 (by decide +kernel) (by decide +kernel)
set_option maxRecDepth 100000 in
theorem zw_cd_X0_clear : Cond.code yX0_clear cX0_clear 1 none ∈ zGW := zin_of 284 (rfl) (by decide +kernel)
theorem zw_ml_X2_61 : Cond.methodLink RX2 61 yX2_nextToken ∈ zGW := zin_of 285 (by decide +kernel) (by decide +kernel)
theorem zw_im_X2_nextToken : Cond.instanceMethod yX2_nextToken ∈ zGW := zin_of 286 (by decide +kernel) (by decide +kernel)
theorem zw_sel_X2_nextToken : Cond.selects RX2 yX2_nextToken yX2_nextToken ∈ zGW := zin_of 287 (by decide +kernel) (by decide +kernel)
set_option maxRecDepth 100000 in
theorem zw_cd_X2_nextToken : Cond.code yX2_nextToken cX2_nextToken 2 (some .boolean) ∈ zGW := zin_of 288 (rfl) (by decide +kernel)
theorem zw_ml_X2_82 : Cond.methodLink RX2 82 yX2_endOfRun ∈ zGW := zin_of 289 (by decide +kernel) (by decide +kernel)
theorem zw_im_X2_endOfRun : Cond.instanceMethod yX2_endOfRun ∈ zGW := zin_of 290 (by decide +kernel) (by decide +kernel)
theorem zw_sel_X2_endOfRun : Cond.selects RX2 yX2_endOfRun yX2_endOfRun ∈ zGW := zin_of 291 (by decide +kernel) (by decide +kernel)
set_option maxRecDepth 100000 in
theorem zw_cd_X2_endOfRun : Cond.code yX2_endOfRun cX2_endOfRun 5 (some .int) ∈ zGW := zin_of 292 (rfl) (by decide +kernel)
theorem zw_ml_X2_74 : Cond.methodLink RX2 74 yX2_fail ∈ zGW := zin_of 294 (by decide +kernel) (by decide +kernel)
theorem zw_im_X2_fail : Cond.instanceMethod yX2_fail ∈ zGW := zin_of 295 (by decide +kernel) (by decide +kernel)
theorem zw_sel_X2_fail : Cond.selects RX2 yX2_fail yX2_fail ∈ zGW := zin_of 296 (by decide +kernel) (by decide +kernel)
set_option maxRecDepth 100000 in
theorem zw_cd_X2_fail : Cond.code yX2_fail cX2_fail 3 (some .boolean) ∈ zGW := zin_of 297 (rfl) (by decide +kernel)
theorem zw_ml_X2_65 : Cond.methodLink RX2 65 yX2_readLine ∈ zGW := zin_of 298 (by decide +kernel) (by decide +kernel)
theorem zw_im_X2_readLine : Cond.instanceMethod yX2_readLine ∈ zGW := zin_of 299 (by decide +kernel) (by decide +kernel)
theorem zw_sel_X2_readLine : Cond.selects RX2 yX2_readLine yX2_readLine ∈ zGW := zin_of 300 (by decide +kernel) (by decide +kernel)
set_option maxRecDepth 100000 in
theorem zw_cd_X2_readLine : Cond.code yX2_readLine cX2_readLine 2 (some .boolean) ∈ zGW := zin_of 301 (rfl) (by decide +kernel)
theorem zw_ml_X2_99 : Cond.methodLink RX2 99 yX2_lineByName ∈ zGW := zin_of 302 (by decide +kernel) (by decide +kernel)
theorem zw_im_X2_lineByName : Cond.instanceMethod yX2_lineByName ∈ zGW := zin_of 303 (by decide +kernel) (by decide +kernel)
theorem zw_sel_X2_lineByName : Cond.selects RX2 yX2_lineByName yX2_lineByName ∈ zGW := zin_of 304 (by decide +kernel) (by decide +kernel)
set_option maxRecDepth 100000 in
theorem zw_cd_X2_lineByName : Cond.code yX2_lineByName cX2_lineByName 1 (some .int) ∈ zGW := zin_of 305 (rfl) (by decide +kernel)
theorem zw_ml_X2_131 : Cond.methodLink RX2 131 yX2_isName ∈ zGW := zin_of 307 (by decide +kernel) (by decide +kernel)
theorem zw_im_X2_isName : Cond.instanceMethod yX2_isName ∈ zGW := zin_of 308 (by decide +kernel) (by decide +kernel)
theorem zw_sel_X2_isName : Cond.selects RX2 yX2_isName yX2_isName ∈ zGW := zin_of 309 (by decide +kernel) (by decide +kernel)
set_option maxRecDepth 100000 in
theorem zw_cd_X2_isName : Cond.code yX2_isName cX2_isName 3 (some .boolean) ∈ zGW := zin_of 310 (rfl) (by decide +kernel)
theorem zw_ml_X2_90 : Cond.methodLink RX2 90 yJ0_length_8abf5 ∈ zGW := zin_of 311 (by decide +kernel) (by decide +kernel)
theorem zw_im_J0_length_8abf5 : Cond.instanceMethod yJ0_length_8abf5 ∈ zGW := zin_of 312 (by decide +kernel) (by decide +kernel)
theorem zw_sel_J0_length_8abf5 : Cond.selects RJ0 yJ0_length_8abf5 yJ0_length_8abf5 ∈ zGW := zin_of 313 (by decide +kernel) (by decide +kernel)
set_option maxRecDepth 100000 in
theorem zw_cd_J0_length_8abf5 : Cond.code yJ0_length_8abf5 cJ0_length_8abf5 1 (some .int) ∈ zGW := zin_of 314 (rfl) (by decide +kernel)
theorem zw_ml_J0_335 : Cond.methodLink RJ0 335 yJ0_coder_7d493 ∈ zGW := zin_of 315 (by decide +kernel) (by decide +kernel)
theorem zw_im_J0_coder_7d493 : Cond.instanceMethod yJ0_coder_7d493 ∈ zGW := zin_of 316 (by decide +kernel) (by decide +kernel)
theorem zw_sel_J0_coder_7d493 : Cond.selects RJ0 yJ0_coder_7d493 yJ0_coder_7d493 ∈ zGW := zin_of 317 (by decide +kernel) (by decide +kernel)
set_option maxRecDepth 100000 in
theorem zw_cd_J0_coder_7d493 : Cond.code yJ0_coder_7d493 cJ0_coder_7d493 1 (some .byte) ∈ zGW := zin_of 318 (rfl) (by decide +kernel)
theorem zw_fl_J0_38 : Cond.fieldLink RJ0 38 "java/lang/String" "COMPACT_STRINGS" "Z" ∈ zGW := zin_of 319 (by decide +kernel) (by decide +kernel)
theorem zw_ml_X2_95 : Cond.methodLink RX2 95 yJ0_charAt_5068e ∈ zGW := zin_of 321 (by decide +kernel) (by decide +kernel)
theorem zw_im_J0_charAt_5068e : Cond.instanceMethod yJ0_charAt_5068e ∈ zGW := zin_of 322 (by decide +kernel) (by decide +kernel)
theorem zw_sel_J0_charAt_5068e : Cond.selects RJ0 yJ0_charAt_5068e yJ0_charAt_5068e ∈ zGW := zin_of 323 (by decide +kernel) (by decide +kernel)
set_option maxRecDepth 100000 in
theorem zw_cd_J0_charAt_5068e : Cond.code yJ0_charAt_5068e cJ0_charAt_5068e 2 (some .char) ∈ zGW := zin_of 324 (rfl) (by decide +kernel)
theorem zw_ml_J0_492 : Cond.methodLink RJ0 492 yJ0_isLatin1_aae02 ∈ zGW := zin_of 325 (by decide +kernel) (by decide +kernel)
theorem zw_im_J0_isLatin1_aae02 : Cond.instanceMethod yJ0_isLatin1_aae02 ∈ zGW := zin_of 326 (by decide +kernel) (by decide +kernel)
theorem zw_sel_J0_isLatin1_aae02 : Cond.selects RJ0 yJ0_isLatin1_aae02 yJ0_isLatin1_aae02 ∈ zGW := zin_of 327 (by decide +kernel) (by decide +kernel)
set_option maxRecDepth 100000 in
theorem zw_cd_J0_isLatin1_aae02 : Cond.code yJ0_isLatin1_aae02 cJ0_isLatin1_aae02 1 (some .boolean) ∈ zGW := zin_of 328 (rfl) (by decide +kernel)
theorem zw_ml_J0_495 : Cond.methodLink RJ0 495 yJ1_charAt_3b067 ∈ zGW := zin_of 329 (by decide +kernel) (by decide +kernel)
theorem zw_st_J1_charAt_3b067 : Cond.static yJ1_charAt_3b067 ∈ zGW := zin_of 330 (by decide +kernel) (by decide +kernel)
set_option maxRecDepth 100000 in
theorem zw_cd_J1_charAt_3b067 : Cond.code yJ1_charAt_3b067 cJ1_charAt_3b067 2 (some .char) ∈ zGW := zin_of 331 (rfl) (by decide +kernel)
theorem zw_ml_J1_9 : Cond.methodLink RJ1 9 yJ0_checkIndex_df160 ∈ zGW := zin_of 332 (by decide +kernel) (by decide +kernel)
theorem zw_st_J0_checkIndex_df160 : Cond.static yJ0_checkIndex_df160 ∈ zGW := zin_of 333 (by decide +kernel) (by decide +kernel)
set_option maxRecDepth 100000 in
theorem zw_cd_J0_checkIndex_df160 : Cond.code yJ0_checkIndex_df160 cJ0_checkIndex_df160 2 none ∈ zGW := zin_of 334 (rfl) (by decide +kernel)
theorem zw_fl_J0_1053 : Cond.fieldLink RJ0 1053 "jdk/internal/util/Preconditions" "SIOOBE_FORMATTER" "Ljava/util/function/BiFunction;" ∈ zGW := zin_of 335 (by decide +kernel) (by decide +kernel)
theorem zw_ml_J0_1059 : Cond.methodLink RJ0 1059 yJ3_checkIndex_8e157 ∈ zGW := zin_of 337 (by decide +kernel) (by decide +kernel)
theorem zw_st_J3_checkIndex_8e157 : Cond.static yJ3_checkIndex_8e157 ∈ zGW := zin_of 338 (by decide +kernel) (by decide +kernel)
set_option maxRecDepth 100000 in
theorem zw_cd_J3_checkIndex_8e157 : Cond.code yJ3_checkIndex_8e157 cJ3_checkIndex_8e157 3 (some .int) ∈ zGW := zin_of 339 (rfl) (by decide +kernel)
theorem zw_ml_J0_498 : Cond.methodLink RJ0 498 yJ2_charAt_3b067 ∈ zGW := zin_of 340 (by decide +kernel) (by decide +kernel)
theorem zw_st_J2_charAt_3b067 : Cond.static yJ2_charAt_3b067 ∈ zGW := zin_of 341 (by decide +kernel) (by decide +kernel)
set_option maxRecDepth 100000 in
theorem zw_cd_J2_charAt_3b067 : Cond.code yJ2_charAt_3b067 cJ2_charAt_3b067 2 (some .char) ∈ zGW := zin_of 342 (rfl) (by decide +kernel)
theorem zw_ml_J2_67 : Cond.methodLink RJ2 67 yJ2_checkIndex_2214a ∈ zGW := zin_of 343 (by decide +kernel) (by decide +kernel)
theorem zw_st_J2_checkIndex_2214a : Cond.static yJ2_checkIndex_2214a ∈ zGW := zin_of 344 (by decide +kernel) (by decide +kernel)
set_option maxRecDepth 100000 in
theorem zw_cd_J2_checkIndex_2214a : Cond.code yJ2_checkIndex_2214a cJ2_checkIndex_2214a 2 none ∈ zGW := zin_of 345 (rfl) (by decide +kernel)
theorem zw_ml_J2_48 : Cond.methodLink RJ2 48 yJ2_length_9d52b ∈ zGW := zin_of 346 (by decide +kernel) (by decide +kernel)
theorem zw_st_J2_length_9d52b : Cond.static yJ2_length_9d52b ∈ zGW := zin_of 347 (by decide +kernel) (by decide +kernel)
set_option maxRecDepth 100000 in
theorem zw_cd_J2_length_9d52b : Cond.code yJ2_length_9d52b cJ2_length_9d52b 1 (some .int) ∈ zGW := zin_of 348 (rfl) (by decide +kernel)
theorem zw_ml_J2_414 : Cond.methodLink RJ2 414 yJ0_checkIndex_df160 ∈ zGW := zin_of 349 (by decide +kernel) (by decide +kernel)
theorem zw_ml_J2_71 : Cond.methodLink RJ2 71 yJ2_getChar_3b067 ∈ zGW := zin_of 350 (by decide +kernel) (by decide +kernel)
theorem zw_st_J2_getChar_3b067 : Cond.static yJ2_getChar_3b067 ∈ zGW := zin_of 351 (by decide +kernel) (by decide +kernel)
set_option maxRecDepth 100000 in
theorem zw_cd_J2_getChar_3b067 : Cond.code yJ2_getChar_3b067 cJ2_getChar_3b067 2 (some .char) ∈ zGW := zin_of 352 (rfl) (by decide +kernel)
theorem zw_fl_J2_44 : Cond.fieldLink RJ2 44 "java/lang/StringUTF16" "$assertionsDisabled" "Z" ∈ zGW := zin_of 353 (by decide +kernel) (by decide +kernel)
theorem zw_fl_J2_59 : Cond.fieldLink RJ2 59 "java/lang/StringUTF16" "HI_BYTE_SHIFT" "I" ∈ zGW := zin_of 355 (by decide +kernel) (by decide +kernel)
theorem zw_fl_J2_63 : Cond.fieldLink RJ2 63 "java/lang/StringUTF16" "LO_BYTE_SHIFT" "I" ∈ zGW := zin_of 357 (by decide +kernel) (by decide +kernel)
theorem zw_ml_X2_102 : Cond.methodLink RX2 102 yX2_readOne ∈ zGW := zin_of 366 (by decide +kernel) (by decide +kernel)
theorem zw_im_X2_readOne : Cond.instanceMethod yX2_readOne ∈ zGW := zin_of 367 (by decide +kernel) (by decide +kernel)
theorem zw_sel_X2_readOne : Cond.selects RX2 yX2_readOne yX2_readOne ∈ zGW := zin_of 368 (by decide +kernel) (by decide +kernel)
set_option maxRecDepth 100000 in
theorem zw_cd_X2_readOne : Cond.code yX2_readOne cX2_readOne 3 (some .boolean) ∈ zGW := zin_of 369 (rfl) (by decide +kernel)
theorem zw_ml_X2_152 : Cond.methodLink RX2 152 yX2_kindByName ∈ zGW := zin_of 370 (by decide +kernel) (by decide +kernel)
theorem zw_im_X2_kindByName : Cond.instanceMethod yX2_kindByName ∈ zGW := zin_of 371 (by decide +kernel) (by decide +kernel)
theorem zw_sel_X2_kindByName : Cond.selects RX2 yX2_kindByName yX2_kindByName ∈ zGW := zin_of 372 (by decide +kernel) (by decide +kernel)
set_option maxRecDepth 100000 in
theorem zw_cd_X2_kindByName : Cond.code yX2_kindByName cX2_kindByName 1 (some .int) ∈ zGW := zin_of 373 (rfl) (by decide +kernel)
theorem zw_ml_X2_159 : Cond.methodLink RX2 159 yX2_readNumber ∈ zGW := zin_of 379 (by decide +kernel) (by decide +kernel)
theorem zw_im_X2_readNumber : Cond.instanceMethod yX2_readNumber ∈ zGW := zin_of 380 (by decide +kernel) (by decide +kernel)
theorem zw_sel_X2_readNumber : Cond.selects RX2 yX2_readNumber yX2_readNumber ∈ zGW := zin_of 381 (by decide +kernel) (by decide +kernel)
set_option maxRecDepth 100000 in
theorem zw_cd_X2_readNumber : Cond.code yX2_readNumber cX2_readNumber 3 (some .boolean) ∈ zGW := zin_of 382 (rfl) (by decide +kernel)
theorem zw_ml_X2_105 : Cond.methodLink RX2 105 yX2_readStop ∈ zGW := zin_of 383 (by decide +kernel) (by decide +kernel)
theorem zw_im_X2_readStop : Cond.instanceMethod yX2_readStop ∈ zGW := zin_of 384 (by decide +kernel) (by decide +kernel)
theorem zw_sel_X2_readStop : Cond.selects RX2 yX2_readStop yX2_readStop ∈ zGW := zin_of 385 (by decide +kernel) (by decide +kernel)
set_option maxRecDepth 100000 in
theorem zw_cd_X2_readStop : Cond.code yX2_readStop cX2_readStop 1 (some .boolean) ∈ zGW := zin_of 386 (rfl) (by decide +kernel)
theorem zw_ml_X2_108 : Cond.methodLink RX2 108 yX2_readWell ∈ zGW := zin_of 387 (by decide +kernel) (by decide +kernel)
theorem zw_im_X2_readWell : Cond.instanceMethod yX2_readWell ∈ zGW := zin_of 388 (by decide +kernel) (by decide +kernel)
theorem zw_sel_X2_readWell : Cond.selects RX2 yX2_readWell yX2_readWell ∈ zGW := zin_of 389 (by decide +kernel) (by decide +kernel)
set_option maxRecDepth 100000 in
theorem zw_cd_X2_readWell : Cond.code yX2_readWell cX2_readWell 2 (some .boolean) ∈ zGW := zin_of 390 (rfl) (by decide +kernel)
theorem zw_ml_X2_111 : Cond.methodLink RX2 111 yX2_readDry ∈ zGW := zin_of 391 (by decide +kernel) (by decide +kernel)
theorem zw_im_X2_readDry : Cond.instanceMethod yX2_readDry ∈ zGW := zin_of 392 (by decide +kernel) (by decide +kernel)
theorem zw_sel_X2_readDry : Cond.selects RX2 yX2_readDry yX2_readDry ∈ zGW := zin_of 393 (by decide +kernel) (by decide +kernel)
set_option maxRecDepth 100000 in
theorem zw_cd_X2_readDry : Cond.code yX2_readDry cX2_readDry 1 (some .boolean) ∈ zGW := zin_of 394 (rfl) (by decide +kernel)
theorem zw_ml_X2_114 : Cond.methodLink RX2 114 yX2_readBottle ∈ zGW := zin_of 395 (by decide +kernel) (by decide +kernel)
theorem zw_im_X2_readBottle : Cond.instanceMethod yX2_readBottle ∈ zGW := zin_of 396 (by decide +kernel) (by decide +kernel)
theorem zw_sel_X2_readBottle : Cond.selects RX2 yX2_readBottle yX2_readBottle ∈ zGW := zin_of 397 (by decide +kernel) (by decide +kernel)
set_option maxRecDepth 100000 in
theorem zw_cd_X2_readBottle : Cond.code yX2_readBottle cX2_readBottle 1 (some .boolean) ∈ zGW := zin_of 398 (rfl) (by decide +kernel)
theorem zw_ml_X2_117 : Cond.methodLink RX2 117 yX2_readGoal ∈ zGW := zin_of 399 (by decide +kernel) (by decide +kernel)
theorem zw_im_X2_readGoal : Cond.instanceMethod yX2_readGoal ∈ zGW := zin_of 400 (by decide +kernel) (by decide +kernel)
theorem zw_sel_X2_readGoal : Cond.selects RX2 yX2_readGoal yX2_readGoal ∈ zGW := zin_of 401 (by decide +kernel) (by decide +kernel)
set_option maxRecDepth 100000 in
theorem zw_cd_X2_readGoal : Cond.code yX2_readGoal cX2_readGoal 1 (some .boolean) ∈ zGW := zin_of 402 (rfl) (by decide +kernel)
theorem zw_ml_X2_120 : Cond.methodLink RX2 120 yX2_readPlan ∈ zGW := zin_of 403 (by decide +kernel) (by decide +kernel)
theorem zw_im_X2_readPlan : Cond.instanceMethod yX2_readPlan ∈ zGW := zin_of 404 (by decide +kernel) (by decide +kernel)
theorem zw_sel_X2_readPlan : Cond.selects RX2 yX2_readPlan yX2_readPlan ∈ zGW := zin_of 405 (by decide +kernel) (by decide +kernel)
set_option maxRecDepth 100000 in
theorem zw_cd_X2_readPlan : Cond.code yX2_readPlan cX2_readPlan 2 (some .boolean) ∈ zGW := zin_of 406 (rfl) (by decide +kernel)
theorem zw_ml_X2_194 : Cond.methodLink RX2 194 yX2_planByName ∈ zGW := zin_of 407 (by decide +kernel) (by decide +kernel)
theorem zw_im_X2_planByName : Cond.instanceMethod yX2_planByName ∈ zGW := zin_of 408 (by decide +kernel) (by decide +kernel)
theorem zw_sel_X2_planByName : Cond.selects RX2 yX2_planByName yX2_planByName ∈ zGW := zin_of 409 (by decide +kernel) (by decide +kernel)
set_option maxRecDepth 100000 in
theorem zw_cd_X2_planByName : Cond.code yX2_planByName cX2_planByName 1 (some .int) ∈ zGW := zin_of 410 (rfl) (by decide +kernel)
theorem zw_ml_X2_123 : Cond.methodLink RX2 123 yX2_readDew ∈ zGW := zin_of 415 (by decide +kernel) (by decide +kernel)
theorem zw_im_X2_readDew : Cond.instanceMethod yX2_readDew ∈ zGW := zin_of 416 (by decide +kernel) (by decide +kernel)
theorem zw_sel_X2_readDew : Cond.selects RX2 yX2_readDew yX2_readDew ∈ zGW := zin_of 417 (by decide +kernel) (by decide +kernel)
set_option maxRecDepth 100000 in
theorem zw_cd_X2_readDew : Cond.code yX2_readDew cX2_readDew 1 (some .boolean) ∈ zGW := zin_of 418 (rfl) (by decide +kernel)
theorem zw_ml_X2_126 : Cond.methodLink RX2 126 yX2_readFound ∈ zGW := zin_of 419 (by decide +kernel) (by decide +kernel)
theorem zw_im_X2_readFound : Cond.instanceMethod yX2_readFound ∈ zGW := zin_of 420 (by decide +kernel) (by decide +kernel)
theorem zw_sel_X2_readFound : Cond.selects RX2 yX2_readFound yX2_readFound ∈ zGW := zin_of 421 (by decide +kernel) (by decide +kernel)
set_option maxRecDepth 100000 in
theorem zw_cd_X2_readFound : Cond.code yX2_readFound cX2_readFound 1 (some .boolean) ∈ zGW := zin_of 422 (rfl) (by decide +kernel)
theorem zw_ml_X2_68 : Cond.methodLink RX2 68 yX2_dryUpWells ∈ zGW := zin_of 423 (by decide +kernel) (by decide +kernel)
theorem zw_im_X2_dryUpWells : Cond.instanceMethod yX2_dryUpWells ∈ zGW := zin_of 424 (by decide +kernel) (by decide +kernel)
theorem zw_sel_X2_dryUpWells : Cond.selects RX2 yX2_dryUpWells yX2_dryUpWells ∈ zGW := zin_of 425 (by decide +kernel) (by decide +kernel)
set_option maxRecDepth 100000 in
theorem zw_cd_X2_dryUpWells : Cond.code yX2_dryUpWells cX2_dryUpWells 2 none ∈ zGW := zin_of 426 (rfl) (by decide +kernel)
theorem zw_ml_X3_84 : Cond.methodLink RX3 84 yX0_copyFrom ∈ zGW := zin_of 427 (by decide +kernel) (by decide +kernel)
theorem zw_im_X0_copyFrom : Cond.instanceMethod yX0_copyFrom ∈ zGW := zin_of 428 (by decide +kernel) (by decide +kernel)
theorem zw_sel_X0_copyFrom : Cond.selects RX0 yX0_copyFrom yX0_copyFrom ∈ zGW := zin_of 429 (by decide +kernel) (by decide +kernel)
set_option maxRecDepth 100000 in
theorem zw_cd_X0_copyFrom : Cond.code yX0_copyFrom cX0_copyFrom 3 none ∈ zGW := zin_of 430 (rfl) (by decide +kernel)
theorem zw_ml_L_27 : Cond.methodLink RL 27 yX3_fault ∈ zGW := zin_of 431 (by decide +kernel) (by decide +kernel)
theorem zw_im_X3_fault : Cond.instanceMethod yX3_fault ∈ zGW := zin_of 432 (by decide +kernel) (by decide +kernel)
theorem zw_sel_X3_fault : Cond.selects RX3 yX3_fault yX3_fault ∈ zGW := zin_of 433 (by decide +kernel) (by decide +kernel)
set_option maxRecDepth 100000 in
theorem zw_cd_X3_fault : Cond.code yX3_fault cX3_fault 1 (some .int) ∈ zGW := zin_of 434 (rfl) (by decide +kernel)
theorem zw_ml_L_31 : Cond.methodLink RL 31 yX3_rule ∈ zGW := zin_of 435 (by decide +kernel) (by decide +kernel)
theorem zw_im_X3_rule : Cond.instanceMethod yX3_rule ∈ zGW := zin_of 436 (by decide +kernel) (by decide +kernel)
theorem zw_sel_X3_rule : Cond.selects RX3 yX3_rule yX3_rule ∈ zGW := zin_of 437 (by decide +kernel) (by decide +kernel)
set_option maxRecDepth 100000 in
theorem zw_cd_X3_rule : Cond.code yX3_rule cX3_rule 2 (some .int) ∈ zGW := zin_of 438 (rfl) (by decide +kernel)
theorem zw_ml_L_35 : Cond.methodLink RL 35 yX3_one ∈ zGW := zin_of 439 (by decide +kernel) (by decide +kernel)
theorem zw_im_X3_one : Cond.instanceMethod yX3_one ∈ zGW := zin_of 440 (by decide +kernel) (by decide +kernel)
theorem zw_sel_X3_one : Cond.selects RX3 yX3_one yX3_one ∈ zGW := zin_of 441 (by decide +kernel) (by decide +kernel)
set_option maxRecDepth 100000 in
theorem zw_cd_X3_one : Cond.code yX3_one cX3_one 3 (some .int) ∈ zGW := zin_of 442 (rfl) (by decide +kernel)
theorem zw_ml_X3_118 : Cond.methodLink RX3 118 yX3_isOne ∈ zGW := zin_of 443 (by decide +kernel) (by decide +kernel)
theorem zw_im_X3_isOne : Cond.instanceMethod yX3_isOne ∈ zGW := zin_of 445 (by decide +kernel) (by decide +kernel)
set_option maxRecDepth 100000 in
theorem zw_cd_X3_isOne : Cond.code yX3_isOne cX3_isOne 2 (some .boolean) ∈ zGW := zin_of 446 (rfl) (by decide +kernel)
theorem zw_ml_X3_131 : Cond.methodLink RX3 131 yX0_wanted ∈ zGW := zin_of 447 (by decide +kernel) (by decide +kernel)
theorem zw_im_X0_wanted : Cond.instanceMethod yX0_wanted ∈ zGW := zin_of 448 (by decide +kernel) (by decide +kernel)
theorem zw_sel_X0_wanted : Cond.selects RX0 yX0_wanted yX0_wanted ∈ zGW := zin_of 449 (by decide +kernel) (by decide +kernel)
set_option maxRecDepth 100000 in
theorem zw_cd_X0_wanted : Cond.code yX0_wanted cX0_wanted 2 (some .int) ∈ zGW := zin_of 450 (rfl) (by decide +kernel)
theorem zw_ml_X0_62 : Cond.methodLink RX0 62 yX0_isDown ∈ zGW := zin_of 451 (by decide +kernel) (by decide +kernel)
theorem zw_im_X0_isDown : Cond.instanceMethod yX0_isDown ∈ zGW := zin_of 452 (by decide +kernel) (by decide +kernel)
theorem zw_sel_X0_isDown : Cond.selects RX0 yX0_isDown yX0_isDown ∈ zGW := zin_of 453 (by decide +kernel) (by decide +kernel)
set_option maxRecDepth 100000 in
theorem zw_cd_X0_isDown : Cond.code yX0_isDown cX0_isDown 2 (some .boolean) ∈ zGW := zin_of 454 (rfl) (by decide +kernel)
theorem zw_ml_X0_66 : Cond.methodLink RX0 66 Lib.Math.max.name ∈ zGW := zin_of 455 (by decide +kernel) (by decide +kernel)
theorem zw_st_Lib_Math_max_name : Cond.static Lib.Math.max.name ∈ zGW := zin_of 456 (by decide +kernel) (by decide +kernel)
set_option maxRecDepth 100000 in
theorem zw_cd_Lib_Math_max : Cond.code Lib.Math.max.name Lib.Math.max.code 2 (some .int) ∈ zGW := zin_of 457 (rfl) (by decide +kernel)
theorem zw_ml_X0_72 : Cond.methodLink RX0 72 yX0_pourer ∈ zGW := zin_of 458 (by decide +kernel) (by decide +kernel)
theorem zw_im_X0_pourer : Cond.instanceMethod yX0_pourer ∈ zGW := zin_of 459 (by decide +kernel) (by decide +kernel)
theorem zw_sel_X0_pourer : Cond.selects RX0 yX0_pourer yX0_pourer ∈ zGW := zin_of 460 (by decide +kernel) (by decide +kernel)
set_option maxRecDepth 100000 in
theorem zw_cd_X0_pourer : Cond.code yX0_pourer cX0_pourer 1 (some .int) ∈ zGW := zin_of 461 (rfl) (by decide +kernel)
theorem zw_ml_L_40 : Cond.methodLink RL 40 yX3_well ∈ zGW := zin_of 462 (by decide +kernel) (by decide +kernel)
theorem zw_im_X3_well : Cond.instanceMethod yX3_well ∈ zGW := zin_of 463 (by decide +kernel) (by decide +kernel)
theorem zw_sel_X3_well : Cond.selects RX3 yX3_well yX3_well ∈ zGW := zin_of 464 (by decide +kernel) (by decide +kernel)
set_option maxRecDepth 100000 in
theorem zw_cd_X3_well : Cond.code yX3_well cX3_well 3 (some .int) ∈ zGW := zin_of 465 (rfl) (by decide +kernel)
theorem zw_ml_X3_135 : Cond.methodLink RX3 135 yX3_isWell ∈ zGW := zin_of 466 (by decide +kernel) (by decide +kernel)
theorem zw_im_X3_isWell : Cond.instanceMethod yX3_isWell ∈ zGW := zin_of 468 (by decide +kernel) (by decide +kernel)
set_option maxRecDepth 100000 in
theorem zw_cd_X3_isWell : Cond.code yX3_isWell cX3_isWell 2 (some .boolean) ∈ zGW := zin_of 469 (rfl) (by decide +kernel)
theorem zw_ml_X3_150 : Cond.methodLink RX3 150 yX3_asNumber ∈ zGW := zin_of 470 (by decide +kernel) (by decide +kernel)
theorem zw_st_X3_asNumber : Cond.static yX3_asNumber ∈ zGW := zin_of 471 (by decide +kernel) (by decide +kernel)
set_option maxRecDepth 100000 in
theorem zw_cd_X3_asNumber : Cond.code yX3_asNumber cX3_asNumber 1 (some .int) ∈ zGW := zin_of 472 (rfl) (by decide +kernel)
theorem zw_ml_L_44 : Cond.methodLink RL 44 yX3_pours ∈ zGW := zin_of 473 (by decide +kernel) (by decide +kernel)
theorem zw_im_X3_pours : Cond.instanceMethod yX3_pours ∈ zGW := zin_of 474 (by decide +kernel) (by decide +kernel)
theorem zw_sel_X3_pours : Cond.selects RX3 yX3_pours yX3_pours ∈ zGW := zin_of 475 (by decide +kernel) (by decide +kernel)
set_option maxRecDepth 100000 in
theorem zw_cd_X3_pours : Cond.code yX3_pours cX3_pours 1 (some .int) ∈ zGW := zin_of 476 (rfl) (by decide +kernel)
theorem zw_ml_X3_154 : Cond.methodLink RX3 154 yX0_pourer ∈ zGW := zin_of 477 (by decide +kernel) (by decide +kernel)
theorem zw_ml_L_48 : Cond.methodLink RL 48 yX3_loses ∈ zGW := zin_of 478 (by decide +kernel) (by decide +kernel)
theorem zw_im_X3_loses : Cond.instanceMethod yX3_loses ∈ zGW := zin_of 479 (by decide +kernel) (by decide +kernel)
theorem zw_sel_X3_loses : Cond.selects RX3 yX3_loses yX3_loses ∈ zGW := zin_of 480 (by decide +kernel) (by decide +kernel)
set_option maxRecDepth 100000 in
theorem zw_cd_X3_loses : Cond.code yX3_loses cX3_loses 3 (some .int) ∈ zGW := zin_of 481 (rfl) (by decide +kernel)
theorem zw_ml_X3_158 : Cond.methodLink RX3 158 yX0_loss ∈ zGW := zin_of 482 (by decide +kernel) (by decide +kernel)
theorem zw_im_X0_loss : Cond.instanceMethod yX0_loss ∈ zGW := zin_of 483 (by decide +kernel) (by decide +kernel)
theorem zw_sel_X0_loss : Cond.selects RX0 yX0_loss yX0_loss ∈ zGW := zin_of 484 (by decide +kernel) (by decide +kernel)
set_option maxRecDepth 100000 in
theorem zw_cd_X0_loss : Cond.code yX0_loss cX0_loss 4 (some .int) ∈ zGW := zin_of 485 (rfl) (by decide +kernel)
theorem zw_ml_X0_76 : Cond.methodLink RX0 76 yX0_isDay ∈ zGW := zin_of 486 (by decide +kernel) (by decide +kernel)
theorem zw_im_X0_isDay : Cond.instanceMethod yX0_isDay ∈ zGW := zin_of 487 (by decide +kernel) (by decide +kernel)
theorem zw_sel_X0_isDay : Cond.selects RX0 yX0_isDay yX0_isDay ∈ zGW := zin_of 488 (by decide +kernel) (by decide +kernel)
set_option maxRecDepth 100000 in
theorem zw_cd_X0_isDay : Cond.code yX0_isDay cX0_isDay 2 (some .boolean) ∈ zGW := zin_of 489 (rfl) (by decide +kernel)
theorem zw_ml_L_53 : Cond.methodLink RL 53 yX3_teach ∈ zGW := zin_of 490 (by decide +kernel) (by decide +kernel)
theorem zw_im_X3_teach : Cond.instanceMethod yX3_teach ∈ zGW := zin_of 491 (by decide +kernel) (by decide +kernel)
theorem zw_sel_X3_teach : Cond.selects RX3 yX3_teach yX3_teach ∈ zGW := zin_of 492 (by decide +kernel) (by decide +kernel)
set_option maxRecDepth 100000 in
theorem zw_cd_X3_teach : Cond.code yX3_teach cX3_teach 4 (some .int) ∈ zGW := zin_of 493 (rfl) (by decide +kernel)
theorem zw_ml_X3_162 : Cond.methodLink RX3 162 yX3_isKind ∈ zGW := zin_of 494 (by decide +kernel) (by decide +kernel)
theorem zw_st_X3_isKind : Cond.static yX3_isKind ∈ zGW := zin_of 495 (by decide +kernel) (by decide +kernel)
set_option maxRecDepth 100000 in
theorem zw_cd_X3_isKind : Cond.code yX3_isKind cX3_isKind 1 (some .boolean) ∈ zGW := zin_of 496 (rfl) (by decide +kernel)
theorem zw_ml_L_57 : Cond.methodLink RL 57 yX3_drink ∈ zGW := zin_of 497 (by decide +kernel) (by decide +kernel)
theorem zw_im_X3_drink : Cond.instanceMethod yX3_drink ∈ zGW := zin_of 498 (by decide +kernel) (by decide +kernel)
theorem zw_sel_X3_drink : Cond.selects RX3 yX3_drink yX3_drink ∈ zGW := zin_of 499 (by decide +kernel) (by decide +kernel)
set_option maxRecDepth 100000 in
theorem zw_cd_X3_drink : Cond.code yX3_drink cX3_drink 3 (some .int) ∈ zGW := zin_of 500 (rfl) (by decide +kernel)
theorem zw_ml_X3_165 : Cond.methodLink RX3 165 yX0_drinkAsAsked ∈ zGW := zin_of 501 (by decide +kernel) (by decide +kernel)
theorem zw_im_X0_drinkAsAsked : Cond.instanceMethod yX0_drinkAsAsked ∈ zGW := zin_of 502 (by decide +kernel) (by decide +kernel)
theorem zw_sel_X0_drinkAsAsked : Cond.selects RX0 yX0_drinkAsAsked yX0_drinkAsAsked ∈ zGW := zin_of 503 (by decide +kernel) (by decide +kernel)
set_option maxRecDepth 100000 in
theorem zw_cd_X0_drinkAsAsked : Cond.code yX0_drinkAsAsked cX0_drinkAsAsked 3 (some .int) ∈ zGW := zin_of 504 (rfl) (by decide +kernel)
theorem zw_ml_L_61 : Cond.methodLink RL 61 yX3_fill ∈ zGW := zin_of 506 (by decide +kernel) (by decide +kernel)
theorem zw_im_X3_fill : Cond.instanceMethod yX3_fill ∈ zGW := zin_of 507 (by decide +kernel) (by decide +kernel)
theorem zw_sel_X3_fill : Cond.selects RX3 yX3_fill yX3_fill ∈ zGW := zin_of 508 (by decide +kernel) (by decide +kernel)
set_option maxRecDepth 100000 in
theorem zw_cd_X3_fill : Cond.code yX3_fill cX3_fill 3 (some .int) ∈ zGW := zin_of 509 (rfl) (by decide +kernel)
theorem zw_ml_L_65 : Cond.methodLink RL 65 yX3_plan ∈ zGW := zin_of 510 (by decide +kernel) (by decide +kernel)
theorem zw_im_X3_plan : Cond.instanceMethod yX3_plan ∈ zGW := zin_of 511 (by decide +kernel) (by decide +kernel)
theorem zw_sel_X3_plan : Cond.selects RX3 yX3_plan yX3_plan ∈ zGW := zin_of 512 (by decide +kernel) (by decide +kernel)
set_option maxRecDepth 100000 in
theorem zw_cd_X3_plan : Cond.code yX3_plan cX3_plan 3 (some .int) ∈ zGW := zin_of 513 (rfl) (by decide +kernel)
theorem zw_ml_X3_169 : Cond.methodLink RX3 169 yX3_isPlan ∈ zGW := zin_of 514 (by decide +kernel) (by decide +kernel)
theorem zw_st_X3_isPlan : Cond.static yX3_isPlan ∈ zGW := zin_of 515 (by decide +kernel) (by decide +kernel)
set_option maxRecDepth 100000 in
theorem zw_cd_X3_isPlan : Cond.code yX3_isPlan cX3_isPlan 1 (some .boolean) ∈ zGW := zin_of 516 (rfl) (by decide +kernel)
theorem zw_ml_L_69 : Cond.methodLink RL 69 yX3_wet ∈ zGW := zin_of 517 (by decide +kernel) (by decide +kernel)
theorem zw_im_X3_wet : Cond.instanceMethod yX3_wet ∈ zGW := zin_of 518 (by decide +kernel) (by decide +kernel)
theorem zw_sel_X3_wet : Cond.selects RX3 yX3_wet yX3_wet ∈ zGW := zin_of 519 (by decide +kernel) (by decide +kernel)
set_option maxRecDepth 100000 in
theorem zw_cd_X3_wet : Cond.code yX3_wet cX3_wet 4 (some .int) ∈ zGW := zin_of 520 (rfl) (by decide +kernel)
theorem zw_ml_L_73 : Cond.methodLink RL 73 yX3_odd ∈ zGW := zin_of 521 (by decide +kernel) (by decide +kernel)
theorem zw_im_X3_odd : Cond.instanceMethod yX3_odd ∈ zGW := zin_of 522 (by decide +kernel) (by decide +kernel)
theorem zw_sel_X3_odd : Cond.selects RX3 yX3_odd yX3_odd ∈ zGW := zin_of 523 (by decide +kernel) (by decide +kernel)
set_option maxRecDepth 100000 in
theorem zw_cd_X3_odd : Cond.code yX3_odd cX3_odd 4 (some .int) ∈ zGW := zin_of 524 (rfl) (by decide +kernel)
theorem zw_ml_L_77 : Cond.methodLink RL 77 yX3_lay ∈ zGW := zin_of 525 (by decide +kernel) (by decide +kernel)
theorem zw_im_X3_lay : Cond.instanceMethod yX3_lay ∈ zGW := zin_of 526 (by decide +kernel) (by decide +kernel)
theorem zw_sel_X3_lay : Cond.selects RX3 yX3_lay yX3_lay ∈ zGW := zin_of 527 (by decide +kernel) (by decide +kernel)
set_option maxRecDepth 100000 in
theorem zw_cd_X3_lay : Cond.code yX3_lay cX3_lay 4 (some .int) ∈ zGW := zin_of 528 (rfl) (by decide +kernel)
theorem zw_ml_L_81 : Cond.methodLink RL 81 yX3_go ∈ zGW := zin_of 529 (by decide +kernel) (by decide +kernel)
theorem zw_im_X3_go : Cond.instanceMethod yX3_go ∈ zGW := zin_of 530 (by decide +kernel) (by decide +kernel)
theorem zw_sel_X3_go : Cond.selects RX3 yX3_go yX3_go ∈ zGW := zin_of 531 (by decide +kernel) (by decide +kernel)
set_option maxRecDepth 100000 in
theorem zw_cd_X3_go : Cond.code yX3_go cX3_go 2 (some .int) ∈ zGW := zin_of 532 (rfl) (by decide +kernel)
theorem zw_ml_X3_172 : Cond.methodLink RX3 172 yX0_passHours ∈ zGW := zin_of 533 (by decide +kernel) (by decide +kernel)
theorem zw_im_X0_passHours : Cond.instanceMethod yX0_passHours ∈ zGW := zin_of 534 (by decide +kernel) (by decide +kernel)
theorem zw_sel_X0_passHours : Cond.selects RX0 yX0_passHours yX0_passHours ∈ zGW := zin_of 535 (by decide +kernel) (by decide +kernel)
set_option maxRecDepth 100000 in
theorem zw_cd_X0_passHours : Cond.code yX0_passHours cX0_passHours 4 none ∈ zGW := zin_of 536 (rfl) (by decide +kernel)
theorem zw_ml_X0_84 : Cond.methodLink RX0 84 yX0_walksBy ∈ zGW := zin_of 537 (by decide +kernel) (by decide +kernel)
theorem zw_im_X0_walksBy : Cond.instanceMethod yX0_walksBy ∈ zGW := zin_of 538 (by decide +kernel) (by decide +kernel)
theorem zw_sel_X0_walksBy : Cond.selects RX0 yX0_walksBy yX0_walksBy ∈ zGW := zin_of 539 (by decide +kernel) (by decide +kernel)
set_option maxRecDepth 100000 in
theorem zw_cd_X0_walksBy : Cond.code yX0_walksBy cX0_walksBy 2 (some .boolean) ∈ zGW := zin_of 540 (rfl) (by decide +kernel)
theorem zw_ml_X0_87 : Cond.methodLink RX0 87 yX0_passHour ∈ zGW := zin_of 541 (by decide +kernel) (by decide +kernel)
theorem zw_im_X0_passHour : Cond.instanceMethod yX0_passHour ∈ zGW := zin_of 542 (by decide +kernel) (by decide +kernel)
theorem zw_sel_X0_passHour : Cond.selects RX0 yX0_passHour yX0_passHour ∈ zGW := zin_of 543 (by decide +kernel) (by decide +kernel)
set_option maxRecDepth 100000 in
theorem zw_cd_X0_passHour : Cond.code yX0_passHour cX0_passHour 3 none ∈ zGW := zin_of 544 (rfl) (by decide +kernel)
theorem zw_ml_X0_91 : Cond.methodLink RX0 91 yX0_isAtGoal ∈ zGW := zin_of 545 (by decide +kernel) (by decide +kernel)
theorem zw_im_X0_isAtGoal : Cond.instanceMethod yX0_isAtGoal ∈ zGW := zin_of 546 (by decide +kernel) (by decide +kernel)
theorem zw_sel_X0_isAtGoal : Cond.selects RX0 yX0_isAtGoal yX0_isAtGoal ∈ zGW := zin_of 547 (by decide +kernel) (by decide +kernel)
set_option maxRecDepth 100000 in
theorem zw_cd_X0_isAtGoal : Cond.code yX0_isAtGoal cX0_isAtGoal 1 (some .boolean) ∈ zGW := zin_of 548 (rfl) (by decide +kernel)
theorem zw_ml_X0_94 : Cond.methodLink RX0 94 yX0_standing ∈ zGW := zin_of 549 (by decide +kernel) (by decide +kernel)
theorem zw_im_X0_standing : Cond.instanceMethod yX0_standing ∈ zGW := zin_of 550 (by decide +kernel) (by decide +kernel)
theorem zw_sel_X0_standing : Cond.selects RX0 yX0_standing yX0_standing ∈ zGW := zin_of 551 (by decide +kernel) (by decide +kernel)
set_option maxRecDepth 100000 in
theorem zw_cd_X0_standing : Cond.code yX0_standing cX0_standing 3 (some .int) ∈ zGW := zin_of 552 (rfl) (by decide +kernel)
theorem zw_ml_X0_97 : Cond.methodLink RX0 97 yX0_pourIn ∈ zGW := zin_of 553 (by decide +kernel) (by decide +kernel)
theorem zw_im_X0_pourIn : Cond.instanceMethod yX0_pourIn ∈ zGW := zin_of 554 (by decide +kernel) (by decide +kernel)
theorem zw_sel_X0_pourIn : Cond.selects RX0 yX0_pourIn yX0_pourIn ∈ zGW := zin_of 555 (by decide +kernel) (by decide +kernel)
set_option maxRecDepth 100000 in
theorem zw_cd_X0_pourIn : Cond.code yX0_pourIn cX0_pourIn 2 none ∈ zGW := zin_of 556 (rfl) (by decide +kernel)
theorem zw_ml_X0_110 : Cond.methodLink RX0 110 Lib.Math.min.name ∈ zGW := zin_of 557 (by decide +kernel) (by decide +kernel)
theorem zw_ml_X0_101 : Cond.methodLink RX0 101 yX0_drinkRound ∈ zGW := zin_of 558 (by decide +kernel) (by decide +kernel)
theorem zw_im_X0_drinkRound : Cond.instanceMethod yX0_drinkRound ∈ zGW := zin_of 559 (by decide +kernel) (by decide +kernel)
theorem zw_sel_X0_drinkRound : Cond.selects RX0 yX0_drinkRound yX0_drinkRound ∈ zGW := zin_of 560 (by decide +kernel) (by decide +kernel)
set_option maxRecDepth 100000 in
theorem zw_cd_X0_drinkRound : Cond.code yX0_drinkRound cX0_drinkRound 6 none ∈ zGW := zin_of 561 (rfl) (by decide +kernel)
theorem zw_ml_X0_113 : Cond.methodLink RX0 113 yX0_drinkerFor ∈ zGW := zin_of 562 (by decide +kernel) (by decide +kernel)
theorem zw_im_X0_drinkerFor : Cond.instanceMethod yX0_drinkerFor ∈ zGW := zin_of 563 (by decide +kernel) (by decide +kernel)
theorem zw_sel_X0_drinkerFor : Cond.selects RX0 yX0_drinkerFor yX0_drinkerFor ∈ zGW := zin_of 564 (by decide +kernel) (by decide +kernel)
set_option maxRecDepth 100000 in
theorem zw_cd_X0_drinkerFor : Cond.code yX0_drinkerFor cX0_drinkerFor 4 (some .int) ∈ zGW := zin_of 565 (rfl) (by decide +kernel)
theorem zw_ml_X0_117 : Cond.methodLink RX0 117 yX0_wanted ∈ zGW := zin_of 566 (by decide +kernel) (by decide +kernel)
theorem zw_ml_X0_104 : Cond.methodLink RX0 104 yX0_loseWater ∈ zGW := zin_of 567 (by decide +kernel) (by decide +kernel)
theorem zw_im_X0_loseWater : Cond.instanceMethod yX0_loseWater ∈ zGW := zin_of 568 (by decide +kernel) (by decide +kernel)
theorem zw_sel_X0_loseWater : Cond.selects RX0 yX0_loseWater yX0_loseWater ∈ zGW := zin_of 569 (by decide +kernel) (by decide +kernel)
set_option maxRecDepth 100000 in
theorem zw_cd_X0_loseWater : Cond.code yX0_loseWater cX0_loseWater 3 none ∈ zGW := zin_of 570 (rfl) (by decide +kernel)
theorem zw_ml_X0_120 : Cond.methodLink RX0 120 yX0_loss ∈ zGW := zin_of 571 (by decide +kernel) (by decide +kernel)
theorem zw_ml_X0_107 : Cond.methodLink RX0 107 yX0_walkOn ∈ zGW := zin_of 572 (by decide +kernel) (by decide +kernel)
theorem zw_im_X0_walkOn : Cond.instanceMethod yX0_walkOn ∈ zGW := zin_of 573 (by decide +kernel) (by decide +kernel)
theorem zw_sel_X0_walkOn : Cond.selects RX0 yX0_walkOn yX0_walkOn ∈ zGW := zin_of 574 (by decide +kernel) (by decide +kernel)
set_option maxRecDepth 100000 in
theorem zw_cd_X0_walkOn : Cond.code yX0_walkOn cX0_walkOn 3 none ∈ zGW := zin_of 575 (rfl) (by decide +kernel)
theorem zw_ml_X0_124 : Cond.methodLink RX0 124 yX0_isSomeoneWeak ∈ zGW := zin_of 576 (by decide +kernel) (by decide +kernel)
theorem zw_im_X0_isSomeoneWeak : Cond.instanceMethod yX0_isSomeoneWeak ∈ zGW := zin_of 577 (by decide +kernel) (by decide +kernel)
theorem zw_sel_X0_isSomeoneWeak : Cond.selects RX0 yX0_isSomeoneWeak yX0_isSomeoneWeak ∈ zGW := zin_of 578 (by decide +kernel) (by decide +kernel)
set_option maxRecDepth 100000 in
theorem zw_cd_X0_isSomeoneWeak : Cond.code yX0_isSomeoneWeak cX0_isSomeoneWeak 2 (some .boolean) ∈ zGW := zin_of 579 (rfl) (by decide +kernel)
theorem zw_ml_X3_176 : Cond.methodLink RX3 176 yX0_standing ∈ zGW := zin_of 580 (by decide +kernel) (by decide +kernel)
theorem zw_ml_L_85 : Cond.methodLink RL 85 yX3_ahead ∈ zGW := zin_of 581 (by decide +kernel) (by decide +kernel)
theorem zw_im_X3_ahead : Cond.instanceMethod yX3_ahead ∈ zGW := zin_of 582 (by decide +kernel) (by decide +kernel)
theorem zw_sel_X3_ahead : Cond.selects RX3 yX3_ahead yX3_ahead ∈ zGW := zin_of 583 (by decide +kernel) (by decide +kernel)
set_option maxRecDepth 100000 in
theorem zw_cd_X3_ahead : Cond.code yX3_ahead cX3_ahead 4 (some .int) ∈ zGW := zin_of 584 (rfl) (by decide +kernel)
theorem zw_ml_X3_179 : Cond.methodLink RX3 179 yX3_told ∈ zGW := zin_of 585 (by decide +kernel) (by decide +kernel)
theorem zw_st_X3_told : Cond.static yX3_told ∈ zGW := zin_of 586 (by decide +kernel) (by decide +kernel)
set_option maxRecDepth 100000 in
theorem zw_cd_X3_told : Cond.code yX3_told cX3_told 2 (some .int) ∈ zGW := zin_of 587 (rfl) (by decide +kernel)
theorem zw_ml_L_89 : Cond.methodLink RL 89 yX3_down ∈ zGW := zin_of 588 (by decide +kernel) (by decide +kernel)
theorem zw_im_X3_down : Cond.instanceMethod yX3_down ∈ zGW := zin_of 589 (by decide +kernel) (by decide +kernel)
theorem zw_sel_X3_down : Cond.selects RX3 yX3_down yX3_down ∈ zGW := zin_of 590 (by decide +kernel) (by decide +kernel)
set_option maxRecDepth 100000 in
theorem zw_cd_X3_down : Cond.code yX3_down cX3_down 3 (some .int) ∈ zGW := zin_of 591 (rfl) (by decide +kernel)
theorem zw_ml_X3_183 : Cond.methodLink RX3 183 yX0_isDown ∈ zGW := zin_of 592 (by decide +kernel) (by decide +kernel)
theorem zw_ml_L_93 : Cond.methodLink RL 93 yX3_arrive ∈ zGW := zin_of 593 (by decide +kernel) (by decide +kernel)
theorem zw_im_X3_arrive : Cond.instanceMethod yX3_arrive ∈ zGW := zin_of 594 (by decide +kernel) (by decide +kernel)
theorem zw_sel_X3_arrive : Cond.selects RX3 yX3_arrive yX3_arrive ∈ zGW := zin_of 595 (by decide +kernel) (by decide +kernel)
set_option maxRecDepth 100000 in
theorem zw_cd_X3_arrive : Cond.code yX3_arrive cX3_arrive 5 (some .int) ∈ zGW := zin_of 596 (rfl) (by decide +kernel)
theorem zw_ml_X3_186 : Cond.methodLink RX3 186 yX0_hoursToGoal ∈ zGW := zin_of 597 (by decide +kernel) (by decide +kernel)
theorem zw_im_X0_hoursToGoal : Cond.instanceMethod yX0_hoursToGoal ∈ zGW := zin_of 598 (by decide +kernel) (by decide +kernel)
theorem zw_sel_X0_hoursToGoal : Cond.selects RX0 yX0_hoursToGoal yX0_hoursToGoal ∈ zGW := zin_of 599 (by decide +kernel) (by decide +kernel)
set_option maxRecDepth 100000 in
theorem zw_cd_X0_hoursToGoal : Cond.code yX0_hoursToGoal cX0_hoursToGoal 3 (some .int) ∈ zGW := zin_of 600 (rfl) (by decide +kernel)
theorem zw_ml_X3_189 : Cond.methodLink RX3 189 yX0_arrived ∈ zGW := zin_of 601 (by decide +kernel) (by decide +kernel)
theorem zw_im_X0_arrived : Cond.instanceMethod yX0_arrived ∈ zGW := zin_of 602 (by decide +kernel) (by decide +kernel)
theorem zw_sel_X0_arrived : Cond.selects RX0 yX0_arrived yX0_arrived ∈ zGW := zin_of 603 (by decide +kernel) (by decide +kernel)
set_option maxRecDepth 100000 in
theorem zw_cd_X0_arrived : Cond.code yX0_arrived cX0_arrived 1 (some .int) ∈ zGW := zin_of 604 (rfl) (by decide +kernel)
theorem zw_ml_L_97 : Cond.methodLink RL 97 yX3_best ∈ zGW := zin_of 605 (by decide +kernel) (by decide +kernel)
theorem zw_im_X3_best : Cond.instanceMethod yX3_best ∈ zGW := zin_of 606 (by decide +kernel) (by decide +kernel)
theorem zw_sel_X3_best : Cond.selects RX3 yX3_best yX3_best ∈ zGW := zin_of 607 (by decide +kernel) (by decide +kernel)
set_option maxRecDepth 100000 in
theorem zw_cd_X3_best : Cond.code yX3_best cX3_best 8 (some .int) ∈ zGW := zin_of 608 (rfl) (by decide +kernel)
theorem zw_ml_L_101 : Cond.methodLink RL 101 yX3_late ∈ zGW := zin_of 609 (by decide +kernel) (by decide +kernel)
theorem zw_im_X3_late : Cond.instanceMethod yX3_late ∈ zGW := zin_of 610 (by decide +kernel) (by decide +kernel)
theorem zw_sel_X3_late : Cond.selects RX3 yX3_late yX3_late ∈ zGW := zin_of 611 (by decide +kernel) (by decide +kernel)
set_option maxRecDepth 100000 in
theorem zw_cd_X3_late : Cond.code yX3_late cX3_late 4 (some .int) ∈ zGW := zin_of 612 (rfl) (by decide +kernel)
theorem zw_ml_X3_192 : Cond.methodLink RX3 192 yX0_passHour ∈ zGW := zin_of 613 (by decide +kernel) (by decide +kernel)
theorem zw_ml_L_105 : Cond.methodLink RL 105 yX3_least ∈ zGW := zin_of 614 (by decide +kernel) (by decide +kernel)
theorem zw_im_X3_least : Cond.instanceMethod yX3_least ∈ zGW := zin_of 615 (by decide +kernel) (by decide +kernel)
theorem zw_sel_X3_least : Cond.selects RX3 yX3_least yX3_least ∈ zGW := zin_of 616 (by decide +kernel) (by decide +kernel)
set_option maxRecDepth 100000 in
theorem zw_cd_X3_least : Cond.code yX3_least cX3_least 3 (some .int) ∈ zGW := zin_of 617 (rfl) (by decide +kernel)
theorem zw_ml_X3_196 : Cond.methodLink RX3 196 yX0_isAtGoal ∈ zGW := zin_of 618 (by decide +kernel) (by decide +kernel)
theorem zw_ml_L_109 : Cond.methodLink RL 109 yX3_alike ∈ zGW := zin_of 619 (by decide +kernel) (by decide +kernel)
theorem zw_im_X3_alike : Cond.instanceMethod yX3_alike ∈ zGW := zin_of 620 (by decide +kernel) (by decide +kernel)
theorem zw_sel_X3_alike : Cond.selects RX3 yX3_alike yX3_alike ∈ zGW := zin_of 621 (by decide +kernel) (by decide +kernel)
set_option maxRecDepth 100000 in
theorem zw_cd_X3_alike : Cond.code yX3_alike cX3_alike 3 (some .int) ∈ zGW := zin_of 622 (rfl) (by decide +kernel)
theorem zw_ml_L_113 : Cond.methodLink RL 113 yX3_alone ∈ zGW := zin_of 623 (by decide +kernel) (by decide +kernel)
theorem zw_im_X3_alone : Cond.instanceMethod yX3_alone ∈ zGW := zin_of 624 (by decide +kernel) (by decide +kernel)
theorem zw_sel_X3_alone : Cond.selects RX3 yX3_alone yX3_alone ∈ zGW := zin_of 625 (by decide +kernel) (by decide +kernel)
set_option maxRecDepth 100000 in
theorem zw_cd_X3_alone : Cond.code yX3_alone cX3_alone 4 (some .int) ∈ zGW := zin_of 626 (rfl) (by decide +kernel)
theorem zw_ml_X3_200 : Cond.methodLink RX3 200 yX0_leaveOnly ∈ zGW := zin_of 627 (by decide +kernel) (by decide +kernel)
theorem zw_im_X0_leaveOnly : Cond.instanceMethod yX0_leaveOnly ∈ zGW := zin_of 628 (by decide +kernel) (by decide +kernel)
theorem zw_sel_X0_leaveOnly : Cond.selects RX0 yX0_leaveOnly yX0_leaveOnly ∈ zGW := zin_of 629 (by decide +kernel) (by decide +kernel)
set_option maxRecDepth 100000 in
theorem zw_cd_X0_leaveOnly : Cond.code yX0_leaveOnly cX0_leaveOnly 2 none ∈ zGW := zin_of 630 (rfl) (by decide +kernel)
theorem zw_ml_L_117 : Cond.methodLink RL 117 yX3_luck ∈ zGW := zin_of 631 (by decide +kernel) (by decide +kernel)
theorem zw_im_X3_luck : Cond.instanceMethod yX3_luck ∈ zGW := zin_of 632 (by decide +kernel) (by decide +kernel)
theorem zw_sel_X3_luck : Cond.selects RX3 yX3_luck yX3_luck ∈ zGW := zin_of 633 (by decide +kernel) (by decide +kernel)
set_option maxRecDepth 100000 in
theorem zw_cd_X3_luck : Cond.code yX3_luck cX3_luck 9 (some .long) ∈ zGW := zin_of 634 (rfl) (by decide +kernel)
theorem zw_cst_X3_203 : Cond.constantLong RX3 203 (-1) ∈ zGW := zin_of 635 (by decide +kernel) (by decide +kernel)
theorem zw_ml_X3_205 : Cond.methodLink RX3 205 yX3_weightOf ∈ zGW := zin_of 636 (by decide +kernel) (by decide +kernel)
theorem zw_im_X3_weightOf : Cond.instanceMethod yX3_weightOf ∈ zGW := zin_of 638 (by decide +kernel) (by decide +kernel)
set_option maxRecDepth 100000 in
theorem zw_cd_X3_weightOf : Cond.code yX3_weightOf cX3_weightOf 7 (some .long) ∈ zGW := zin_of 639 (rfl) (by decide +kernel)
theorem zw_ml_X3_209 : Cond.methodLink RX3 209 yX3_arrivingBy ∈ zGW := zin_of 640 (by decide +kernel) (by decide +kernel)
theorem zw_im_X3_arrivingBy : Cond.instanceMethod yX3_arrivingBy ∈ zGW := zin_of 642 (by decide +kernel) (by decide +kernel)
set_option maxRecDepth 100000 in
theorem zw_cd_X3_arrivingBy : Cond.code yX3_arrivingBy cX3_arrivingBy 4 (some .int) ∈ zGW := zin_of 643 (rfl) (by decide +kernel)
theorem zw_ml_X3_212 : Cond.methodLink RX3 212 yX3_power ∈ zGW := zin_of 644 (by decide +kernel) (by decide +kernel)
theorem zw_st_X3_power : Cond.static yX3_power ∈ zGW := zin_of 645 (by decide +kernel) (by decide +kernel)
set_option maxRecDepth 100000 in
theorem zw_cd_X3_power : Cond.code yX3_power cX3_power 5 (some .long) ∈ zGW := zin_of 646 (rfl) (by decide +kernel)
theorem zw_ml_X3_216 : Cond.methodLink RX3 216 yX3_partOfFraction ∈ zGW := zin_of 647 (by decide +kernel) (by decide +kernel)
theorem zw_st_X3_partOfFraction : Cond.static yX3_partOfFraction ∈ zGW := zin_of 648 (by decide +kernel) (by decide +kernel)
set_option maxRecDepth 100000 in
theorem zw_cd_X3_partOfFraction : Cond.code yX3_partOfFraction cX3_partOfFraction 7 (some .long) ∈ zGW := zin_of 649 (rfl) (by decide +kernel)
theorem zw_ml_X3_271 : Cond.methodLink RX3 271 yX3_commonDivisor ∈ zGW := zin_of 650 (by decide +kernel) (by decide +kernel)
theorem zw_st_X3_commonDivisor : Cond.static yX3_commonDivisor ∈ zGW := zin_of 651 (by decide +kernel) (by decide +kernel)
set_option maxRecDepth 100000 in
theorem zw_cd_X3_commonDivisor : Cond.code yX3_commonDivisor cX3_commonDivisor 11 (some .long) ∈ zGW := zin_of 652 (rfl) (by decide +kernel)
theorem zw_ml_L_122 : Cond.methodLink RL 122 yX3_mean ∈ zGW := zin_of 653 (by decide +kernel) (by decide +kernel)
theorem zw_im_X3_mean : Cond.instanceMethod yX3_mean ∈ zGW := zin_of 654 (by decide +kernel) (by decide +kernel)
theorem zw_sel_X3_mean : Cond.selects RX3 yX3_mean yX3_mean ∈ zGW := zin_of 655 (by decide +kernel) (by decide +kernel)
set_option maxRecDepth 100000 in
theorem zw_cd_X3_mean : Cond.code yX3_mean cX3_mean 8 (some .long) ∈ zGW := zin_of 656 (rfl) (by decide +kernel)
theorem zw_ml_L_127 : Cond.methodLink RL 127 yX3_stay ∈ zGW := zin_of 657 (by decide +kernel) (by decide +kernel)
theorem zw_im_X3_stay : Cond.instanceMethod yX3_stay ∈ zGW := zin_of 658 (by decide +kernel) (by decide +kernel)
theorem zw_sel_X3_stay : Cond.selects RX3 yX3_stay yX3_stay ∈ zGW := zin_of 659 (by decide +kernel) (by decide +kernel)
set_option maxRecDepth 100000 in
theorem zw_cd_X3_stay : Cond.code yX3_stay cX3_stay 6 (some .long) ∈ zGW := zin_of 660 (rfl) (by decide +kernel)
theorem zw_ml_L_131 : Cond.methodLink RL 131 yX3_see ∈ zGW := zin_of 661 (by decide +kernel) (by decide +kernel)
theorem zw_im_X3_see : Cond.instanceMethod yX3_see ∈ zGW := zin_of 662 (by decide +kernel) (by decide +kernel)
theorem zw_sel_X3_see : Cond.selects RX3 yX3_see yX3_see ∈ zGW := zin_of 663 (by decide +kernel) (by decide +kernel)
set_option maxRecDepth 100000 in
theorem zw_cd_X3_see : Cond.code yX3_see cX3_see 3 (some .int) ∈ zGW := zin_of 664 (rfl) (by decide +kernel)
theorem zw_ml_L_135 : Cond.methodLink RL 135 yX3_forget ∈ zGW := zin_of 665 (by decide +kernel) (by decide +kernel)
theorem zw_im_X3_forget : Cond.instanceMethod yX3_forget ∈ zGW := zin_of 666 (by decide +kernel) (by decide +kernel)
theorem zw_sel_X3_forget : Cond.selects RX3 yX3_forget yX3_forget ∈ zGW := zin_of 667 (by decide +kernel) (by decide +kernel)
set_option maxRecDepth 100000 in
theorem zw_cd_X3_forget : Cond.code yX3_forget cX3_forget 3 (some .int) ∈ zGW := zin_of 668 (rfl) (by decide +kernel)
theorem zw_ml_L_139 : Cond.methodLink RL 139 yX3_fits ∈ zGW := zin_of 669 (by decide +kernel) (by decide +kernel)
theorem zw_im_X3_fits : Cond.instanceMethod yX3_fits ∈ zGW := zin_of 670 (by decide +kernel) (by decide +kernel)
theorem zw_sel_X3_fits : Cond.selects RX3 yX3_fits yX3_fits ∈ zGW := zin_of 671 (by decide +kernel) (by decide +kernel)
set_option maxRecDepth 100000 in
theorem zw_cd_X3_fits : Cond.code yX3_fits cX3_fits 6 (some .int) ∈ zGW := zin_of 672 (rfl) (by decide +kernel)
theorem zw_ml_X3_220 : Cond.methodLink RX3 220 yX3_isAsSeen ∈ zGW := zin_of 673 (by decide +kernel) (by decide +kernel)
theorem zw_im_X3_isAsSeen : Cond.instanceMethod yX3_isAsSeen ∈ zGW := zin_of 675 (by decide +kernel) (by decide +kernel)
set_option maxRecDepth 100000 in
theorem zw_cd_X3_isAsSeen : Cond.code yX3_isAsSeen cX3_isAsSeen 5 (some .boolean) ∈ zGW := zin_of 676 (rfl) (by decide +kernel)
theorem zw_ml_X3_260 : Cond.methodLink RX3 260 yX3_lastHourSeen ∈ zGW := zin_of 677 (by decide +kernel) (by decide +kernel)
theorem zw_im_X3_lastHourSeen : Cond.instanceMethod yX3_lastHourSeen ∈ zGW := zin_of 679 (by decide +kernel) (by decide +kernel)
set_option maxRecDepth 100000 in
theorem zw_cd_X3_lastHourSeen : Cond.code yX3_lastHourSeen cX3_lastHourSeen 3 (some .int) ∈ zGW := zin_of 680 (rfl) (by decide +kernel)
theorem zw_ml_X3_266 : Cond.methodLink RX3 266 Lib.Math.max.name ∈ zGW := zin_of 681 (by decide +kernel) (by decide +kernel)
theorem zw_ml_X3_263 : Cond.methodLink RX3 263 yX3_isAsSeenBehind ∈ zGW := zin_of 682 (by decide +kernel) (by decide +kernel)
theorem zw_im_X3_isAsSeenBehind : Cond.instanceMethod yX3_isAsSeenBehind ∈ zGW := zin_of 684 (by decide +kernel) (by decide +kernel)
set_option maxRecDepth 100000 in
theorem zw_cd_X3_isAsSeenBehind : Cond.code yX3_isAsSeenBehind cX3_isAsSeenBehind 3 (some .boolean) ∈ zGW := zin_of 685 (rfl) (by decide +kernel)
theorem zw_ml_L_143 : Cond.methodLink RL 143 yX3_kinds ∈ zGW := zin_of 686 (by decide +kernel) (by decide +kernel)
theorem zw_im_X3_kinds : Cond.instanceMethod yX3_kinds ∈ zGW := zin_of 687 (by decide +kernel) (by decide +kernel)
theorem zw_sel_X3_kinds : Cond.selects RX3 yX3_kinds yX3_kinds ∈ zGW := zin_of 688 (by decide +kernel) (by decide +kernel)
set_option maxRecDepth 100000 in
theorem zw_cd_X3_kinds : Cond.code yX3_kinds cX3_kinds 6 (some .int) ∈ zGW := zin_of 689 (rfl) (by decide +kernel)
theorem zw_ml_L_147 : Cond.methodLink RL 147 yX3_drift ∈ zGW := zin_of 690 (by decide +kernel) (by decide +kernel)
theorem zw_im_X3_drift : Cond.instanceMethod yX3_drift ∈ zGW := zin_of 691 (by decide +kernel) (by decide +kernel)
theorem zw_sel_X3_drift : Cond.selects RX3 yX3_drift yX3_drift ∈ zGW := zin_of 692 (by decide +kernel) (by decide +kernel)
set_option maxRecDepth 100000 in
theorem zw_cd_X3_drift : Cond.code yX3_drift cX3_drift 6 (some .int) ∈ zGW := zin_of 693 (rfl) (by decide +kernel)
theorem zw_cst_X3_223 : Cond.constant RX3 223 (1103515245) ∈ zGW := zin_of 694 (by decide +kernel) (by decide +kernel)
theorem zw_ml_L_152 : Cond.methodLink RL 152 yX3_keep ∈ zGW := zin_of 695 (by decide +kernel) (by decide +kernel)
theorem zw_im_X3_keep : Cond.instanceMethod yX3_keep ∈ zGW := zin_of 696 (by decide +kernel) (by decide +kernel)
theorem zw_sel_X3_keep : Cond.selects RX3 yX3_keep yX3_keep ∈ zGW := zin_of 697 (by decide +kernel) (by decide +kernel)
set_option maxRecDepth 100000 in
theorem zw_cd_X3_keep : Cond.code yX3_keep cX3_keep 3 (some .int) ∈ zGW := zin_of 698 (rfl) (by decide +kernel)
theorem zw_ml_X3_224 : Cond.methodLink RX3 224 yX3_isImage ∈ zGW := zin_of 699 (by decide +kernel) (by decide +kernel)
theorem zw_st_X3_isImage : Cond.static yX3_isImage ∈ zGW := zin_of 700 (by decide +kernel) (by decide +kernel)
set_option maxRecDepth 100000 in
theorem zw_cd_X3_isImage : Cond.code yX3_isImage cX3_isImage 1 (some .boolean) ∈ zGW := zin_of 701 (rfl) (by decide +kernel)
theorem zw_ml_L_156 : Cond.methodLink RL 156 yX3_back ∈ zGW := zin_of 702 (by decide +kernel) (by decide +kernel)
theorem zw_im_X3_back : Cond.instanceMethod yX3_back ∈ zGW := zin_of 703 (by decide +kernel) (by decide +kernel)
theorem zw_sel_X3_back : Cond.selects RX3 yX3_back yX3_back ∈ zGW := zin_of 704 (by decide +kernel) (by decide +kernel)
set_option maxRecDepth 100000 in
theorem zw_cd_X3_back : Cond.code yX3_back cX3_back 2 (some .int) ∈ zGW := zin_of 705 (rfl) (by decide +kernel)
theorem zw_ml_L_160 : Cond.methodLink RL 160 yX3_sheet ∈ zGW := zin_of 706 (by decide +kernel) (by decide +kernel)
theorem zw_im_X3_sheet : Cond.instanceMethod yX3_sheet ∈ zGW := zin_of 707 (by decide +kernel) (by decide +kernel)
theorem zw_sel_X3_sheet : Cond.selects RX3 yX3_sheet yX3_sheet ∈ zGW := zin_of 708 (by decide +kernel) (by decide +kernel)
set_option maxRecDepth 100000 in
theorem zw_cd_X3_sheet : Cond.code yX3_sheet cX3_sheet 4 (some .int) ∈ zGW := zin_of 709 (rfl) (by decide +kernel)
theorem zw_ml_X3_227 : Cond.methodLink RX3 227 yX3_isSheet ∈ zGW := zin_of 710 (by decide +kernel) (by decide +kernel)
theorem zw_st_X3_isSheet : Cond.static yX3_isSheet ∈ zGW := zin_of 711 (by decide +kernel) (by decide +kernel)
set_option maxRecDepth 100000 in
theorem zw_cd_X3_isSheet : Cond.code yX3_isSheet cX3_isSheet 1 (some .boolean) ∈ zGW := zin_of 712 (rfl) (by decide +kernel)
theorem zw_ml_X3_230 : Cond.methodLink RX3 230 yX3_isLane ∈ zGW := zin_of 713 (by decide +kernel) (by decide +kernel)
theorem zw_st_X3_isLane : Cond.static yX3_isLane ∈ zGW := zin_of 714 (by decide +kernel) (by decide +kernel)
set_option maxRecDepth 100000 in
theorem zw_cd_X3_isLane : Cond.code yX3_isLane cX3_isLane 1 (some .boolean) ∈ zGW := zin_of 715 (rfl) (by decide +kernel)
theorem zw_ml_X3_233 : Cond.methodLink RX3 233 yX1_renew ∈ zGW := zin_of 716 (by decide +kernel) (by decide +kernel)
theorem zw_im_X1_renew : Cond.instanceMethod yX1_renew ∈ zGW := zin_of 717 (by decide +kernel) (by decide +kernel)
theorem zw_sel_X1_renew : Cond.selects RX1 yX1_renew yX1_renew ∈ zGW := zin_of 718 (by decide +kernel) (by decide +kernel)
set_option maxRecDepth 100000 in
theorem zw_cd_X1_renew : Cond.code yX1_renew cX1_renew 4 none ∈ zGW := zin_of 719 (rfl) (by decide +kernel)
theorem zw_ml_L_164 : Cond.methodLink RL 164 yX3_put ∈ zGW := zin_of 720 (by decide +kernel) (by decide +kernel)
theorem zw_im_X3_put : Cond.instanceMethod yX3_put ∈ zGW := zin_of 721 (by decide +kernel) (by decide +kernel)
theorem zw_sel_X3_put : Cond.selects RX3 yX3_put yX3_put ∈ zGW := zin_of 722 (by decide +kernel) (by decide +kernel)
set_option maxRecDepth 100000 in
theorem zw_cd_X3_put : Cond.code yX3_put cX3_put 5 (some .int) ∈ zGW := zin_of 723 (rfl) (by decide +kernel)
theorem zw_ml_X3_236 : Cond.methodLink RX3 236 yX1_faultAt ∈ zGW := zin_of 724 (by decide +kernel) (by decide +kernel)
theorem zw_im_X1_faultAt : Cond.instanceMethod yX1_faultAt ∈ zGW := zin_of 725 (by decide +kernel) (by decide +kernel)
theorem zw_sel_X1_faultAt : Cond.selects RX1 yX1_faultAt yX1_faultAt ∈ zGW := zin_of 726 (by decide +kernel) (by decide +kernel)
set_option maxRecDepth 100000 in
theorem zw_cd_X1_faultAt : Cond.code yX1_faultAt cX1_faultAt 2 (some .int) ∈ zGW := zin_of 727 (rfl) (by decide +kernel)
theorem zw_ml_X1_22 : Cond.methodLink RX1 22 yX1_isNothing ∈ zGW := zin_of 728 (by decide +kernel) (by decide +kernel)
theorem zw_im_X1_isNothing : Cond.instanceMethod yX1_isNothing ∈ zGW := zin_of 729 (by decide +kernel) (by decide +kernel)
theorem zw_sel_X1_isNothing : Cond.selects RX1 yX1_isNothing yX1_isNothing ∈ zGW := zin_of 730 (by decide +kernel) (by decide +kernel)
set_option maxRecDepth 100000 in
theorem zw_cd_X1_isNothing : Cond.code yX1_isNothing cX1_isNothing 1 (some .boolean) ∈ zGW := zin_of 731 (rfl) (by decide +kernel)
theorem zw_ml_X3_239 : Cond.methodLink RX3 239 yX1_write ∈ zGW := zin_of 733 (by decide +kernel) (by decide +kernel)
theorem zw_im_X1_write : Cond.instanceMethod yX1_write ∈ zGW := zin_of 734 (by decide +kernel) (by decide +kernel)
theorem zw_sel_X1_write : Cond.selects RX1 yX1_write yX1_write ∈ zGW := zin_of 735 (by decide +kernel) (by decide +kernel)
set_option maxRecDepth 100000 in
theorem zw_cd_X1_write : Cond.code yX1_write cX1_write 3 none ∈ zGW := zin_of 736 (rfl) (by decide +kernel)
theorem zw_ml_L_168 : Cond.methodLink RL 168 yX3_read ∈ zGW := zin_of 737 (by decide +kernel) (by decide +kernel)
theorem zw_im_X3_read : Cond.instanceMethod yX3_read ∈ zGW := zin_of 738 (by decide +kernel) (by decide +kernel)
theorem zw_sel_X3_read : Cond.selects RX3 yX3_read yX3_read ∈ zGW := zin_of 739 (by decide +kernel) (by decide +kernel)
set_option maxRecDepth 100000 in
theorem zw_cd_X3_read : Cond.code yX3_read cX3_read 10 (some .int) ∈ zGW := zin_of 740 (rfl) (by decide +kernel)
theorem zw_ml_X3_242 : Cond.methodLink RX3 242 yX1_faultOfPair ∈ zGW := zin_of 741 (by decide +kernel) (by decide +kernel)
theorem zw_im_X1_faultOfPair : Cond.instanceMethod yX1_faultOfPair ∈ zGW := zin_of 742 (by decide +kernel) (by decide +kernel)
theorem zw_sel_X1_faultOfPair : Cond.selects RX1 yX1_faultOfPair yX1_faultOfPair ∈ zGW := zin_of 743 (by decide +kernel) (by decide +kernel)
set_option maxRecDepth 100000 in
theorem zw_cd_X1_faultOfPair : Cond.code yX1_faultOfPair cX1_faultOfPair 4 (some .int) ∈ zGW := zin_of 744 (rfl) (by decide +kernel)
theorem zw_ml_X1_30 : Cond.methodLink RX1 30 yX1_faultAt ∈ zGW := zin_of 745 (by decide +kernel) (by decide +kernel)
theorem zw_ml_L_173 : Cond.methodLink RL 173 yX3_torn ∈ zGW := zin_of 746 (by decide +kernel) (by decide +kernel)
theorem zw_im_X3_torn : Cond.instanceMethod yX3_torn ∈ zGW := zin_of 747 (by decide +kernel) (by decide +kernel)
theorem zw_sel_X3_torn : Cond.selects RX3 yX3_torn yX3_torn ∈ zGW := zin_of 748 (by decide +kernel) (by decide +kernel)
set_option maxRecDepth 100000 in
theorem zw_cd_X3_torn : Cond.code yX3_torn cX3_torn 1 (some .int) ∈ zGW := zin_of 749 (rfl) (by decide +kernel)
theorem zw_ml_L_177 : Cond.methodLink RL 177 yX3_count ∈ zGW := zin_of 750 (by decide +kernel) (by decide +kernel)
theorem zw_im_X3_count : Cond.instanceMethod yX3_count ∈ zGW := zin_of 751 (by decide +kernel) (by decide +kernel)
theorem zw_sel_X3_count : Cond.selects RX3 yX3_count yX3_count ∈ zGW := zin_of 752 (by decide +kernel) (by decide +kernel)
set_option maxRecDepth 100000 in
theorem zw_cd_X3_count : Cond.code yX3_count cX3_count 2 (some .int) ∈ zGW := zin_of 753 (rfl) (by decide +kernel)
theorem zw_ml_X3_248 : Cond.methodLink RX3 248 yX1_isNothing ∈ zGW := zin_of 754 (by decide +kernel) (by decide +kernel)
theorem zw_ml_X3_254 : Cond.methodLink RX3 254 yX0_allLevels ∈ zGW := zin_of 755 (by decide +kernel) (by decide +kernel)
theorem zw_im_X0_allLevels : Cond.instanceMethod yX0_allLevels ∈ zGW := zin_of 756 (by decide +kernel) (by decide +kernel)
theorem zw_sel_X0_allLevels : Cond.selects RX0 yX0_allLevels yX0_allLevels ∈ zGW := zin_of 757 (by decide +kernel) (by decide +kernel)
set_option maxRecDepth 100000 in
theorem zw_cd_X0_allLevels : Cond.code yX0_allLevels cX0_allLevels 3 (some .int) ∈ zGW := zin_of 758 (rfl) (by decide +kernel)
theorem zw_ml_X3_257 : Cond.methodLink RX3 257 yX0_wetWells ∈ zGW := zin_of 759 (by decide +kernel) (by decide +kernel)
theorem zw_im_X0_wetWells : Cond.instanceMethod yX0_wetWells ∈ zGW := zin_of 760 (by decide +kernel) (by decide +kernel)
theorem zw_sel_X0_wetWells : Cond.selects RX0 yX0_wetWells yX0_wetWells ∈ zGW := zin_of 761 (by decide +kernel) (by decide +kernel)
set_option maxRecDepth 100000 in
theorem zw_cd_X0_wetWells : Cond.code yX0_wetWells cX0_wetWells 3 (some .int) ∈ zGW := zin_of 762 (rfl) (by decide +kernel)
theorem zw_cl_L_10 : Cond.classLink RL 10 RX4 ∈ zGW := zin_of 763 (by decide +kernel) (by decide +kernel)
theorem zw_ins_X4 : Cond.instantiable RX4 36 ∈ zGW := zin_of 764 (by decide +kernel) (by decide +kernel)
theorem zw_ml_L_12 : Cond.methodLink RL 12 yX4_init ∈ zGW := zin_of 765 (by decide +kernel) (by decide +kernel)
theorem zw_im_X4_init : Cond.instanceMethod yX4_init ∈ zGW := zin_of 766 (by decide +kernel) (by decide +kernel)
set_option maxRecDepth 100000 in
theorem zw_cd_X4_init : Cond.code yX4_init cX4_init 1 none ∈ zGW := zin_of 767 (rfl) (by decide +kernel)
theorem zw_ml_X4_1 : Cond.methodLink RX4 1 objectInit ∈ zGW := zin_of 768 (by decide +kernel) (by decide +kernel)
theorem zw_fl_X4_7 : Cond.fieldLink RX4 7 (TX4 0).1 (TX4 0).2.1 (TX4 0).2.2.1 ∈ zGW := zin_of 769 (by decide +kernel) (by decide +kernel)
theorem zw_fl_X4_13 : Cond.fieldLink RX4 13 (TX4 1).1 (TX4 1).2.1 (TX4 1).2.2.1 ∈ zGW := zin_of 770 (by decide +kernel) (by decide +kernel)
theorem zw_fl_X4_150 : Cond.fieldLink RX4 150 (TX4 2).1 (TX4 2).2.1 (TX4 2).2.2.1 ∈ zGW := zin_of 771 (by decide +kernel) (by decide +kernel)
theorem zw_fl_X4_16 : Cond.fieldLink RX4 16 (TX4 3).1 (TX4 3).2.1 (TX4 3).2.2.1 ∈ zGW := zin_of 772 (by decide +kernel) (by decide +kernel)
theorem zw_fl_X4_153 : Cond.fieldLink RX4 153 (TX4 4).1 (TX4 4).2.1 (TX4 4).2.2.1 ∈ zGW := zin_of 773 (by decide +kernel) (by decide +kernel)
theorem zw_fl_X4_19 : Cond.fieldLink RX4 19 (TX4 5).1 (TX4 5).2.1 (TX4 5).2.2.1 ∈ zGW := zin_of 774 (by decide +kernel) (by decide +kernel)
theorem zw_fl_X4_156 : Cond.fieldLink RX4 156 (TX4 6).1 (TX4 6).2.1 (TX4 6).2.2.1 ∈ zGW := zin_of 775 (by decide +kernel) (by decide +kernel)
theorem zw_fl_X4_159 : Cond.fieldLink RX4 159 (TX4 7).1 (TX4 7).2.1 (TX4 7).2.2.1 ∈ zGW := zin_of 776 (by decide +kernel) (by decide +kernel)
theorem zw_fl_X4_23 : Cond.fieldLink RX4 23 (TX4 8).1 (TX4 8).2.1 (TX4 8).2.2.1 ∈ zGW := zin_of 777 (by decide +kernel) (by decide +kernel)
theorem zw_fl_X4_26 : Cond.fieldLink RX4 26 (TX4 9).1 (TX4 9).2.1 (TX4 9).2.2.1 ∈ zGW := zin_of 778 (by decide +kernel) (by decide +kernel)
theorem zw_fl_X4_29 : Cond.fieldLink RX4 29 (TX4 10).1 (TX4 10).2.1 (TX4 10).2.2.1 ∈ zGW := zin_of 779 (by decide +kernel) (by decide +kernel)
theorem zw_fl_X4_117 : Cond.fieldLink RX4 117 (TX4 11).1 (TX4 11).2.1 (TX4 11).2.2.1 ∈ zGW := zin_of 780 (by decide +kernel) (by decide +kernel)
theorem zw_fl_X4_120 : Cond.fieldLink RX4 120 (TX4 12).1 (TX4 12).2.1 (TX4 12).2.2.1 ∈ zGW := zin_of 781 (by decide +kernel) (by decide +kernel)
theorem zw_fl_X4_111 : Cond.fieldLink RX4 111 (TX4 13).1 (TX4 13).2.1 (TX4 13).2.2.1 ∈ zGW := zin_of 782 (by decide +kernel) (by decide +kernel)
theorem zw_fl_X4_135 : Cond.fieldLink RX4 135 (TX4 14).1 (TX4 14).2.1 (TX4 14).2.2.1 ∈ zGW := zin_of 783 (by decide +kernel) (by decide +kernel)
theorem zw_fl_X4_125 : Cond.fieldLink RX4 125 (TX4 15).1 (TX4 15).2.1 (TX4 15).2.2.1 ∈ zGW := zin_of 784 (by decide +kernel) (by decide +kernel)
theorem zw_fl_X4_128 : Cond.fieldLink RX4 128 (TX4 16).1 (TX4 16).2.1 (TX4 16).2.2.1 ∈ zGW := zin_of 785 (by decide +kernel) (by decide +kernel)
theorem zw_fl_X4_32 : Cond.fieldLink RX4 32 (TX4 17).1 (TX4 17).2.1 (TX4 17).2.2.1 ∈ zGW := zin_of 786 (by decide +kernel) (by decide +kernel)
theorem zw_fl_X4_63 : Cond.fieldLink RX4 63 (TX4 18).1 (TX4 18).2.1 (TX4 18).2.2.1 ∈ zGW := zin_of 787 (by decide +kernel) (by decide +kernel)
theorem zw_fl_X4_147 : Cond.fieldLink RX4 147 (TX4 19).1 (TX4 19).2.1 (TX4 19).2.2.1 ∈ zGW := zin_of 788 (by decide +kernel) (by decide +kernel)
theorem zw_fl_X4_66 : Cond.fieldLink RX4 66 (TX4 20).1 (TX4 20).2.1 (TX4 20).2.2.1 ∈ zGW := zin_of 789 (by decide +kernel) (by decide +kernel)
theorem zw_fl_X4_72 : Cond.fieldLink RX4 72 (TX4 21).1 (TX4 21).2.1 (TX4 21).2.2.1 ∈ zGW := zin_of 790 (by decide +kernel) (by decide +kernel)
theorem zw_fl_X4_78 : Cond.fieldLink RX4 78 (TX4 22).1 (TX4 22).2.1 (TX4 22).2.2.1 ∈ zGW := zin_of 791 (by decide +kernel) (by decide +kernel)
theorem zw_fl_X4_69 : Cond.fieldLink RX4 69 (TX4 23).1 (TX4 23).2.1 (TX4 23).2.2.1 ∈ zGW := zin_of 792 (by decide +kernel) (by decide +kernel)
theorem zw_fl_X4_75 : Cond.fieldLink RX4 75 (TX4 24).1 (TX4 24).2.1 (TX4 24).2.2.1 ∈ zGW := zin_of 793 (by decide +kernel) (by decide +kernel)
theorem zw_fl_X4_85 : Cond.fieldLink RX4 85 (TX4 25).1 (TX4 25).2.1 (TX4 25).2.2.1 ∈ zGW := zin_of 794 (by decide +kernel) (by decide +kernel)
theorem zw_fl_X4_35 : Cond.fieldLink RX4 35 (TX4 26).1 (TX4 26).2.1 (TX4 26).2.2.1 ∈ zGW := zin_of 795 (by decide +kernel) (by decide +kernel)
theorem zw_fl_X4_38 : Cond.fieldLink RX4 38 (TX4 27).1 (TX4 27).2.1 (TX4 27).2.2.1 ∈ zGW := zin_of 796 (by decide +kernel) (by decide +kernel)
theorem zw_fl_X4_253 : Cond.fieldLink RX4 253 (TX4 28).1 (TX4 28).2.1 (TX4 28).2.2.1 ∈ zGW := zin_of 797 (by decide +kernel) (by decide +kernel)
theorem zw_fl_X4_41 : Cond.fieldLink RX4 41 (TX4 29).1 (TX4 29).2.1 (TX4 29).2.2.1 ∈ zGW := zin_of 798 (by decide +kernel) (by decide +kernel)
theorem zw_fl_X4_162 : Cond.fieldLink RX4 162 (TX4 30).1 (TX4 30).2.1 (TX4 30).2.2.1 ∈ zGW := zin_of 799 (by decide +kernel) (by decide +kernel)
theorem zw_fl_X4_44 : Cond.fieldLink RX4 44 (TX4 31).1 (TX4 31).2.1 (TX4 31).2.2.1 ∈ zGW := zin_of 800 (by decide +kernel) (by decide +kernel)
theorem zw_fl_X4_48 : Cond.fieldLink RX4 48 (TX4 32).1 (TX4 32).2.1 (TX4 32).2.2.1 ∈ zGW := zin_of 801 (by decide +kernel) (by decide +kernel)
theorem zw_fl_X4_51 : Cond.fieldLink RX4 51 (TX4 33).1 (TX4 33).2.1 (TX4 33).2.2.1 ∈ zGW := zin_of 802 (by decide +kernel) (by decide +kernel)
theorem zw_fl_X4_54 : Cond.fieldLink RX4 54 (TX4 34).1 (TX4 34).2.1 (TX4 34).2.2.1 ∈ zGW := zin_of 803 (by decide +kernel) (by decide +kernel)
theorem zw_fl_X4_285 : Cond.fieldLink RX4 285 (TX4 35).1 (TX4 35).2.1 (TX4 35).2.2.1 ∈ zGW := zin_of 804 (by decide +kernel) (by decide +kernel)
theorem zw_ml_L_17 : Cond.methodLink RL 17 yX4_feed ∈ zGW := zin_of 878 (by decide +kernel) (by decide +kernel)
theorem zw_im_X4_feed : Cond.instanceMethod yX4_feed ∈ zGW := zin_of 879 (by decide +kernel) (by decide +kernel)
theorem zw_sel_X4_feed : Cond.selects RX4 yX4_feed yX4_feed ∈ zGW := zin_of 880 (by decide +kernel) (by decide +kernel)
set_option maxRecDepth 100000 in
theorem zw_cd_X4_feed : Cond.code yX4_feed cX4_feed 2 (some .int) ∈ zGW := zin_of 881 (rfl) (by decide +kernel)
theorem zw_cst_X4_57 : Cond.constantLong RX4 57 (127) ∈ zGW := zin_of 882 (by decide +kernel) (by decide +kernel)
theorem zw_ml_X4_59 : Cond.methodLink RX4 59 yX4_in ∈ zGW := zin_of 883 (by decide +kernel) (by decide +kernel)
theorem zw_st_X4_in : Cond.static yX4_in ∈ zGW := zin_of 884 (by decide +kernel) (by decide +kernel)
set_option maxRecDepth 100000 in
theorem zw_cd_X4_in : Cond.code yX4_in cX4_in 6 (some .boolean) ∈ zGW := zin_of 885 (rfl) (by decide +kernel)
theorem zw_ml_L_21 : Cond.methodLink RL 21 yX4_end ∈ zGW := zin_of 886 (by decide +kernel) (by decide +kernel)
theorem zw_im_X4_end : Cond.instanceMethod yX4_end ∈ zGW := zin_of 887 (by decide +kernel) (by decide +kernel)
theorem zw_sel_X4_end : Cond.selects RX4 yX4_end yX4_end ∈ zGW := zin_of 888 (by decide +kernel) (by decide +kernel)
set_option maxRecDepth 100000 in
theorem zw_cd_X4_end : Cond.code yX4_end cX4_end 3 (some .int) ∈ zGW := zin_of 889 (rfl) (by decide +kernel)
theorem zw_ml_L_26 : Cond.methodLink RL 26 yX4_text ∈ zGW := zin_of 890 (by decide +kernel) (by decide +kernel)
theorem zw_im_X4_text : Cond.instanceMethod yX4_text ∈ zGW := zin_of 891 (by decide +kernel) (by decide +kernel)
theorem zw_sel_X4_text : Cond.selects RX4 yX4_text yX4_text ∈ zGW := zin_of 892 (by decide +kernel) (by decide +kernel)
set_option maxRecDepth 100000 in
theorem zw_cd_X4_text : Cond.code yX4_text cX4_text 3 (some .int) ∈ zGW := zin_of 893 (rfl) (by decide +kernel)
theorem zw_ml_X4_100 : Cond.methodLink RX4 100 yX4_step ∈ zGW := zin_of 894 (by decide +kernel) (by decide +kernel)
theorem zw_im_X4_step : Cond.instanceMethod yX4_step ∈ zGW := zin_of 896 (by decide +kernel) (by decide +kernel)
set_option maxRecDepth 100000 in
theorem zw_cd_X4_step : Cond.code yX4_step cX4_step 2 none ∈ zGW := zin_of 897 (rfl) (by decide +kernel)
theorem zw_ml_X4_81 : Cond.methodLink RX4 81 yX4_byteAt ∈ zGW := zin_of 898 (by decide +kernel) (by decide +kernel)
theorem zw_im_X4_byteAt : Cond.instanceMethod yX4_byteAt ∈ zGW := zin_of 900 (by decide +kernel) (by decide +kernel)
set_option maxRecDepth 100000 in
theorem zw_cd_X4_byteAt : Cond.code yX4_byteAt cX4_byteAt 2 (some .int) ∈ zGW := zin_of 901 (rfl) (by decide +kernel)
theorem zw_cst_X4_88 : Cond.constantLong RX4 88 (97) ∈ zGW := zin_of 902 (by decide +kernel) (by decide +kernel)
theorem zw_cst_X4_90 : Cond.constantLong RX4 90 (122) ∈ zGW := zin_of 903 (by decide +kernel) (by decide +kernel)
theorem zw_cst_X4_92 : Cond.constantLong RX4 92 (48) ∈ zGW := zin_of 904 (by decide +kernel) (by decide +kernel)
theorem zw_cst_X4_94 : Cond.constantLong RX4 94 (57) ∈ zGW := zin_of 905 (by decide +kernel) (by decide +kernel)
theorem zw_ml_X4_96 : Cond.methodLink RX4 96 yX4_fails ∈ zGW := zin_of 906 (by decide +kernel) (by decide +kernel)
theorem zw_im_X4_fails : Cond.instanceMethod yX4_fails ∈ zGW := zin_of 908 (by decide +kernel) (by decide +kernel)
set_option maxRecDepth 100000 in
theorem zw_cd_X4_fails : Cond.code yX4_fails cX4_fails 2 none ∈ zGW := zin_of 909 (rfl) (by decide +kernel)
theorem zw_ml_X4_144 : Cond.methodLink RX4 144 yX4_readLine ∈ zGW := zin_of 910 (by decide +kernel) (by decide +kernel)
theorem zw_im_X4_readLine : Cond.instanceMethod yX4_readLine ∈ zGW := zin_of 912 (by decide +kernel) (by decide +kernel)
set_option maxRecDepth 100000 in
theorem zw_cd_X4_readLine : Cond.code yX4_readLine cX4_readLine 2 none ∈ zGW := zin_of 913 (rfl) (by decide +kernel)
theorem zw_ml_X4_103 : Cond.methodLink RX4 103 yX4_nameHere ∈ zGW := zin_of 914 (by decide +kernel) (by decide +kernel)
theorem zw_im_X4_nameHere : Cond.instanceMethod yX4_nameHere ∈ zGW := zin_of 916 (by decide +kernel) (by decide +kernel)
set_option maxRecDepth 100000 in
theorem zw_cd_X4_nameHere : Cond.code yX4_nameHere cX4_nameHere 4 (some .int) ∈ zGW := zin_of 917 (rfl) (by decide +kernel)
theorem zw_cst_X4_131 : Cond.constantLong RX4 131 (7) ∈ zGW := zin_of 918 (by decide +kernel) (by decide +kernel)
theorem zw_cst_X4_133 : Cond.constantLong RX4 133 (5) ∈ zGW := zin_of 919 (by decide +kernel) (by decide +kernel)
theorem zw_ml_X4_138 : Cond.methodLink RX4 138 yX4_readOnce ∈ zGW := zin_of 920 (by decide +kernel) (by decide +kernel)
theorem zw_im_X4_readOnce : Cond.instanceMethod yX4_readOnce ∈ zGW := zin_of 922 (by decide +kernel) (by decide +kernel)
set_option maxRecDepth 100000 in
theorem zw_cd_X4_readOnce : Cond.code yX4_readOnce cX4_readOnce 2 none ∈ zGW := zin_of 923 (rfl) (by decide +kernel)
theorem zw_ml_X4_107 : Cond.methodLink RX4 107 yX4_number ∈ zGW := zin_of 924 (by decide +kernel) (by decide +kernel)
theorem zw_im_X4_number : Cond.instanceMethod yX4_number ∈ zGW := zin_of 926 (by decide +kernel) (by decide +kernel)
set_option maxRecDepth 100000 in
theorem zw_cd_X4_number : Cond.code yX4_number cX4_number 4 (some .int) ∈ zGW := zin_of 927 (rfl) (by decide +kernel)
theorem zw_ml_X4_114 : Cond.methodLink RX4 114 yX4_named ∈ zGW := zin_of 928 (by decide +kernel) (by decide +kernel)
theorem zw_im_X4_named : Cond.instanceMethod yX4_named ∈ zGW := zin_of 930 (by decide +kernel) (by decide +kernel)
set_option maxRecDepth 100000 in
theorem zw_cd_X4_named : Cond.code yX4_named cX4_named 4 (some .int) ∈ zGW := zin_of 931 (rfl) (by decide +kernel)
theorem zw_ml_X4_141 : Cond.methodLink RX4 141 yX4_readMore ∈ zGW := zin_of 932 (by decide +kernel) (by decide +kernel)
theorem zw_im_X4_readMore : Cond.instanceMethod yX4_readMore ∈ zGW := zin_of 934 (by decide +kernel) (by decide +kernel)
set_option maxRecDepth 100000 in
theorem zw_cd_X4_readMore : Cond.code yX4_readMore cX4_readMore 3 none ∈ zGW := zin_of 935 (rfl) (by decide +kernel)
theorem zw_cst_X4_123 : Cond.constantLong RX4 123 (2) ∈ zGW := zin_of 936 (by decide +kernel) (by decide +kernel)
theorem zw_ml_L_30 : Cond.methodLink RL 30 yX4_fault ∈ zGW := zin_of 937 (by decide +kernel) (by decide +kernel)
theorem zw_im_X4_fault : Cond.instanceMethod yX4_fault ∈ zGW := zin_of 938 (by decide +kernel) (by decide +kernel)
theorem zw_sel_X4_fault : Cond.selects RX4 yX4_fault yX4_fault ∈ zGW := zin_of 939 (by decide +kernel) (by decide +kernel)
set_option maxRecDepth 100000 in
theorem zw_cd_X4_fault : Cond.code yX4_fault cX4_fault 1 (some .int) ∈ zGW := zin_of 940 (rfl) (by decide +kernel)
theorem zw_ml_L_34 : Cond.methodLink RL 34 yX4_rule ∈ zGW := zin_of 941 (by decide +kernel) (by decide +kernel)
theorem zw_im_X4_rule : Cond.instanceMethod yX4_rule ∈ zGW := zin_of 942 (by decide +kernel) (by decide +kernel)
theorem zw_sel_X4_rule : Cond.selects RX4 yX4_rule yX4_rule ∈ zGW := zin_of 943 (by decide +kernel) (by decide +kernel)
set_option maxRecDepth 100000 in
theorem zw_cd_X4_rule : Cond.code yX4_rule cX4_rule 2 (some .int) ∈ zGW := zin_of 944 (rfl) (by decide +kernel)
theorem zw_ml_X4_171 : Cond.methodLink RX4 171 yX4_hourOn ∈ zGW := zin_of 945 (by decide +kernel) (by decide +kernel)
theorem zw_im_X4_hourOn : Cond.instanceMethod yX4_hourOn ∈ zGW := zin_of 947 (by decide +kernel) (by decide +kernel)
set_option maxRecDepth 100000 in
theorem zw_cd_X4_hourOn : Cond.code yX4_hourOn cX4_hourOn 2 (some .int) ∈ zGW := zin_of 948 (rfl) (by decide +kernel)
theorem zw_ml_L_39 : Cond.methodLink RL 39 yX4_one ∈ zGW := zin_of 949 (by decide +kernel) (by decide +kernel)
theorem zw_im_X4_one : Cond.instanceMethod yX4_one ∈ zGW := zin_of 950 (by decide +kernel) (by decide +kernel)
theorem zw_sel_X4_one : Cond.selects RX4 yX4_one yX4_one ∈ zGW := zin_of 951 (by decide +kernel) (by decide +kernel)
set_option maxRecDepth 100000 in
theorem zw_cd_X4_one : Cond.code yX4_one cX4_one 3 (some .int) ∈ zGW := zin_of 952 (rfl) (by decide +kernel)
theorem zw_ml_X4_177 : Cond.methodLink RX4 177 yX4_isOne ∈ zGW := zin_of 953 (by decide +kernel) (by decide +kernel)
theorem zw_im_X4_isOne : Cond.instanceMethod yX4_isOne ∈ zGW := zin_of 955 (by decide +kernel) (by decide +kernel)
set_option maxRecDepth 100000 in
theorem zw_cd_X4_isOne : Cond.code yX4_isOne cX4_isOne 2 (some .boolean) ∈ zGW := zin_of 956 (rfl) (by decide +kernel)
theorem zw_ml_X4_167 : Cond.methodLink RX4 167 yX4_isDown ∈ zGW := zin_of 957 (by decide +kernel) (by decide +kernel)
theorem zw_im_X4_isDown : Cond.instanceMethod yX4_isDown ∈ zGW := zin_of 959 (by decide +kernel) (by decide +kernel)
set_option maxRecDepth 100000 in
theorem zw_cd_X4_isDown : Cond.code yX4_isDown cX4_isDown 3 (some .boolean) ∈ zGW := zin_of 960 (rfl) (by decide +kernel)
theorem zw_ml_X4_181 : Cond.methodLink RX4 181 yX4_wantOf ∈ zGW := zin_of 961 (by decide +kernel) (by decide +kernel)
theorem zw_im_X4_wantOf : Cond.instanceMethod yX4_wantOf ∈ zGW := zin_of 963 (by decide +kernel) (by decide +kernel)
set_option maxRecDepth 100000 in
theorem zw_cd_X4_wantOf : Cond.code yX4_wantOf cX4_wantOf 4 (some .int) ∈ zGW := zin_of 964 (rfl) (by decide +kernel)
theorem zw_ml_X4_174 : Cond.methodLink RX4 174 yX4_pourer ∈ zGW := zin_of 965 (by decide +kernel) (by decide +kernel)
theorem zw_im_X4_pourer : Cond.instanceMethod yX4_pourer ∈ zGW := zin_of 967 (by decide +kernel) (by decide +kernel)
set_option maxRecDepth 100000 in
theorem zw_cd_X4_pourer : Cond.code yX4_pourer cX4_pourer 2 (some .int) ∈ zGW := zin_of 968 (rfl) (by decide +kernel)
theorem zw_ml_L_43 : Cond.methodLink RL 43 yX4_well ∈ zGW := zin_of 969 (by decide +kernel) (by decide +kernel)
theorem zw_im_X4_well : Cond.instanceMethod yX4_well ∈ zGW := zin_of 970 (by decide +kernel) (by decide +kernel)
theorem zw_sel_X4_well : Cond.selects RX4 yX4_well yX4_well ∈ zGW := zin_of 971 (by decide +kernel) (by decide +kernel)
set_option maxRecDepth 100000 in
theorem zw_cd_X4_well : Cond.code yX4_well cX4_well 3 (some .int) ∈ zGW := zin_of 972 (rfl) (by decide +kernel)
theorem zw_ml_X4_184 : Cond.methodLink RX4 184 yX4_isWell ∈ zGW := zin_of 973 (by decide +kernel) (by decide +kernel)
theorem zw_im_X4_isWell : Cond.instanceMethod yX4_isWell ∈ zGW := zin_of 975 (by decide +kernel) (by decide +kernel)
set_option maxRecDepth 100000 in
theorem zw_cd_X4_isWell : Cond.code yX4_isWell cX4_isWell 2 (some .boolean) ∈ zGW := zin_of 976 (rfl) (by decide +kernel)
theorem zw_ml_L_47 : Cond.methodLink RL 47 yX4_pours ∈ zGW := zin_of 977 (by decide +kernel) (by decide +kernel)
theorem zw_im_X4_pours : Cond.instanceMethod yX4_pours ∈ zGW := zin_of 978 (by decide +kernel) (by decide +kernel)
theorem zw_sel_X4_pours : Cond.selects RX4 yX4_pours yX4_pours ∈ zGW := zin_of 979 (by decide +kernel) (by decide +kernel)
set_option maxRecDepth 100000 in
theorem zw_cd_X4_pours : Cond.code yX4_pours cX4_pours 1 (some .int) ∈ zGW := zin_of 980 (rfl) (by decide +kernel)
theorem zw_ml_L_52 : Cond.methodLink RL 52 yX4_loses ∈ zGW := zin_of 981 (by decide +kernel) (by decide +kernel)
theorem zw_im_X4_loses : Cond.instanceMethod yX4_loses ∈ zGW := zin_of 982 (by decide +kernel) (by decide +kernel)
theorem zw_sel_X4_loses : Cond.selects RX4 yX4_loses yX4_loses ∈ zGW := zin_of 983 (by decide +kernel) (by decide +kernel)
set_option maxRecDepth 100000 in
theorem zw_cd_X4_loses : Cond.code yX4_loses cX4_loses 3 (some .int) ∈ zGW := zin_of 984 (rfl) (by decide +kernel)
theorem zw_ml_X4_194 : Cond.methodLink RX4 194 yX4_lossOf ∈ zGW := zin_of 985 (by decide +kernel) (by decide +kernel)
theorem zw_im_X4_lossOf : Cond.instanceMethod yX4_lossOf ∈ zGW := zin_of 987 (by decide +kernel) (by decide +kernel)
set_option maxRecDepth 100000 in
theorem zw_cd_X4_lossOf : Cond.code yX4_lossOf cX4_lossOf 6 (some .int) ∈ zGW := zin_of 988 (rfl) (by decide +kernel)
theorem zw_ml_X4_191 : Cond.methodLink RX4 191 yX4_isDay ∈ zGW := zin_of 989 (by decide +kernel) (by decide +kernel)
theorem zw_im_X4_isDay : Cond.instanceMethod yX4_isDay ∈ zGW := zin_of 991 (by decide +kernel) (by decide +kernel)
set_option maxRecDepth 100000 in
theorem zw_cd_X4_isDay : Cond.code yX4_isDay cX4_isDay 2 (some .boolean) ∈ zGW := zin_of 992 (rfl) (by decide +kernel)
theorem zw_cst_X4_187 : Cond.constantLong RX4 187 (6) ∈ zGW := zin_of 993 (by decide +kernel) (by decide +kernel)
theorem zw_cst_X4_189 : Cond.constantLong RX4 189 (17) ∈ zGW := zin_of 994 (by decide +kernel) (by decide +kernel)
theorem zw_ml_L_56 : Cond.methodLink RL 56 yX4_teach ∈ zGW := zin_of 995 (by decide +kernel) (by decide +kernel)
theorem zw_im_X4_teach : Cond.instanceMethod yX4_teach ∈ zGW := zin_of 996 (by decide +kernel) (by decide +kernel)
theorem zw_sel_X4_teach : Cond.selects RX4 yX4_teach yX4_teach ∈ zGW := zin_of 997 (by decide +kernel) (by decide +kernel)
set_option maxRecDepth 100000 in
theorem zw_cd_X4_teach : Cond.code yX4_teach cX4_teach 3 (some .int) ∈ zGW := zin_of 998 (rfl) (by decide +kernel)
theorem zw_cst_X4_198 : Cond.constantLong RX4 198 (4) ∈ zGW := zin_of 999 (by decide +kernel) (by decide +kernel)
theorem zw_ml_X4_200 : Cond.methodLink RX4 200 yX4_sets ∈ zGW := zin_of 1000 (by decide +kernel) (by decide +kernel)
theorem zw_im_X4_sets : Cond.instanceMethod yX4_sets ∈ zGW := zin_of 1002 (by decide +kernel) (by decide +kernel)
set_option maxRecDepth 100000 in
theorem zw_cd_X4_sets : Cond.code yX4_sets cX4_sets 5 (some .int) ∈ zGW := zin_of 1003 (rfl) (by decide +kernel)
theorem zw_ml_L_60 : Cond.methodLink RL 60 yX4_drink ∈ zGW := zin_of 1004 (by decide +kernel) (by decide +kernel)
theorem zw_im_X4_drink : Cond.instanceMethod yX4_drink ∈ zGW := zin_of 1005 (by decide +kernel) (by decide +kernel)
theorem zw_sel_X4_drink : Cond.selects RX4 yX4_drink yX4_drink ∈ zGW := zin_of 1006 (by decide +kernel) (by decide +kernel)
set_option maxRecDepth 100000 in
theorem zw_cd_X4_drink : Cond.code yX4_drink cX4_drink 3 (some .int) ∈ zGW := zin_of 1007 (rfl) (by decide +kernel)
theorem zw_ml_X4_206 : Cond.methodLink RX4 206 yX4_drinks ∈ zGW := zin_of 1008 (by decide +kernel) (by decide +kernel)
theorem zw_im_X4_drinks : Cond.instanceMethod yX4_drinks ∈ zGW := zin_of 1010 (by decide +kernel) (by decide +kernel)
set_option maxRecDepth 100000 in
theorem zw_cd_X4_drinks : Cond.code yX4_drinks cX4_drinks 3 (some .int) ∈ zGW := zin_of 1011 (rfl) (by decide +kernel)
theorem zw_cst_X4_204 : Cond.constantLong RX4 204 (20) ∈ zGW := zin_of 1012 (by decide +kernel) (by decide +kernel)
theorem zw_ml_L_64 : Cond.methodLink RL 64 yX4_fill ∈ zGW := zin_of 1013 (by decide +kernel) (by decide +kernel)
theorem zw_im_X4_fill : Cond.instanceMethod yX4_fill ∈ zGW := zin_of 1014 (by decide +kernel) (by decide +kernel)
theorem zw_sel_X4_fill : Cond.selects RX4 yX4_fill yX4_fill ∈ zGW := zin_of 1015 (by decide +kernel) (by decide +kernel)
set_option maxRecDepth 100000 in
theorem zw_cd_X4_fill : Cond.code yX4_fill cX4_fill 2 (some .int) ∈ zGW := zin_of 1016 (rfl) (by decide +kernel)
theorem zw_cst_X4_209 : Cond.constantLong RX4 209 (60) ∈ zGW := zin_of 1017 (by decide +kernel) (by decide +kernel)
theorem zw_ml_L_68 : Cond.methodLink RL 68 yX4_plan ∈ zGW := zin_of 1018 (by decide +kernel) (by decide +kernel)
theorem zw_im_X4_plan : Cond.instanceMethod yX4_plan ∈ zGW := zin_of 1019 (by decide +kernel) (by decide +kernel)
theorem zw_sel_X4_plan : Cond.selects RX4 yX4_plan yX4_plan ∈ zGW := zin_of 1020 (by decide +kernel) (by decide +kernel)
set_option maxRecDepth 100000 in
theorem zw_cd_X4_plan : Cond.code yX4_plan cX4_plan 2 (some .int) ∈ zGW := zin_of 1021 (rfl) (by decide +kernel)
theorem zw_ml_X4_211 : Cond.methodLink RX4 211 yX4_isPlan ∈ zGW := zin_of 1022 (by decide +kernel) (by decide +kernel)
theorem zw_st_X4_isPlan : Cond.static yX4_isPlan ∈ zGW := zin_of 1023 (by decide +kernel) (by decide +kernel)
set_option maxRecDepth 100000 in
theorem zw_cd_X4_isPlan : Cond.code yX4_isPlan cX4_isPlan 1 (some .boolean) ∈ zGW := zin_of 1024 (rfl) (by decide +kernel)
theorem zw_cst_X4_165 : Cond.constantLong RX4 165 (3) ∈ zGW := zin_of 1025 (by decide +kernel) (by decide +kernel)
theorem zw_ml_L_72 : Cond.methodLink RL 72 yX4_wet ∈ zGW := zin_of 1026 (by decide +kernel) (by decide +kernel)
theorem zw_im_X4_wet : Cond.instanceMethod yX4_wet ∈ zGW := zin_of 1027 (by decide +kernel) (by decide +kernel)
theorem zw_sel_X4_wet : Cond.selects RX4 yX4_wet yX4_wet ∈ zGW := zin_of 1028 (by decide +kernel) (by decide +kernel)
set_option maxRecDepth 100000 in
theorem zw_cd_X4_wet : Cond.code yX4_wet cX4_wet 3 (some .int) ∈ zGW := zin_of 1029 (rfl) (by decide +kernel)
theorem zw_ml_L_76 : Cond.methodLink RL 76 yX4_odd ∈ zGW := zin_of 1030 (by decide +kernel) (by decide +kernel)
theorem zw_im_X4_odd : Cond.instanceMethod yX4_odd ∈ zGW := zin_of 1031 (by decide +kernel) (by decide +kernel)
theorem zw_sel_X4_odd : Cond.selects RX4 yX4_odd yX4_odd ∈ zGW := zin_of 1032 (by decide +kernel) (by decide +kernel)
set_option maxRecDepth 100000 in
theorem zw_cd_X4_odd : Cond.code yX4_odd cX4_odd 3 (some .int) ∈ zGW := zin_of 1033 (rfl) (by decide +kernel)
theorem zw_cst_X4_214 : Cond.constantLong RX4 214 (10) ∈ zGW := zin_of 1034 (by decide +kernel) (by decide +kernel)
theorem zw_ml_L_80 : Cond.methodLink RL 80 yX4_lay ∈ zGW := zin_of 1035 (by decide +kernel) (by decide +kernel)
theorem zw_im_X4_lay : Cond.instanceMethod yX4_lay ∈ zGW := zin_of 1036 (by decide +kernel) (by decide +kernel)
theorem zw_sel_X4_lay : Cond.selects RX4 yX4_lay yX4_lay ∈ zGW := zin_of 1037 (by decide +kernel) (by decide +kernel)
set_option maxRecDepth 100000 in
theorem zw_cd_X4_lay : Cond.code yX4_lay cX4_lay 3 (some .int) ∈ zGW := zin_of 1038 (rfl) (by decide +kernel)
theorem zw_cst_X4_216 : Cond.constantLong RX4 216 (9) ∈ zGW := zin_of 1039 (by decide +kernel) (by decide +kernel)
theorem zw_ml_L_84 : Cond.methodLink RL 84 yX4_go ∈ zGW := zin_of 1040 (by decide +kernel) (by decide +kernel)
theorem zw_im_X4_go : Cond.instanceMethod yX4_go ∈ zGW := zin_of 1041 (by decide +kernel) (by decide +kernel)
theorem zw_sel_X4_go : Cond.selects RX4 yX4_go yX4_go ∈ zGW := zin_of 1042 (by decide +kernel) (by decide +kernel)
set_option maxRecDepth 100000 in
theorem zw_cd_X4_go : Cond.code yX4_go cX4_go 2 (some .int) ∈ zGW := zin_of 1043 (rfl) (by decide +kernel)
theorem zw_ml_X4_244 : Cond.methodLink RX4 244 yX4_goesOn ∈ zGW := zin_of 1044 (by decide +kernel) (by decide +kernel)
theorem zw_im_X4_goesOn : Cond.instanceMethod yX4_goesOn ∈ zGW := zin_of 1046 (by decide +kernel) (by decide +kernel)
set_option maxRecDepth 100000 in
theorem zw_cd_X4_goesOn : Cond.code yX4_goesOn cX4_goesOn 5 none ∈ zGW := zin_of 1047 (rfl) (by decide +kernel)
theorem zw_ml_X4_237 : Cond.methodLink RX4 237 yX4_isWalking ∈ zGW := zin_of 1048 (by decide +kernel) (by decide +kernel)
theorem zw_im_X4_isWalking : Cond.instanceMethod yX4_isWalking ∈ zGW := zin_of 1050 (by decide +kernel) (by decide +kernel)
set_option maxRecDepth 100000 in
theorem zw_cd_X4_isWalking : Cond.code yX4_isWalking cX4_isWalking 3 (some .boolean) ∈ zGW := zin_of 1051 (rfl) (by decide +kernel)
theorem zw_ml_X4_240 : Cond.methodLink RX4 240 yX4_anHour ∈ zGW := zin_of 1052 (by decide +kernel) (by decide +kernel)
theorem zw_im_X4_anHour : Cond.instanceMethod yX4_anHour ∈ zGW := zin_of 1054 (by decide +kernel) (by decide +kernel)
set_option maxRecDepth 100000 in
theorem zw_cd_X4_anHour : Cond.code yX4_anHour cX4_anHour 5 none ∈ zGW := zin_of 1055 (rfl) (by decide +kernel)
theorem zw_ml_X4_228 : Cond.methodLink RX4 228 yX4_isOver ∈ zGW := zin_of 1056 (by decide +kernel) (by decide +kernel)
theorem zw_im_X4_isOver : Cond.instanceMethod yX4_isOver ∈ zGW := zin_of 1058 (by decide +kernel) (by decide +kernel)
set_option maxRecDepth 100000 in
theorem zw_cd_X4_isOver : Cond.code yX4_isOver cX4_isOver 2 (some .boolean) ∈ zGW := zin_of 1059 (rfl) (by decide +kernel)
theorem zw_ml_X4_218 : Cond.methodLink RX4 218 yX4_upOn ∈ zGW := zin_of 1060 (by decide +kernel) (by decide +kernel)
theorem zw_im_X4_upOn : Cond.instanceMethod yX4_upOn ∈ zGW := zin_of 1062 (by decide +kernel) (by decide +kernel)
set_option maxRecDepth 100000 in
theorem zw_cd_X4_upOn : Cond.code yX4_upOn cX4_upOn 4 (some .int) ∈ zGW := zin_of 1063 (rfl) (by decide +kernel)
theorem zw_ml_X4_224 : Cond.methodLink RX4 224 yX4_fillsOn ∈ zGW := zin_of 1064 (by decide +kernel) (by decide +kernel)
theorem zw_im_X4_fillsOn : Cond.instanceMethod yX4_fillsOn ∈ zGW := zin_of 1066 (by decide +kernel) (by decide +kernel)
set_option maxRecDepth 100000 in
theorem zw_cd_X4_fillsOn : Cond.code yX4_fillsOn cX4_fillsOn 4 none ∈ zGW := zin_of 1067 (rfl) (by decide +kernel)
theorem zw_ml_X4_231 : Cond.methodLink RX4 231 yX4_allDrink ∈ zGW := zin_of 1068 (by decide +kernel) (by decide +kernel)
theorem zw_im_X4_allDrink : Cond.instanceMethod yX4_allDrink ∈ zGW := zin_of 1070 (by decide +kernel) (by decide +kernel)
set_option maxRecDepth 100000 in
theorem zw_cd_X4_allDrink : Cond.code yX4_allDrink cX4_allDrink 7 none ∈ zGW := zin_of 1071 (rfl) (by decide +kernel)
theorem zw_ml_X4_221 : Cond.methodLink RX4 221 yX4_givesTo ∈ zGW := zin_of 1072 (by decide +kernel) (by decide +kernel)
theorem zw_im_X4_givesTo : Cond.instanceMethod yX4_givesTo ∈ zGW := zin_of 1074 (by decide +kernel) (by decide +kernel)
set_option maxRecDepth 100000 in
theorem zw_cd_X4_givesTo : Cond.code yX4_givesTo cX4_givesTo 5 (some .int) ∈ zGW := zin_of 1075 (rfl) (by decide +kernel)
theorem zw_ml_X4_234 : Cond.methodLink RX4 234 yX4_walksOn ∈ zGW := zin_of 1076 (by decide +kernel) (by decide +kernel)
theorem zw_im_X4_walksOn : Cond.instanceMethod yX4_walksOn ∈ zGW := zin_of 1078 (by decide +kernel) (by decide +kernel)
set_option maxRecDepth 100000 in
theorem zw_cd_X4_walksOn : Cond.code yX4_walksOn cX4_walksOn 5 none ∈ zGW := zin_of 1079 (rfl) (by decide +kernel)
theorem zw_ml_L_88 : Cond.methodLink RL 88 yX4_ahead ∈ zGW := zin_of 1080 (by decide +kernel) (by decide +kernel)
theorem zw_im_X4_ahead : Cond.instanceMethod yX4_ahead ∈ zGW := zin_of 1081 (by decide +kernel) (by decide +kernel)
theorem zw_sel_X4_ahead : Cond.selects RX4 yX4_ahead yX4_ahead ∈ zGW := zin_of 1082 (by decide +kernel) (by decide +kernel)
set_option maxRecDepth 100000 in
theorem zw_cd_X4_ahead : Cond.code yX4_ahead cX4_ahead 3 (some .int) ∈ zGW := zin_of 1083 (rfl) (by decide +kernel)
theorem zw_cst_X4_248 : Cond.constantLong RX4 248 (96) ∈ zGW := zin_of 1084 (by decide +kernel) (by decide +kernel)
theorem zw_ml_X4_250 : Cond.methodLink RX4 250 yX4_copies ∈ zGW := zin_of 1085 (by decide +kernel) (by decide +kernel)
theorem zw_im_X4_copies : Cond.instanceMethod yX4_copies ∈ zGW := zin_of 1087 (by decide +kernel) (by decide +kernel)
set_option maxRecDepth 100000 in
theorem zw_cd_X4_copies : Cond.code yX4_copies cX4_copies 4 none ∈ zGW := zin_of 1088 (rfl) (by decide +kernel)
theorem zw_ml_L_92 : Cond.methodLink RL 92 yX4_down ∈ zGW := zin_of 1089 (by decide +kernel) (by decide +kernel)
theorem zw_im_X4_down : Cond.instanceMethod yX4_down ∈ zGW := zin_of 1090 (by decide +kernel) (by decide +kernel)
theorem zw_sel_X4_down : Cond.selects RX4 yX4_down yX4_down ∈ zGW := zin_of 1091 (by decide +kernel) (by decide +kernel)
set_option maxRecDepth 100000 in
theorem zw_cd_X4_down : Cond.code yX4_down cX4_down 3 (some .int) ∈ zGW := zin_of 1092 (rfl) (by decide +kernel)
theorem zw_ml_L_96 : Cond.methodLink RL 96 yX4_arrive ∈ zGW := zin_of 1093 (by decide +kernel) (by decide +kernel)
theorem zw_im_X4_arrive : Cond.instanceMethod yX4_arrive ∈ zGW := zin_of 1094 (by decide +kernel) (by decide +kernel)
theorem zw_sel_X4_arrive : Cond.selects RX4 yX4_arrive yX4_arrive ∈ zGW := zin_of 1095 (by decide +kernel) (by decide +kernel)
set_option maxRecDepth 100000 in
theorem zw_cd_X4_arrive : Cond.code yX4_arrive cX4_arrive 4 (some .int) ∈ zGW := zin_of 1096 (rfl) (by decide +kernel)
theorem zw_ml_X4_256 : Cond.methodLink RX4 256 yX4_arriveFrom ∈ zGW := zin_of 1097 (by decide +kernel) (by decide +kernel)
theorem zw_im_X4_arriveFrom : Cond.instanceMethod yX4_arriveFrom ∈ zGW := zin_of 1099 (by decide +kernel) (by decide +kernel)
set_option maxRecDepth 100000 in
theorem zw_cd_X4_arriveFrom : Cond.code yX4_arriveFrom cX4_arriveFrom 3 (some .int) ∈ zGW := zin_of 1100 (rfl) (by decide +kernel)
theorem zw_ml_L_100 : Cond.methodLink RL 100 yX4_best ∈ zGW := zin_of 1101 (by decide +kernel) (by decide +kernel)
theorem zw_im_X4_best : Cond.instanceMethod yX4_best ∈ zGW := zin_of 1102 (by decide +kernel) (by decide +kernel)
theorem zw_sel_X4_best : Cond.selects RX4 yX4_best yX4_best ∈ zGW := zin_of 1103 (by decide +kernel) (by decide +kernel)
set_option maxRecDepth 100000 in
theorem zw_cd_X4_best : Cond.code yX4_best cX4_best 8 (some .int) ∈ zGW := zin_of 1104 (rfl) (by decide +kernel)
theorem zw_ml_L_104 : Cond.methodLink RL 104 yX4_late ∈ zGW := zin_of 1105 (by decide +kernel) (by decide +kernel)
theorem zw_im_X4_late : Cond.instanceMethod yX4_late ∈ zGW := zin_of 1106 (by decide +kernel) (by decide +kernel)
theorem zw_sel_X4_late : Cond.selects RX4 yX4_late yX4_late ∈ zGW := zin_of 1107 (by decide +kernel) (by decide +kernel)
set_option maxRecDepth 100000 in
theorem zw_cd_X4_late : Cond.code yX4_late cX4_late 4 (some .int) ∈ zGW := zin_of 1108 (rfl) (by decide +kernel)
theorem zw_ml_L_108 : Cond.methodLink RL 108 yX4_least ∈ zGW := zin_of 1109 (by decide +kernel) (by decide +kernel)
theorem zw_im_X4_least : Cond.instanceMethod yX4_least ∈ zGW := zin_of 1110 (by decide +kernel) (by decide +kernel)
theorem zw_sel_X4_least : Cond.selects RX4 yX4_least yX4_least ∈ zGW := zin_of 1111 (by decide +kernel) (by decide +kernel)
set_option maxRecDepth 100000 in
theorem zw_cd_X4_least : Cond.code yX4_least cX4_least 2 (some .int) ∈ zGW := zin_of 1112 (rfl) (by decide +kernel)
theorem zw_ml_L_112 : Cond.methodLink RL 112 yX4_alike ∈ zGW := zin_of 1113 (by decide +kernel) (by decide +kernel)
theorem zw_im_X4_alike : Cond.instanceMethod yX4_alike ∈ zGW := zin_of 1114 (by decide +kernel) (by decide +kernel)
theorem zw_sel_X4_alike : Cond.selects RX4 yX4_alike yX4_alike ∈ zGW := zin_of 1115 (by decide +kernel) (by decide +kernel)
set_option maxRecDepth 100000 in
theorem zw_cd_X4_alike : Cond.code yX4_alike cX4_alike 3 (some .int) ∈ zGW := zin_of 1116 (rfl) (by decide +kernel)
theorem zw_ml_L_116 : Cond.methodLink RL 116 yX4_alone ∈ zGW := zin_of 1117 (by decide +kernel) (by decide +kernel)
theorem zw_im_X4_alone : Cond.instanceMethod yX4_alone ∈ zGW := zin_of 1118 (by decide +kernel) (by decide +kernel)
theorem zw_sel_X4_alone : Cond.selects RX4 yX4_alone yX4_alone ∈ zGW := zin_of 1119 (by decide +kernel) (by decide +kernel)
set_option maxRecDepth 100000 in
theorem zw_cd_X4_alone : Cond.code yX4_alone cX4_alone 4 (some .int) ∈ zGW := zin_of 1120 (rfl) (by decide +kernel)
theorem zw_ml_L_121 : Cond.methodLink RL 121 yX4_luck ∈ zGW := zin_of 1121 (by decide +kernel) (by decide +kernel)
theorem zw_im_X4_luck : Cond.instanceMethod yX4_luck ∈ zGW := zin_of 1122 (by decide +kernel) (by decide +kernel)
theorem zw_sel_X4_luck : Cond.selects RX4 yX4_luck yX4_luck ∈ zGW := zin_of 1123 (by decide +kernel) (by decide +kernel)
set_option maxRecDepth 100000 in
theorem zw_cd_X4_luck : Cond.code yX4_luck cX4_luck 4 (some .long) ∈ zGW := zin_of 1124 (rfl) (by decide +kernel)
theorem zw_cst_X4_259 : Cond.constantLong RX4 259 (-1) ∈ zGW := zin_of 1125 (by decide +kernel) (by decide +kernel)
theorem zw_ml_X4_261 : Cond.methodLink RX4 261 yX4_sumBy ∈ zGW := zin_of 1126 (by decide +kernel) (by decide +kernel)
theorem zw_im_X4_sumBy : Cond.instanceMethod yX4_sumBy ∈ zGW := zin_of 1128 (by decide +kernel) (by decide +kernel)
set_option maxRecDepth 100000 in
theorem zw_cd_X4_sumBy : Cond.code yX4_sumBy cX4_sumBy 11 (some .long) ∈ zGW := zin_of 1129 (rfl) (by decide +kernel)
theorem zw_ml_X4_265 : Cond.methodLink RX4 265 yX4_tens ∈ zGW := zin_of 1130 (by decide +kernel) (by decide +kernel)
theorem zw_im_X4_tens : Cond.instanceMethod yX4_tens ∈ zGW := zin_of 1132 (by decide +kernel) (by decide +kernel)
set_option maxRecDepth 100000 in
theorem zw_cd_X4_tens : Cond.code yX4_tens cX4_tens 5 (some .long) ∈ zGW := zin_of 1133 (rfl) (by decide +kernel)
theorem zw_ml_X4_269 : Cond.methodLink RX4 269 yX4_lowest ∈ zGW := zin_of 1134 (by decide +kernel) (by decide +kernel)
theorem zw_st_X4_lowest : Cond.static yX4_lowest ∈ zGW := zin_of 1135 (by decide +kernel) (by decide +kernel)
set_option maxRecDepth 100000 in
theorem zw_cd_X4_lowest : Cond.code yX4_lowest cX4_lowest 11 (some .long) ∈ zGW := zin_of 1136 (rfl) (by decide +kernel)
theorem zw_ml_L_126 : Cond.methodLink RL 126 yX4_mean ∈ zGW := zin_of 1137 (by decide +kernel) (by decide +kernel)
theorem zw_im_X4_mean : Cond.instanceMethod yX4_mean ∈ zGW := zin_of 1138 (by decide +kernel) (by decide +kernel)
theorem zw_sel_X4_mean : Cond.selects RX4 yX4_mean yX4_mean ∈ zGW := zin_of 1139 (by decide +kernel) (by decide +kernel)
set_option maxRecDepth 100000 in
theorem zw_cd_X4_mean : Cond.code yX4_mean cX4_mean 3 (some .long) ∈ zGW := zin_of 1140 (rfl) (by decide +kernel)
theorem zw_ml_L_130 : Cond.methodLink RL 130 yX4_stay ∈ zGW := zin_of 1141 (by decide +kernel) (by decide +kernel)
theorem zw_im_X4_stay : Cond.instanceMethod yX4_stay ∈ zGW := zin_of 1142 (by decide +kernel) (by decide +kernel)
theorem zw_sel_X4_stay : Cond.selects RX4 yX4_stay yX4_stay ∈ zGW := zin_of 1143 (by decide +kernel) (by decide +kernel)
set_option maxRecDepth 100000 in
theorem zw_cd_X4_stay : Cond.code yX4_stay cX4_stay 8 (some .long) ∈ zGW := zin_of 1144 (rfl) (by decide +kernel)
theorem zw_ml_L_134 : Cond.methodLink RL 134 yX4_see ∈ zGW := zin_of 1145 (by decide +kernel) (by decide +kernel)
theorem zw_im_X4_see : Cond.instanceMethod yX4_see ∈ zGW := zin_of 1146 (by decide +kernel) (by decide +kernel)
theorem zw_sel_X4_see : Cond.selects RX4 yX4_see yX4_see ∈ zGW := zin_of 1147 (by decide +kernel) (by decide +kernel)
set_option maxRecDepth 100000 in
theorem zw_cd_X4_see : Cond.code yX4_see cX4_see 3 (some .int) ∈ zGW := zin_of 1148 (rfl) (by decide +kernel)
theorem zw_cst_X4_273 : Cond.constantLong RX4 273 (24) ∈ zGW := zin_of 1149 (by decide +kernel) (by decide +kernel)
theorem zw_ml_L_138 : Cond.methodLink RL 138 yX4_forget ∈ zGW := zin_of 1150 (by decide +kernel) (by decide +kernel)
theorem zw_im_X4_forget : Cond.instanceMethod yX4_forget ∈ zGW := zin_of 1151 (by decide +kernel) (by decide +kernel)
theorem zw_sel_X4_forget : Cond.selects RX4 yX4_forget yX4_forget ∈ zGW := zin_of 1152 (by decide +kernel) (by decide +kernel)
set_option maxRecDepth 100000 in
theorem zw_cd_X4_forget : Cond.code yX4_forget cX4_forget 3 (some .int) ∈ zGW := zin_of 1153 (rfl) (by decide +kernel)
theorem zw_ml_L_142 : Cond.methodLink RL 142 yX4_fits ∈ zGW := zin_of 1154 (by decide +kernel) (by decide +kernel)
theorem zw_im_X4_fits : Cond.instanceMethod yX4_fits ∈ zGW := zin_of 1155 (by decide +kernel) (by decide +kernel)
theorem zw_sel_X4_fits : Cond.selects RX4 yX4_fits yX4_fits ∈ zGW := zin_of 1156 (by decide +kernel) (by decide +kernel)
set_option maxRecDepth 100000 in
theorem zw_cd_X4_fits : Cond.code yX4_fits cX4_fits 5 (some .int) ∈ zGW := zin_of 1157 (rfl) (by decide +kernel)
theorem zw_ml_X4_278 : Cond.methodLink RX4 278 yX4_allKinds ∈ zGW := zin_of 1158 (by decide +kernel) (by decide +kernel)
theorem zw_im_X4_allKinds : Cond.instanceMethod yX4_allKinds ∈ zGW := zin_of 1160 (by decide +kernel) (by decide +kernel)
set_option maxRecDepth 100000 in
theorem zw_cd_X4_allKinds : Cond.code yX4_allKinds cX4_allKinds 3 (some .int) ∈ zGW := zin_of 1161 (rfl) (by decide +kernel)
theorem zw_ml_X4_281 : Cond.methodLink RX4 281 yX4_isAsSeen ∈ zGW := zin_of 1162 (by decide +kernel) (by decide +kernel)
theorem zw_im_X4_isAsSeen : Cond.instanceMethod yX4_isAsSeen ∈ zGW := zin_of 1164 (by decide +kernel) (by decide +kernel)
set_option maxRecDepth 100000 in
theorem zw_cd_X4_isAsSeen : Cond.code yX4_isAsSeen cX4_isAsSeen 5 (some .boolean) ∈ zGW := zin_of 1165 (rfl) (by decide +kernel)
theorem zw_ml_X4_275 : Cond.methodLink RX4 275 yX4_kindOf ∈ zGW := zin_of 1166 (by decide +kernel) (by decide +kernel)
theorem zw_im_X4_kindOf : Cond.instanceMethod yX4_kindOf ∈ zGW := zin_of 1168 (by decide +kernel) (by decide +kernel)
set_option maxRecDepth 100000 in
theorem zw_cd_X4_kindOf : Cond.code yX4_kindOf cX4_kindOf 5 (some .int) ∈ zGW := zin_of 1169 (rfl) (by decide +kernel)
theorem zw_ml_L_146 : Cond.methodLink RL 146 yX4_kinds ∈ zGW := zin_of 1170 (by decide +kernel) (by decide +kernel)
theorem zw_im_X4_kinds : Cond.instanceMethod yX4_kinds ∈ zGW := zin_of 1171 (by decide +kernel) (by decide +kernel)
theorem zw_sel_X4_kinds : Cond.selects RX4 yX4_kinds yX4_kinds ∈ zGW := zin_of 1172 (by decide +kernel) (by decide +kernel)
set_option maxRecDepth 100000 in
theorem zw_cd_X4_kinds : Cond.code yX4_kinds cX4_kinds 4 (some .int) ∈ zGW := zin_of 1173 (rfl) (by decide +kernel)
theorem zw_ml_L_151 : Cond.methodLink RL 151 yX4_drift ∈ zGW := zin_of 1174 (by decide +kernel) (by decide +kernel)
theorem zw_im_X4_drift : Cond.instanceMethod yX4_drift ∈ zGW := zin_of 1175 (by decide +kernel) (by decide +kernel)
theorem zw_sel_X4_drift : Cond.selects RX4 yX4_drift yX4_drift ∈ zGW := zin_of 1176 (by decide +kernel) (by decide +kernel)
set_option maxRecDepth 100000 in
theorem zw_cd_X4_drift : Cond.code yX4_drift cX4_drift 6 (some .int) ∈ zGW := zin_of 1177 (rfl) (by decide +kernel)
theorem zw_cst_X4_284 : Cond.constant RX4 284 (1103515245) ∈ zGW := zin_of 1178 (by decide +kernel) (by decide +kernel)
theorem zw_ml_L_155 : Cond.methodLink RL 155 yX4_keep ∈ zGW := zin_of 1179 (by decide +kernel) (by decide +kernel)
theorem zw_im_X4_keep : Cond.instanceMethod yX4_keep ∈ zGW := zin_of 1180 (by decide +kernel) (by decide +kernel)
theorem zw_sel_X4_keep : Cond.selects RX4 yX4_keep yX4_keep ∈ zGW := zin_of 1181 (by decide +kernel) (by decide +kernel)
set_option maxRecDepth 100000 in
theorem zw_cd_X4_keep : Cond.code yX4_keep cX4_keep 3 (some .int) ∈ zGW := zin_of 1182 (rfl) (by decide +kernel)
theorem zw_ml_L_159 : Cond.methodLink RL 159 yX4_back ∈ zGW := zin_of 1183 (by decide +kernel) (by decide +kernel)
theorem zw_im_X4_back : Cond.instanceMethod yX4_back ∈ zGW := zin_of 1184 (by decide +kernel) (by decide +kernel)
theorem zw_sel_X4_back : Cond.selects RX4 yX4_back yX4_back ∈ zGW := zin_of 1185 (by decide +kernel) (by decide +kernel)
set_option maxRecDepth 100000 in
theorem zw_cd_X4_back : Cond.code yX4_back cX4_back 2 (some .int) ∈ zGW := zin_of 1186 (rfl) (by decide +kernel)
theorem zw_ml_L_163 : Cond.methodLink RL 163 yX4_sheet ∈ zGW := zin_of 1187 (by decide +kernel) (by decide +kernel)
theorem zw_im_X4_sheet : Cond.instanceMethod yX4_sheet ∈ zGW := zin_of 1188 (by decide +kernel) (by decide +kernel)
theorem zw_sel_X4_sheet : Cond.selects RX4 yX4_sheet yX4_sheet ∈ zGW := zin_of 1189 (by decide +kernel) (by decide +kernel)
set_option maxRecDepth 100000 in
theorem zw_cd_X4_sheet : Cond.code yX4_sheet cX4_sheet 5 (some .int) ∈ zGW := zin_of 1190 (rfl) (by decide +kernel)
theorem zw_ml_L_167 : Cond.methodLink RL 167 yX4_put ∈ zGW := zin_of 1191 (by decide +kernel) (by decide +kernel)
theorem zw_im_X4_put : Cond.instanceMethod yX4_put ∈ zGW := zin_of 1192 (by decide +kernel) (by decide +kernel)
theorem zw_sel_X4_put : Cond.selects RX4 yX4_put yX4_put ∈ zGW := zin_of 1193 (by decide +kernel) (by decide +kernel)
set_option maxRecDepth 100000 in
theorem zw_cd_X4_put : Cond.code yX4_put cX4_put 4 (some .int) ∈ zGW := zin_of 1194 (rfl) (by decide +kernel)
theorem zw_ml_L_172 : Cond.methodLink RL 172 yX4_read ∈ zGW := zin_of 1195 (by decide +kernel) (by decide +kernel)
theorem zw_im_X4_read : Cond.instanceMethod yX4_read ∈ zGW := zin_of 1196 (by decide +kernel) (by decide +kernel)
theorem zw_sel_X4_read : Cond.selects RX4 yX4_read yX4_read ∈ zGW := zin_of 1197 (by decide +kernel) (by decide +kernel)
set_option maxRecDepth 100000 in
theorem zw_cd_X4_read : Cond.code yX4_read cX4_read 9 (some .int) ∈ zGW := zin_of 1198 (rfl) (by decide +kernel)
theorem zw_ml_L_176 : Cond.methodLink RL 176 yX4_torn ∈ zGW := zin_of 1199 (by decide +kernel) (by decide +kernel)
theorem zw_im_X4_torn : Cond.instanceMethod yX4_torn ∈ zGW := zin_of 1200 (by decide +kernel) (by decide +kernel)
theorem zw_sel_X4_torn : Cond.selects RX4 yX4_torn yX4_torn ∈ zGW := zin_of 1201 (by decide +kernel) (by decide +kernel)
set_option maxRecDepth 100000 in
theorem zw_cd_X4_torn : Cond.code yX4_torn cX4_torn 1 (some .int) ∈ zGW := zin_of 1202 (rfl) (by decide +kernel)
theorem zw_ml_L_180 : Cond.methodLink RL 180 yX4_count ∈ zGW := zin_of 1203 (by decide +kernel) (by decide +kernel)
theorem zw_im_X4_count : Cond.instanceMethod yX4_count ∈ zGW := zin_of 1204 (by decide +kernel) (by decide +kernel)
theorem zw_sel_X4_count : Cond.selects RX4 yX4_count yX4_count ∈ zGW := zin_of 1205 (by decide +kernel) (by decide +kernel)
set_option maxRecDepth 100000 in
theorem zw_cd_X4_count : Cond.code yX4_count cX4_count 5 (some .int) ∈ zGW := zin_of 1206 (rfl) (by decide +kernel)
theorem zw_fl_J0_9 : Cond.fieldLink RJ0 9 "java/lang/String" "value" "[B" ∈ zGW := zin_of 1207 (by decide +kernel) (by decide +kernel)
theorem zw_fl_J0_15 : Cond.fieldLink RJ0 15 "java/lang/String" "coder" "B" ∈ zGW := zin_of 1208 (by decide +kernel) (by decide +kernel)
theorem zlay_X0 : ∀ w ∈ wsX00, w ∈ zGW := zin_list _ [114, 116, 118, 120, 122, 124, 126, 128, 130, 132, 134, 136, 138, 140, 142, 144] (by decide +kernel) (by decide +kernel)
theorem zlay_X1 : ∀ w ∈ wsX10, w ∈ zGW := zin_list _ [209, 211, 213] (by decide +kernel) (by decide +kernel)
theorem zlay_X2 : ∀ w ∈ wsX20, w ∈ zGW := zin_list _ [171, 173, 175, 177, 179, 181, 183, 185, 187, 189, 191, 193] (by decide +kernel) (by decide +kernel)
theorem zlay_X3 : ∀ w ∈ wsX30, w ∈ zGW := zin_list _ [230, 232, 234, 236, 238, 240, 242, 244, 246, 248, 250, 252, 254, 256] (by decide +kernel) (by decide +kernel)
theorem zlay_X4 : ∀ w ∈ wsX40, w ∈ zGW := zin_list _ [805, 807, 809, 811, 813, 815, 817, 819, 821, 823, 825, 827, 829, 831, 833, 835, 837, 839, 841, 843, 845, 847, 849, 851, 853, 855, 857, 859, 861, 863, 865, 867, 869, 871, 873, 875] (by decide +kernel) (by decide +kernel)
end
section
/-! THE WORLD: after the two constructors 71 cells stand, at addresses 'zad G k', and nothing is made any more. References never change; all else is ints: w k j is what cell k has at slot (or place) j. -/
abbrev zW : Type := Nat → Nat → Int32
def zup (w : zW) (k j : Nat) (x : Int32) : zW := fun k' => if k' = k then upd (w k) j x else w k'
theorem zup_s (w : zW) (k j : Nat) (x : Int32) : zup w k j x k = upd (w k) j x := by simp [zup]
theorem zup_n (w : zW) {k k' : Nat} (j : Nat) (x : Int32) (h : k' ≠ k) : zup w k j x k' = w k' := by simp [zup, h]
/-- classes and slots, array classes, addresses; the String constants: their objects, their bytes -/
abbrev zG : Type := va_G × (Nat → ClassId) × (Nat → Nat) × (Nat → Nat) × (Nat → Nat)
abbrev zcy (G : zG) (t : Nat) : ClassId := G.2.1 t
abbrev zad (G : zG) (k : Nat) : Nat := G.2.2.1 k
abbrev zaK (G : zG) (k : Nat) : Nat := G.2.2.2.1 k
abbrev zaV (G : zG) (k : Nat) : Nat := G.2.2.2.2 k
def zF_camp (b : Nat) (G : zG) (r : Nat → Int32) : List Value := [.int (r 0), .ref (zad G (b + 1)), .ref (zad G (b + 2)), .ref (zad G (b + 3)), .int (r 4), .ref (zad G (b + 4)), .ref (zad G (b + 5)), .ref (zad G (b + 6)), .ref (zad G (b + 7)), .int (r 9), .int (r 10), .int (r 11), .int (r 12), .int (r 13), .int (r 14), .int (r 15)]
def zF_sheet (b : Nat) (G : zG) (r : Nat → Int32) : List Value := [.ref (zad G (b + 1)), .int (r 1), .int (r 2)]
def zF_reader (G : zG) (r : Nat → Int32) : List Value := [.ref (zad G 1), .ref (zad G 10), .int (r 2), .int (r 3), .int (r 4), .int (r 5), .int (r 6), .int (r 7), .int (r 8), .int (r 9), .int (r 10), .int (r 11)]
def zF_bot (G : zG) (r : Nat → Int32) : List Value := [.ref (zad G 1), .int (r 1), .int (r 2), .ref (zad G 2), .ref (zad G 10), .ref (zad G 18), .ref (zad G 42), .ref (zad G 43), .ref (zad G 44), .ref (zad G 45), .ref (zad G 46), .int (r 11), .ref (zad G 47), .int (r 13)]
def zF_mod (G : zG) (r : Nat → Int32) : List Value := [.ref (zad G 57), .ref (zad G 58), .int (r 2), .ref (zad G 59), .int (r 4), .int (r 5), .int (r 6), .int (r 7), .ref (zad G 60), .ref (zad G 61), .ref (zad G 62), .int (r 11), .int (r 12), .int (r 13), .int (r 14), .int (r 15), .int (r 16), .ref (zad G 63), .int (r 18), .int (r 19), .int (r 20), .int (r 21), .int (r 22), .int (r 23), .int (r 24), .int (r 25), .ref (zad G 64), .ref (zad G 65), .int (r 28), .ref (zad G 66), .int (r 30), .ref (zad G 67), .ref (zad G 68), .ref (zad G 69), .ref (zad G 70), .int (r 35)]
/-- what a cell is: an object (class, fields), or an array (kind, length) -/
def z_el (G : zG) (r : Nat → Int32) : Nat → va_E
  | 0 => .inr (3, zF_bot G r)
  | 1 => .inl (zcy G 2, 160, .inl r)
  | 2 => .inr (0, zF_camp 2 G r)
  | 3 => .inl (zcy G 0, 4, .inl r)
  | 4 => .inl (zcy G 0, 4, .inl r)
  | 5 => .inl (zcy G 0, 4, .inl r)
  | 6 => .inl (zcy G 0, 3, .inl r)
  | 7 => .inl (zcy G 0, 3, .inl r)
  | 8 => .inl (zcy G 0, 3, .inl r)
  | 9 => .inl (zcy G 1, 3, .inl r)
  | 10 => .inr (0, zF_camp 10 G r)
  | 11 => .inl (zcy G 0, 4, .inl r)
  | 12 => .inl (zcy G 0, 4, .inl r)
  | 13 => .inl (zcy G 0, 4, .inl r)
  | 14 => .inl (zcy G 0, 3, .inl r)
  | 15 => .inl (zcy G 0, 3, .inl r)
  | 16 => .inl (zcy G 0, 3, .inl r)
  | 17 => .inl (zcy G 1, 3, .inl r)
  | 18 => .inr (0, zF_camp 18 G r)
  | 19 => .inl (zcy G 0, 4, .inl r)
  | 20 => .inl (zcy G 0, 4, .inl r)
  | 21 => .inl (zcy G 0, 4, .inl r)
  | 22 => .inl (zcy G 0, 3, .inl r)
  | 23 => .inl (zcy G 0, 3, .inl r)
  | 24 => .inl (zcy G 0, 3, .inl r)
  | 25 => .inl (zcy G 1, 3, .inl r)
  | 26 => .inr (0, zF_camp 26 G r)
  | 27 => .inl (zcy G 0, 4, .inl r)
  | 28 => .inl (zcy G 0, 4, .inl r)
  | 29 => .inl (zcy G 0, 4, .inl r)
  | 30 => .inl (zcy G 0, 3, .inl r)
  | 31 => .inl (zcy G 0, 3, .inl r)
  | 32 => .inl (zcy G 0, 3, .inl r)
  | 33 => .inl (zcy G 1, 3, .inl r)
  | 34 => .inr (0, zF_camp 34 G r)
  | 35 => .inl (zcy G 0, 4, .inl r)
  | 36 => .inl (zcy G 0, 4, .inl r)
  | 37 => .inl (zcy G 0, 4, .inl r)
  | 38 => .inl (zcy G 0, 3, .inl r)
  | 39 => .inl (zcy G 0, 3, .inl r)
  | 40 => .inl (zcy G 0, 3, .inl r)
  | 41 => .inl (zcy G 1, 3, .inl r)
  | 42 => .inr (2, zF_reader G r)
  | 43 => .inl (zcy G 3, 2, .inr (.inr (.inr (.inr (fun i => some (zad G (26 + 8 * i)))))))
  | 44 => .inl (zcy G 1, 2, .inl r)
  | 45 => .inl (zcy G 0, 6, .inl r)
  | 46 => .inl (zcy G 0, 6, .inl r)
  | 47 => .inl (zcy G 4, 4, .inr (.inr (.inr (.inr (fun i => some (zad G (48 + 2 * i)))))))
  | 48 => .inr (1, zF_sheet 48 G r)
  | 49 => .inl (zcy G 0, 40, .inl r)
  | 50 => .inr (1, zF_sheet 50 G r)
  | 51 => .inl (zcy G 0, 40, .inl r)
  | 52 => .inr (1, zF_sheet 52 G r)
  | 53 => .inl (zcy G 0, 40, .inl r)
  | 54 => .inr (1, zF_sheet 54 G r)
  | 55 => .inl (zcy G 0, 40, .inl r)
  | 56 => .inr (4, zF_mod G r)
  | 57 => .inl (zcy G 0, 120, .inl r)
  | 58 => .inl (zcy G 0, 4, .inl r)
  | 59 => .inl (zcy G 0, 6, .inl r)
  | 60 => .inl (zcy G 0, 20, .inl r)
  | 61 => .inl (zcy G 0, 4, .inl r)
  | 62 => .inl (zcy G 0, 6, .inl r)
  | 63 => .inl (zcy G 0, 160, .inl r)
  | 64 => .inl (zcy G 0, 18, .inl r)
  | 65 => .inl (zcy G 0, 74, .inl r)
  | 66 => .inl (zcy G 0, 12, .inl r)
  | 67 => .inl (zcy G 1, 2, .inl r)
  | 68 => .inl (zcy G 0, 4, .inl r)
  | 69 => .inl (zcy G 0, 4, .inl r)
  | _ => .inl (zcy G 0, 160, .inl r)
def z_ws (G : zG) (w : zW) : va_W := (List.range 71).map (fun k => (zad G k, z_el G (w k) k))
theorem z_ws_get {G : zG} {w : zW} {k : Nat} (hk : k < 71) : (z_ws G w)[k]? = some (zad G k, z_el G (w k) k) := by simp [z_ws, hk]
theorem z_ws_up {G : zG} {w : zW} {k j : Nat} {x : Int32} {e : va_E} (he : z_el G (upd (w k) j x) k = e) : (z_ws G w).set k (zad G k, e) = z_ws G (zup w k j x) := by
  apply List.ext_getElem?
  intro i
  by_cases hi : i < 71
  · rw [z_ws_get hi]
    by_cases hik : i = k
    · subst hik
      rw [List.getElem?_set_self (by simp [z_ws, hi]), zup_s, he]
    · rw [List.getElem?_set_ne (fun h => hik h.symm), z_ws_get hi, zup_n _ _ _ hik]
  · rw [List.getElem?_eq_none (by simp [z_ws]; omega), List.getElem?_eq_none (by simp [z_ws]; omega)]
def ztys (G : zG) : List (ClassId × FieldType) := [(zcy G 0, .int), (zcy G 1, .boolean), (zcy G 2, .byte), (zcy G 3, .object "BottleFour$Camp"), (zcy G 4, .object "BottleFour$Sheet")]
/-- an array of ints, booleans, bytes (t 0, 1, 2) of n places -/
def zarr (t k n : Nat) : Prop := k < 71 ∧ ∀ (G : zG) (r : Nat → Int32), z_el G r k = .inl (zcy G t, n, .inl r)
def zobj (ci k : Nat) (F : zG → (Nat → Int32) → List Value) : Prop := k < 71 ∧ ∀ (G : zG) (r : Nat → Int32), z_el G r k = .inr (ci, F G r)
def zcamp (b : Nat) : Prop := b = 2 ∨ b = 10 ∨ b = 18 ∨ b = 26 ∨ b = 34
def zshee (b : Nat) : Prop := b = 48 ∨ b = 50 ∨ b = 52 ∨ b = 54
theorem zo_camp {b : Nat} (h : zcamp b) : zobj 0 b (zF_camp b) := by rcases h with rfl | rfl | rfl | rfl | rfl <;> exact ⟨by decide, fun _ _ => rfl⟩
theorem zo_shee {b : Nat} (h : zshee b) : zobj 1 b (zF_sheet b) := by rcases h with rfl | rfl | rfl | rfl <;> exact ⟨by decide, fun _ _ => rfl⟩
theorem zo_read : zobj 2 42 zF_reader := ⟨by decide, fun _ _ => rfl⟩
theorem zo_bot : zobj 3 0 zF_bot := ⟨by decide, fun _ _ => rfl⟩
theorem zo_mod : zobj 4 56 zF_mod := ⟨by decide, fun _ _ => rfl⟩
theorem za_c1 {b : Nat} (h : zcamp b) : zarr 0 (b + 1) 4 := by rcases h with rfl | rfl | rfl | rfl | rfl <;> exact ⟨by decide, fun _ _ => rfl⟩
theorem za_c2 {b : Nat} (h : zcamp b) : zarr 0 (b + 2) 4 := by rcases h with rfl | rfl | rfl | rfl | rfl <;> exact ⟨by decide, fun _ _ => rfl⟩
theorem za_c3 {b : Nat} (h : zcamp b) : zarr 0 (b + 3) 4 := by rcases h with rfl | rfl | rfl | rfl | rfl <;> exact ⟨by decide, fun _ _ => rfl⟩
theorem za_c4 {b : Nat} (h : zcamp b) : zarr 0 (b + 4) 3 := by rcases h with rfl | rfl | rfl | rfl | rfl <;> exact ⟨by decide, fun _ _ => rfl⟩
theorem za_c5 {b : Nat} (h : zcamp b) : zarr 0 (b + 5) 3 := by rcases h with rfl | rfl | rfl | rfl | rfl <;> exact ⟨by decide, fun _ _ => rfl⟩
theorem za_c6 {b : Nat} (h : zcamp b) : zarr 0 (b + 6) 3 := by rcases h with rfl | rfl | rfl | rfl | rfl <;> exact ⟨by decide, fun _ _ => rfl⟩
theorem za_c7 {b : Nat} (h : zcamp b) : zarr 1 (b + 7) 3 := by rcases h with rfl | rfl | rfl | rfl | rfl <;> exact ⟨by decide, fun _ _ => rfl⟩
theorem za_s1 {b : Nat} (h : zshee b) : zarr 0 (b + 1) 40 := by rcases h with rfl | rfl | rfl | rfl <;> exact ⟨by decide, fun _ _ => rfl⟩
theorem za_1 : zarr 2 1 160 := ⟨by decide, fun _ _ => rfl⟩
theorem za_44 : zarr 1 44 2 := ⟨by decide, fun _ _ => rfl⟩
theorem za_45 : zarr 0 45 6 := ⟨by decide, fun _ _ => rfl⟩
theorem za_46 : zarr 0 46 6 := ⟨by decide, fun _ _ => rfl⟩
theorem za_57 : zarr 0 57 120 := ⟨by decide, fun _ _ => rfl⟩
theorem za_58 : zarr 0 58 4 := ⟨by decide, fun _ _ => rfl⟩
theorem za_59 : zarr 0 59 6 := ⟨by decide, fun _ _ => rfl⟩
theorem za_60 : zarr 0 60 20 := ⟨by decide, fun _ _ => rfl⟩
theorem za_61 : zarr 0 61 4 := ⟨by decide, fun _ _ => rfl⟩
theorem za_62 : zarr 0 62 6 := ⟨by decide, fun _ _ => rfl⟩
theorem za_63 : zarr 0 63 160 := ⟨by decide, fun _ _ => rfl⟩
theorem za_64 : zarr 0 64 18 := ⟨by decide, fun _ _ => rfl⟩
theorem za_65 : zarr 0 65 74 := ⟨by decide, fun _ _ => rfl⟩
theorem za_66 : zarr 0 66 12 := ⟨by decide, fun _ _ => rfl⟩
theorem za_67 : zarr 1 67 2 := ⟨by decide, fun _ _ => rfl⟩
theorem za_68 : zarr 0 68 4 := ⟨by decide, fun _ _ => rfl⟩
theorem za_69 : zarr 0 69 4 := ⟨by decide, fun _ _ => rfl⟩
theorem za_70 : zarr 0 70 160 := ⟨by decide, fun _ _ => rfl⟩
theorem zcamp2 : zcamp 2 := Or.inl rfl
theorem zcamp10 : zcamp 10 := Or.inr (Or.inl rfl)
theorem zcamp18 : zcamp 18 := Or.inr (Or.inr (Or.inl rfl))
/-- the place of an index -/
abbrev zx (i : Int32) : Nat := i.toNatClampNeg
def zin (i : Int32) (n : Nat) : Bool := !(decide (i < 0)) && decide (i.toNatClampNeg < n)
theorem zin_vp {i : Int32} {n : Nat} (h : zin i n = true) : vp_in i n := by
  simp only [zin, Bool.and_eq_true, Bool.not_eq_true', decide_eq_false_iff_not, decide_eq_true_eq] at h
  rintro (q | q)
  · exact h.1 q
  · omega
theorem zin_lt {i : Int32} {n : Nat} (h : zin i n = true) : zx i < n := by
  simp only [zin, Bool.and_eq_true, decide_eq_true_eq] at h
  exact h.2
theorem zin_nI {k n : Nat} (h : k < n) (hn : n < 2 ^ 31) : zin (nI k) n = true := by
  have h1 : ¬ nI k < 0 := nI_pos (by omega)
  have h2 : (nI k).toNatClampNeg = k := nI_clamp (by omega)
  simp [zin, h1, h2, h]
theorem zcampI {i : Int32} (h : zin i 2 = true) : zcamp (26 + 8 * zx i) := by
  have h1 := zin_lt h
  rcases (show zx i = 0 ∨ zx i = 1 by omega) with e | e <;> rw [e] <;> simp [zcamp]
theorem zsheeI {i : Int32} (h : zin i 4 = true) : zshee (48 + 2 * zx i) := by
  have h1 := zin_lt h
  rcases (show zx i = 0 ∨ zx i = 1 ∨ zx i = 2 ∨ zx i = 3 by omega) with e | e | e | e <;> rw [e] <;> simp [zshee]
/-- the String constants of the reader -/
def zsi : List Nat := [129, 135, 137, 139, 141, 143, 145, 147, 168, 170, 172, 174, 176, 199, 201, 203, 205]
def zst : List String := ["one", "well", "dry", "bottle", "goal", "plan", "dew", "found", "measured", "thirsty", "sly", "last", "giver", "night", "day", "all", "stay"]
def zsl : List Nat := [3, 4, 3, 6, 4, 4, 3, 5, 8, 7, 3, 4, 5, 5, 3, 3, 4]
def zsb : List (List Int32) := [[111, 110, 101], [119, 101, 108, 108], [100, 114, 121], [98, 111, 116, 116, 108, 101], [103, 111, 97, 108], [112, 108, 97, 110], [100, 101, 119], [102, 111, 117, 110, 100], [109, 101, 97, 115, 117, 114, 101, 100], [116, 104, 105, 114, 115, 116, 121], [115, 108, 121], [108, 97, 115, 116], [103, 105, 118, 101, 114], [110, 105, 103, 104, 116], [100, 97, 121], [97, 108, 108], [115, 116, 97, 121]]
def zA (G : zG) : Nat → Prop := fun q => ∃ k, k < 71 ∧ q = zad G k
def zNest (U : State) : Prop := va_Nw (.methodLinkNest RX2 86 yX3_within RX3) U ∧ va_Nw (.methodLinkNest RX0 80 yX3_within RX3) U ∧ va_Nw (.methodLinkNest RX1 26 yX3_within RX3) U
def zStr (G : zG) (U : State) : Prop := vk_S 17 zsl zsb G.2.2.2.1 G.2.2.2.2 (zA G) U U.heap ∧ (∀ i, i < 17 → vk_R RX2 (zsi.getD i 0) (zst.getD i "") (zaK G i) U) ∧ va_Z "java/lang/String" "COMPACT_STRINGS" "Z" (.int 1) (zA G) U U.heap
def zapart (G : zG) : Prop := ∀ i j : Nat, i < 71 → j < 71 → zad G i = zad G j → i = j
def zK (G : zG) (U : State) : Prop := va_K G.1 vwCl (ztys G) U ∧ zNest U ∧ zStr G U ∧ zapart G
def zH (G : zG) (w : zW) (U : State) : Prop := va_P G.1 vwCl (z_ws G w) U.heap ∧ zK G U
theorem z_D {G : zG} (h : zapart G) (w : zW) : va_D (zA G) (z_ws G w) := by
  have key : ∀ (k : Nat) (q : Nat × va_E), (z_ws G w)[k]? = some q → k < 71 ∧ q.1 = zad G k := by
    intro k q hk
    have hl : k < 71 := by
      have := (List.getElem?_eq_some_iff.mp hk).1
      simpa [z_ws] using this
    rw [z_ws_get hl] at hk
    cases hk
    exact ⟨hl, rfl⟩
  refine ⟨fun i j a b hi hj hab => ?_, fun k q hk => ?_⟩
  · obtain ⟨h1, h2⟩ := key i a hi
    obtain ⟨h3, h4⟩ := key j b hj
    exact h i j h1 h3 (by rw [← h2, ← h4, hab])
  · obtain ⟨h1, h2⟩ := key k q hk
    exact ⟨k, h1, h2⟩
theorem zK_warm {G : zG} {s t : State} (h : zK G s) (hW : s.WarmedH t.vm) (hF : ∀ q : Nat, q < s.heap.size → ¬ zA G q → t.heap[q]? = s.heap[q]?) : zK G t := by
  obtain ⟨h1, ⟨n1, n2, n3⟩, ⟨s1, s2, s3⟩, h4⟩ := h
  have hA := hW.alike
  exact ⟨va_K.moved hA h1, ⟨va_Nw.warmM hW n1, va_Nw.warmM hW n2, va_Nw.warmM hW n3⟩, ⟨(vk_S.moved hA s1).kept hF, fun i hi => vk_R.warm hW (s2 i hi), (va_Z.moved hA s3).kept hF⟩, h4⟩
theorem zK_same {G : zG} {s t : State} (h : zK G s) (hv : t.vm = s.vm) (hh : t.heap = s.heap) : zK G t := by
  obtain ⟨h1, ⟨n1, n2, n3⟩, ⟨s1, s2, s3⟩, h4⟩ := h
  have hA : s.vm.Alike t.vm := by rw [hv]; exact Vm.Alike.refl _
  refine ⟨va_K.moved hA h1, ⟨va_Nw.same rfl hv.symm n1, va_Nw.same rfl hv.symm n2, va_Nw.same rfl hv.symm n3⟩, ⟨?_, fun i hi => vk_R.same hv (s2 i hi), ?_⟩, h4⟩
  · rw [hh]; exact vk_S.moved hA s1
  · rw [hh]; exact va_Z.moved hA s3
theorem zH_blind {G : zG} {w : zW} {av : List Value} : FrameBlind (va_Pc av (zH G w)) := fun _ _ _ _ h => ⟨h.1, h.2.1, zK_same h.2.2 rfl rfl⟩
def zQ (G : zG) (o : Option Value) (w' : zW) : Array Value → State → Outcome → State → Prop := fun _ st oc t => oc = .returned o ∧ zH G w' t ∧ va_F (zA G) st t
/-- THE CONTRACT: from the world w the method, called with av, answers o and leaves the world w' -/
def zMet (l : Launch) (G : zG) (y : MethodName) (cc : ByteArray) (nL : Nat) (ret : Option FieldType) (rm : Room) (av : List Value) (w : zW) (o : Option Value) (w' : zW) : Prop := Met l y (Cond.code y cc nL ret :: zGW) rm (va_Pc av (zH G w)) (zQ G o w') 0 0 (zA G)
/-- what holds all along a method's body -/
def zC (G : zG) (own : String) (cc : ByteArray) (nL : Nat) (ret : Option FieldType) (p : Program) (s : State) (m : MethodId) (args : Array Value) (meth : Method) (c : Code) : Prop :=
  p.tables.exec = Jvm.exec ∧ c.code = cc ∧ c.maxLocals = nL ∧ s.vm.findClass own = some m.cls ∧ (∀ w ∈ zGW, w.before args s = true) ∧ zK G s ∧ meth.locks = false ∧ meth.sig.returnType = ret
/-- the machine at a place of a method's body, in the world w -/
def Z (G : zG) (p : Program) (l : Launch) (e : Env) (R : Room) (s : State) (m : MethodId) (args : Array Value) (below : List Frame) (meth : Method) (c : Code) (Q : State → Prop) (nL : Nat) (pc : Nat) (lv : List (Nat × Value)) (st : List Value) (w : zW) : Prop :=
  ∀ (H : Heap) (locs : List Loc) (ls : Array Slot), va_P G.1 vwCl (z_ws G w) H → va_S (zA G) s.heap H locs → lv_has ls nL lv → W p l e R s m args below meth c H locs 0 0 Q (F0 m pc ls st)
end
section
section ZR
variable {G : zG} {p : Program} {l : Launch} {e : Env} {R : Room} {s : State} {m : MethodId} {args : Array Value} {below : List Frame} {meth : Method} {c : Code} {Q : State → Prop} {own : String} {cc : ByteArray} {nL : Nat} {ret : Option FieldType} {pc : Nat} {lv : List (Nat × Value)} {st : List Value} {w : zW}
theorem z_iconst (C : zC G own cc nL ret p s m args meth c) {n : Int} {v : Int32} (hd : decode cc pc = .ok (.iconst n, 1)) (hv : Int32.ofInt n = v) (kk : Z G p l e R s m args below meth c Q nL (pc + 1) lv (.int v :: st) w) : Z G p l e R s m args below meth c Q nL pc lv (st) w := fun H locs ls hP hS hl => lv_iconst C.1 C.2.1 hd hv (kk H locs ls hP hS hl)
theorem z_bipush (C : zC G own cc nL ret p s m args meth c) {n : Int} {v : Int32} (hd : decode cc pc = .ok (.bipush n, 2)) (hv : (Int8.ofInt n).toInt32 = v) (kk : Z G p l e R s m args below meth c Q nL (pc + 2) lv (.int v :: st) w) : Z G p l e R s m args below meth c Q nL pc lv (st) w := fun H locs ls hP hS hl => lv_bipush C.1 C.2.1 hd hv (kk H locs ls hP hS hl)
theorem z_sipush (C : zC G own cc nL ret p s m args meth c) {n : Int} {v : Int32} (hd : decode cc pc = .ok (.sipush n, 3)) (hv : (Int16.ofInt n).toInt32 = v) (kk : Z G p l e R s m args below meth c Q nL (pc + 3) lv (.int v :: st) w) : Z G p l e R s m args below meth c Q nL pc lv (st) w := fun H locs ls hP hS hl => lv_sipush C.1 C.2.1 hd hv (kk H locs ls hP hS hl)
theorem z_lconst (C : zC G own cc nL ret p s m args meth c) {n : Fin 2} {v : Int64} (hd : decode cc pc = .ok (.lconst n, 1)) (hv : Int64.ofNat (n : Nat) = v) (kk : Z G p l e R s m args below meth c Q nL (pc + 1) lv (.long v :: st) w) : Z G p l e R s m args below meth c Q nL pc lv (st) w := fun H locs ls hP hS hl => lv_lconst C.1 C.2.1 hd hv (kk H locs ls hP hS hl)
theorem z_iadd (C : zC G own cc nL ret p s m args meth c) {x y : Int32} (hd : decode cc pc = .ok (.iadd, 1)) (kk : Z G p l e R s m args below meth c Q nL (pc + 1) lv (.int (x + y) :: st) w) : Z G p l e R s m args below meth c Q nL pc lv (.int y :: .int x :: st) w := fun H locs ls hP hS hl => lv_iadd C.1 C.2.1 hd (kk H locs ls hP hS hl)
theorem z_isub (C : zC G own cc nL ret p s m args meth c) {x y : Int32} (hd : decode cc pc = .ok (.isub, 1)) (kk : Z G p l e R s m args below meth c Q nL (pc + 1) lv (.int (x - y) :: st) w) : Z G p l e R s m args below meth c Q nL pc lv (.int y :: .int x :: st) w := fun H locs ls hP hS hl => lv_isub C.1 C.2.1 hd (kk H locs ls hP hS hl)
theorem z_imul (C : zC G own cc nL ret p s m args meth c) {x y : Int32} (hd : decode cc pc = .ok (.imul, 1)) (kk : Z G p l e R s m args below meth c Q nL (pc + 1) lv (.int (x * y) :: st) w) : Z G p l e R s m args below meth c Q nL pc lv (.int y :: .int x :: st) w := fun H locs ls hP hS hl => lv_imul C.1 C.2.1 hd (kk H locs ls hP hS hl)
theorem z_iand (C : zC G own cc nL ret p s m args meth c) {x y : Int32} (hd : decode cc pc = .ok (.iand, 1)) (kk : Z G p l e R s m args below meth c Q nL (pc + 1) lv (.int (x &&& y) :: st) w) : Z G p l e R s m args below meth c Q nL pc lv (.int y :: .int x :: st) w := fun H locs ls hP hS hl => lv_iand C.1 C.2.1 hd (kk H locs ls hP hS hl)
theorem z_ior (C : zC G own cc nL ret p s m args meth c) {x y : Int32} (hd : decode cc pc = .ok (.ior, 1)) (kk : Z G p l e R s m args below meth c Q nL (pc + 1) lv (.int (x ||| y) :: st) w) : Z G p l e R s m args below meth c Q nL pc lv (.int y :: .int x :: st) w := fun H locs ls hP hS hl => lv_ior C.1 C.2.1 hd (kk H locs ls hP hS hl)
theorem z_ladd (C : zC G own cc nL ret p s m args meth c) {x y : Int64} (hd : decode cc pc = .ok (.ladd, 1)) (kk : Z G p l e R s m args below meth c Q nL (pc + 1) lv (.long (x + y) :: st) w) : Z G p l e R s m args below meth c Q nL pc lv (.long y :: .long x :: st) w := fun H locs ls hP hS hl => lv_ladd C.1 C.2.1 hd (kk H locs ls hP hS hl)
theorem z_lsub (C : zC G own cc nL ret p s m args meth c) {x y : Int64} (hd : decode cc pc = .ok (.lsub, 1)) (kk : Z G p l e R s m args below meth c Q nL (pc + 1) lv (.long (x - y) :: st) w) : Z G p l e R s m args below meth c Q nL pc lv (.long y :: .long x :: st) w := fun H locs ls hP hS hl => lv_lsub C.1 C.2.1 hd (kk H locs ls hP hS hl)
theorem z_lmul (C : zC G own cc nL ret p s m args meth c) {x y : Int64} (hd : decode cc pc = .ok (.lmul, 1)) (kk : Z G p l e R s m args below meth c Q nL (pc + 1) lv (.long (x * y) :: st) w) : Z G p l e R s m args below meth c Q nL pc lv (.long y :: .long x :: st) w := fun H locs ls hP hS hl => lv_lmul C.1 C.2.1 hd (kk H locs ls hP hS hl)
theorem z_idiv (C : zC G own cc nL ret p s m args meth c) {x y : Int32} (hd : decode cc pc = .ok (.idiv, 1)) (hn : ¬ y = 0) (kk : Z G p l e R s m args below meth c Q nL (pc + 1) lv (.int (x / y) :: st) w) : Z G p l e R s m args below meth c Q nL pc lv (.int y :: .int x :: st) w := fun H locs ls hP hS hl => lv_idiv C.1 C.2.1 hd hn (kk H locs ls hP hS hl)
theorem z_irem (C : zC G own cc nL ret p s m args meth c) {x y : Int32} (hd : decode cc pc = .ok (.irem, 1)) (hn : ¬ y = 0) (kk : Z G p l e R s m args below meth c Q nL (pc + 1) lv (.int (x - x / y * y) :: st) w) : Z G p l e R s m args below meth c Q nL pc lv (.int y :: .int x :: st) w := fun H locs ls hP hS hl => lv_irem C.1 C.2.1 hd hn (kk H locs ls hP hS hl)
theorem z_ldiv (C : zC G own cc nL ret p s m args meth c) {x y : Int64} (hd : decode cc pc = .ok (.ldiv, 1)) (hn : ¬ y = 0) (kk : Z G p l e R s m args below meth c Q nL (pc + 1) lv (.long (x / y) :: st) w) : Z G p l e R s m args below meth c Q nL pc lv (.long y :: .long x :: st) w := fun H locs ls hP hS hl => lv_ldiv C.1 C.2.1 hd hn (kk H locs ls hP hS hl)
theorem z_lrem (C : zC G own cc nL ret p s m args meth c) {x y : Int64} (hd : decode cc pc = .ok (.lrem, 1)) (hn : ¬ y = 0) (kk : Z G p l e R s m args below meth c Q nL (pc + 1) lv (.long (x - x / y * y) :: st) w) : Z G p l e R s m args below meth c Q nL pc lv (.long y :: .long x :: st) w := fun H locs ls hP hS hl => lv_lrem C.1 C.2.1 hd hn (kk H locs ls hP hS hl)
theorem z_ishl (C : zC G own cc nL ret p s m args meth c) {x y : Int32} (hd : decode cc pc = .ok (.ishl, 1)) (kk : Z G p l e R s m args below meth c Q nL (pc + 1) lv (.int (x <<< (y &&& 31)) :: st) w) : Z G p l e R s m args below meth c Q nL pc lv (.int y :: .int x :: st) w := fun H locs ls hP hS hl => lv_ishl C.1 C.2.1 hd (kk H locs ls hP hS hl)
theorem z_ishr (C : zC G own cc nL ret p s m args meth c) {x y : Int32} (hd : decode cc pc = .ok (.ishr, 1)) (kk : Z G p l e R s m args below meth c Q nL (pc + 1) lv (.int (x >>> (y &&& 31)) :: st) w) : Z G p l e R s m args below meth c Q nL pc lv (.int y :: .int x :: st) w := fun H locs ls hP hS hl => lv_ishr C.1 C.2.1 hd (kk H locs ls hP hS hl)
theorem z_iushr (C : zC G own cc nL ret p s m args meth c) {x y : Int32} (hd : decode cc pc = .ok (.iushr, 1)) (kk : Z G p l e R s m args below meth c Q nL (pc + 1) lv (.int ((x.toUInt32 >>> (y.toUInt32 &&& Int32.toUInt32 31)).toInt32) :: st) w) : Z G p l e R s m args below meth c Q nL pc lv (.int y :: .int x :: st) w := fun H locs ls hP hS hl => lv_iushr C.1 C.2.1 hd rfl (kk H locs ls hP hS hl)
theorem z_i2l (C : zC G own cc nL ret p s m args meth c) {x : Int32} (hd : decode cc pc = .ok (.i2l, 1)) (kk : Z G p l e R s m args below meth c Q nL (pc + 1) lv (.long x.toInt64 :: st) w) : Z G p l e R s m args below meth c Q nL pc lv (.int x :: st) w := fun H locs ls hP hS hl => lv_i2l C.1 C.2.1 hd rfl (kk H locs ls hP hS hl)
theorem z_i2b (C : zC G own cc nL ret p s m args meth c) {x : Int32} (hd : decode cc pc = .ok (.i2b, 1)) (kk : Z G p l e R s m args below meth c Q nL (pc + 1) lv (.int x.toInt8.toInt32 :: st) w) : Z G p l e R s m args below meth c Q nL pc lv (.int x :: st) w := fun H locs ls hP hS hl => lv_i2b C.1 C.2.1 hd rfl (kk H locs ls hP hS hl)
theorem z_i2s (C : zC G own cc nL ret p s m args meth c) {x : Int32} (hd : decode cc pc = .ok (.i2s, 1)) (kk : Z G p l e R s m args below meth c Q nL (pc + 1) lv (.int x.toInt16.toInt32 :: st) w) : Z G p l e R s m args below meth c Q nL pc lv (.int x :: st) w := fun H locs ls hP hS hl => lv_i2s C.1 C.2.1 hd rfl (kk H locs ls hP hS hl)
theorem z_i2c (C : zC G own cc nL ret p s m args meth c) {x : Int32} (hd : decode cc pc = .ok (.i2c, 1)) (kk : Z G p l e R s m args below meth c Q nL (pc + 1) lv (.int (x.toUInt32 % 65536).toInt32 :: st) w) : Z G p l e R s m args below meth c Q nL pc lv (.int x :: st) w := fun H locs ls hP hS hl => lv_i2c C.1 C.2.1 hd rfl (kk H locs ls hP hS hl)
theorem z_lcmp (C : zC G own cc nL ret p s m args meth c) {x y : Int64} (hd : decode cc pc = .ok (.lcmp, 1)) (kk : Z G p l e R s m args below meth c Q nL (pc + 1) lv (.int (lg_cmp x y) :: st) w) : Z G p l e R s m args below meth c Q nL pc lv (.long y :: .long x :: st) w := fun H locs ls hP hS hl => W.lcmp C.1 C.2.1 hd (kk H locs ls hP hS hl)
theorem z_dup (C : zC G own cc nL ret p s m args meth c) {va : Value} (hd : decode cc pc = .ok (.dup, 1)) (h1 : va.category = 1) (kk : Z G p l e R s m args below meth c Q nL (pc + 1) lv (va :: va :: st) w) : Z G p l e R s m args below meth c Q nL pc lv (va :: st) w := fun H locs ls hP hS hl => lv_dup C.1 C.2.1 hd h1 (kk H locs ls hP hS hl)
theorem z_pop (C : zC G own cc nL ret p s m args meth c) {va : Value} (hd : decode cc pc = .ok (.pop, 1)) (h1 : va.category = 1) (kk : Z G p l e R s m args below meth c Q nL (pc + 1) lv (st) w) : Z G p l e R s m args below meth c Q nL pc lv (va :: st) w := fun H locs ls hP hS hl => lv_pop C.1 C.2.1 hd h1 (kk H locs ls hP hS hl)
theorem z_dup_x1 (C : zC G own cc nL ret p s m args meth c) {va vb : Value} (hd : decode cc pc = .ok (.dup_x1, 1)) (h1 : va.category = 1) (h2 : vb.category = 1) (kk : Z G p l e R s m args below meth c Q nL (pc + 1) lv (va :: vb :: va :: st) w) : Z G p l e R s m args below meth c Q nL pc lv (va :: vb :: st) w := fun H locs ls hP hS hl => lv_dup_x1 C.1 C.2.1 hd h1 h2 (kk H locs ls hP hS hl)
theorem z_dup2 (C : zC G own cc nL ret p s m args meth c) {va vb : Value} (hd : decode cc pc = .ok (.dup2, 1)) (h1 : va.category = 1) (h2 : vb.category = 1) (kk : Z G p l e R s m args below meth c Q nL (pc + 1) lv (va :: vb :: va :: vb :: st) w) : Z G p l e R s m args below meth c Q nL pc lv (va :: vb :: st) w := fun H locs ls hP hS hl => lv_dup2_11 C.1 C.2.1 hd h1 h2 (kk H locs ls hP hS hl)
theorem z_iload_n (C : zC G own cc nL ret p s m args meth c) {kf : Fin 4} {i : Nat} {x : Int32} (hd : decode cc pc = .ok (.iload_n kf, 1)) (k : Nat) (hi : (kf : Nat) = i) (hk : lv[k]? = some (i, .int x)) (kk : Z G p l e R s m args below meth c Q nL (pc + 1) lv (.int x :: st) w) : Z G p l e R s m args below meth c Q nL pc lv st w := fun H locs ls hP hS hl => lv_iload_n C.1 C.2.1 hd hi (lv_at hl k hk) (kk H locs ls hP hS hl)
theorem z_iload (C : zC G own cc nL ret p s m args meth c) {i : Nat} {x : Int32} (hd : decode cc pc = .ok (.iload i, 2)) (k : Nat) (hk : lv[k]? = some (i, .int x)) (kk : Z G p l e R s m args below meth c Q nL (pc + 2) lv (.int x :: st) w) : Z G p l e R s m args below meth c Q nL pc lv st w := fun H locs ls hP hS hl => lv_iload C.1 C.2.1 hd (lv_at hl k hk) (kk H locs ls hP hS hl)
theorem z_lload_n (C : zC G own cc nL ret p s m args meth c) {kf : Fin 4} {i : Nat} {x : Int64} (hd : decode cc pc = .ok (.lload_n kf, 1)) (k : Nat) (hi : (kf : Nat) = i) (hk : lv[k]? = some (i, .long x)) (kk : Z G p l e R s m args below meth c Q nL (pc + 1) lv (.long x :: st) w) : Z G p l e R s m args below meth c Q nL pc lv st w := fun H locs ls hP hS hl => lv_lload_n C.1 C.2.1 hd hi (lv_at hl k hk) (kk H locs ls hP hS hl)
theorem z_lload (C : zC G own cc nL ret p s m args meth c) {i : Nat} {x : Int64} (hd : decode cc pc = .ok (.lload i, 2)) (k : Nat) (hk : lv[k]? = some (i, .long x)) (kk : Z G p l e R s m args below meth c Q nL (pc + 2) lv (.long x :: st) w) : Z G p l e R s m args below meth c Q nL pc lv st w := fun H locs ls hP hS hl => lv_lload C.1 C.2.1 hd (lv_at hl k hk) (kk H locs ls hP hS hl)
theorem z_aload_n (C : zC G own cc nL ret p s m args meth c) {kf : Fin 4} {i : Nat} {x : Nat} (hd : decode cc pc = .ok (.aload_n kf, 1)) (k : Nat) (hi : (kf : Nat) = i) (hk : lv[k]? = some (i, .ref x)) (kk : Z G p l e R s m args below meth c Q nL (pc + 1) lv (.ref x :: st) w) : Z G p l e R s m args below meth c Q nL pc lv st w := fun H locs ls hP hS hl => lv_aload_n C.1 C.2.1 hd hi (lv_at hl k hk) (kk H locs ls hP hS hl)
theorem z_aload (C : zC G own cc nL ret p s m args meth c) {i : Nat} {x : Nat} (hd : decode cc pc = .ok (.aload i, 2)) (k : Nat) (hk : lv[k]? = some (i, .ref x)) (kk : Z G p l e R s m args below meth c Q nL (pc + 2) lv (.ref x :: st) w) : Z G p l e R s m args below meth c Q nL pc lv st w := fun H locs ls hP hS hl => lv_aload C.1 C.2.1 hd (lv_at hl k hk) (kk H locs ls hP hS hl)
theorem z_istore_n (C : zC G own cc nL ret p s m args meth c) {kf : Fin 4} {i : Nat} {x : Int32} {lv' : List (Nat × Value)} (hd : decode cc pc = .ok (.istore_n kf, 1)) (hi : (kf : Nat) = i) (hn : i < nL) (hl : (i, Value.int x) :: lv.filter (fun q => !(q.1 == i) && !(q.1 + 1 == i && q.2.category == 2)) = lv') (kk : Z G p l e R s m args below meth c Q nL (pc + 1) lv' st w) : Z G p l e R s m args below meth c Q nL pc lv (.int x :: st) w := fun H locs ls hP hS hl9 => lv_istore_n C.1 C.2.1 hd hi hl9 hn hl (fun ls' hl' => kk H locs ls' hP hS hl')
theorem z_istore (C : zC G own cc nL ret p s m args meth c) {i : Nat} {x : Int32} {lv' : List (Nat × Value)} (hd : decode cc pc = .ok (.istore i, 2)) (hn : i < nL) (hl : (i, Value.int x) :: lv.filter (fun q => !(q.1 == i) && !(q.1 + 1 == i && q.2.category == 2)) = lv') (kk : Z G p l e R s m args below meth c Q nL (pc + 2) lv' st w) : Z G p l e R s m args below meth c Q nL pc lv (.int x :: st) w := fun H locs ls hP hS hl9 => lv_istore C.1 C.2.1 hd hl9 hn hl (fun ls' hl' => kk H locs ls' hP hS hl')
theorem z_lstore_n (C : zC G own cc nL ret p s m args meth c) {kf : Fin 4} {i : Nat} {x : Int64} {lv' : List (Nat × Value)} (hd : decode cc pc = .ok (.lstore_n kf, 1)) (hi : (kf : Nat) = i) (hn : i + 1 < nL) (hl : (i, Value.long x) :: lv.filter (fun q => !(q.1 == i) && (!(q.1 == i + 1) && !(q.1 + 1 == i && q.2.category == 2))) = lv') (kk : Z G p l e R s m args below meth c Q nL (pc + 1) lv' st w) : Z G p l e R s m args below meth c Q nL pc lv (.long x :: st) w := fun H locs ls hP hS hl9 => lv_lstore_n C.1 C.2.1 hd hi hl9 hn hl (fun ls' hl' => kk H locs ls' hP hS hl')
theorem z_lstore (C : zC G own cc nL ret p s m args meth c) {i : Nat} {x : Int64} {lv' : List (Nat × Value)} (hd : decode cc pc = .ok (.lstore i, 2)) (hn : i + 1 < nL) (hl : (i, Value.long x) :: lv.filter (fun q => !(q.1 == i) && (!(q.1 == i + 1) && !(q.1 + 1 == i && q.2.category == 2))) = lv') (kk : Z G p l e R s m args below meth c Q nL (pc + 2) lv' st w) : Z G p l e R s m args below meth c Q nL pc lv (.long x :: st) w := fun H locs ls hP hS hl9 => lv_lstore C.1 C.2.1 hd hl9 hn hl (fun ls' hl' => kk H locs ls' hP hS hl')
theorem z_astore_n (C : zC G own cc nL ret p s m args meth c) {kf : Fin 4} {i : Nat} {x : Nat} {lv' : List (Nat × Value)} (hd : decode cc pc = .ok (.astore_n kf, 1)) (hi : (kf : Nat) = i) (hn : i < nL) (hl : (i, Value.ref x) :: lv.filter (fun q => !(q.1 == i) && !(q.1 + 1 == i && q.2.category == 2)) = lv') (kk : Z G p l e R s m args below meth c Q nL (pc + 1) lv' st w) : Z G p l e R s m args below meth c Q nL pc lv (.ref x :: st) w := fun H locs ls hP hS hl9 => lv_astore_n C.1 C.2.1 hd hi hl9 hn hl (fun ls' hl' => kk H locs ls' hP hS hl')
theorem z_astore (C : zC G own cc nL ret p s m args meth c) {i : Nat} {x : Nat} {lv' : List (Nat × Value)} (hd : decode cc pc = .ok (.astore i, 2)) (hn : i < nL) (hl : (i, Value.ref x) :: lv.filter (fun q => !(q.1 == i) && !(q.1 + 1 == i && q.2.category == 2)) = lv') (kk : Z G p l e R s m args below meth c Q nL (pc + 2) lv' st w) : Z G p l e R s m args below meth c Q nL pc lv (.ref x :: st) w := fun H locs ls hP hS hl9 => lv_astore C.1 C.2.1 hd hl9 hn hl (fun ls' hl' => kk H locs ls' hP hS hl')
theorem z_iinc (C : zC G own cc nL ret p s m args meth c) {i : Nat} {n : Int} {x v : Int32} {lv' : List (Nat × Value)} (hd : decode cc pc = .ok (.iinc i n, 3)) (k : Nat) (hk : lv[k]? = some (i, .int x)) (hv : x + Int32.ofInt n = v) (hn : i < nL) (hl : (i, Value.int v) :: lv.filter (fun q => !(q.1 == i) && !(q.1 + 1 == i && q.2.category == 2)) = lv') (kk : Z G p l e R s m args below meth c Q nL (pc + 3) lv' st w) : Z G p l e R s m args below meth c Q nL pc lv st w := fun H locs ls hP hS hl9 => lv_iinc C.1 C.2.1 hd hl9 hk hv hn hl (fun ls' hl' => kk H locs ls' hP hS hl')
theorem z_lv {lv' : List (Nat × Value)} (ks : List Nat) (h : lv_pick lv ks = lv') (kk : Z G p l e R s m args below meth c Q nL pc lv' st w) : Z G p l e R s m args below meth c Q nL pc lv st w := fun H locs ls hP hS hl => kk H locs ls hP hS (lv_sub hl ks h)
theorem z_w {w' : zW} (h : w = w') (kk : Z G p l e R s m args below meth c Q nL pc lv st w') : Z G p l e R s m args below meth c Q nL pc lv st w := h ▸ kk
theorem z_if_eq (C : zC G own cc nL ret p s m args meth c) {x : Int32} {off : Int} {tgt : Nat} (hd : decode cc pc = .ok (.ifCond .eq off, 3)) (ht : (pc : Int) + off = (tgt : Int)) (kt : x = 0 → Z G p l e R s m args below meth c Q nL tgt lv st w) (kf : ¬ x = 0 → Z G p l e R s m args below meth c Q nL (pc + 3) lv st w) : Z G p l e R s m args below meth c Q nL pc lv (.int x :: st) w := fun H locs ls hP hS hl => lv_if_eq C.1 C.2.1 hd ht (fun q => kt q H locs ls hP hS hl) (fun q => kf q H locs ls hP hS hl)
theorem z_icmp_eq (C : zC G own cc nL ret p s m args meth c) {x y : Int32} {off : Int} {tgt : Nat} (hd : decode cc pc = .ok (.if_icmp .eq off, 3)) (ht : (pc : Int) + off = (tgt : Int)) (kt : x = y → Z G p l e R s m args below meth c Q nL tgt lv st w) (kf : ¬ x = y → Z G p l e R s m args below meth c Q nL (pc + 3) lv st w) : Z G p l e R s m args below meth c Q nL pc lv (.int y :: .int x :: st) w := fun H locs ls hP hS hl => lv_icmp_eq C.1 C.2.1 hd ht (fun q => kt q H locs ls hP hS hl) (fun q => kf q H locs ls hP hS hl)
theorem z_if_ne (C : zC G own cc nL ret p s m args meth c) {x : Int32} {off : Int} {tgt : Nat} (hd : decode cc pc = .ok (.ifCond .ne off, 3)) (ht : (pc : Int) + off = (tgt : Int)) (kt : ¬ x = 0 → Z G p l e R s m args below meth c Q nL tgt lv st w) (kf : x = 0 → Z G p l e R s m args below meth c Q nL (pc + 3) lv st w) : Z G p l e R s m args below meth c Q nL pc lv (.int x :: st) w := fun H locs ls hP hS hl => lv_if_ne C.1 C.2.1 hd ht (fun q => kt q H locs ls hP hS hl) (fun q => kf q H locs ls hP hS hl)
theorem z_icmp_ne (C : zC G own cc nL ret p s m args meth c) {x y : Int32} {off : Int} {tgt : Nat} (hd : decode cc pc = .ok (.if_icmp .ne off, 3)) (ht : (pc : Int) + off = (tgt : Int)) (kt : ¬ x = y → Z G p l e R s m args below meth c Q nL tgt lv st w) (kf : x = y → Z G p l e R s m args below meth c Q nL (pc + 3) lv st w) : Z G p l e R s m args below meth c Q nL pc lv (.int y :: .int x :: st) w := fun H locs ls hP hS hl => lv_icmp_ne C.1 C.2.1 hd ht (fun q => kt q H locs ls hP hS hl) (fun q => kf q H locs ls hP hS hl)
theorem z_if_lt (C : zC G own cc nL ret p s m args meth c) {x : Int32} {off : Int} {tgt : Nat} (hd : decode cc pc = .ok (.ifCond .lt off, 3)) (ht : (pc : Int) + off = (tgt : Int)) (kt : x < 0 → Z G p l e R s m args below meth c Q nL tgt lv st w) (kf : ¬ x < 0 → Z G p l e R s m args below meth c Q nL (pc + 3) lv st w) : Z G p l e R s m args below meth c Q nL pc lv (.int x :: st) w := fun H locs ls hP hS hl => lv_if_lt C.1 C.2.1 hd ht (fun q => kt q H locs ls hP hS hl) (fun q => kf q H locs ls hP hS hl)
theorem z_icmp_lt (C : zC G own cc nL ret p s m args meth c) {x y : Int32} {off : Int} {tgt : Nat} (hd : decode cc pc = .ok (.if_icmp .lt off, 3)) (ht : (pc : Int) + off = (tgt : Int)) (kt : x < y → Z G p l e R s m args below meth c Q nL tgt lv st w) (kf : ¬ x < y → Z G p l e R s m args below meth c Q nL (pc + 3) lv st w) : Z G p l e R s m args below meth c Q nL pc lv (.int y :: .int x :: st) w := fun H locs ls hP hS hl => lv_icmp_lt C.1 C.2.1 hd ht (fun q => kt q H locs ls hP hS hl) (fun q => kf q H locs ls hP hS hl)
theorem z_if_ge (C : zC G own cc nL ret p s m args meth c) {x : Int32} {off : Int} {tgt : Nat} (hd : decode cc pc = .ok (.ifCond .ge off, 3)) (ht : (pc : Int) + off = (tgt : Int)) (kt : 0 ≤ x → Z G p l e R s m args below meth c Q nL tgt lv st w) (kf : ¬ 0 ≤ x → Z G p l e R s m args below meth c Q nL (pc + 3) lv st w) : Z G p l e R s m args below meth c Q nL pc lv (.int x :: st) w := fun H locs ls hP hS hl => lv_if_ge C.1 C.2.1 hd ht (fun q => kt q H locs ls hP hS hl) (fun q => kf q H locs ls hP hS hl)
theorem z_icmp_ge (C : zC G own cc nL ret p s m args meth c) {x y : Int32} {off : Int} {tgt : Nat} (hd : decode cc pc = .ok (.if_icmp .ge off, 3)) (ht : (pc : Int) + off = (tgt : Int)) (kt : y ≤ x → Z G p l e R s m args below meth c Q nL tgt lv st w) (kf : ¬ y ≤ x → Z G p l e R s m args below meth c Q nL (pc + 3) lv st w) : Z G p l e R s m args below meth c Q nL pc lv (.int y :: .int x :: st) w := fun H locs ls hP hS hl => lv_icmp_ge C.1 C.2.1 hd ht (fun q => kt q H locs ls hP hS hl) (fun q => kf q H locs ls hP hS hl)
theorem z_if_gt (C : zC G own cc nL ret p s m args meth c) {x : Int32} {off : Int} {tgt : Nat} (hd : decode cc pc = .ok (.ifCond .gt off, 3)) (ht : (pc : Int) + off = (tgt : Int)) (kt : 0 < x → Z G p l e R s m args below meth c Q nL tgt lv st w) (kf : ¬ 0 < x → Z G p l e R s m args below meth c Q nL (pc + 3) lv st w) : Z G p l e R s m args below meth c Q nL pc lv (.int x :: st) w := fun H locs ls hP hS hl => lv_if_gt C.1 C.2.1 hd ht (fun q => kt q H locs ls hP hS hl) (fun q => kf q H locs ls hP hS hl)
theorem z_icmp_gt (C : zC G own cc nL ret p s m args meth c) {x y : Int32} {off : Int} {tgt : Nat} (hd : decode cc pc = .ok (.if_icmp .gt off, 3)) (ht : (pc : Int) + off = (tgt : Int)) (kt : y < x → Z G p l e R s m args below meth c Q nL tgt lv st w) (kf : ¬ y < x → Z G p l e R s m args below meth c Q nL (pc + 3) lv st w) : Z G p l e R s m args below meth c Q nL pc lv (.int y :: .int x :: st) w := fun H locs ls hP hS hl => lv_icmp_gt C.1 C.2.1 hd ht (fun q => kt q H locs ls hP hS hl) (fun q => kf q H locs ls hP hS hl)
theorem z_if_le (C : zC G own cc nL ret p s m args meth c) {x : Int32} {off : Int} {tgt : Nat} (hd : decode cc pc = .ok (.ifCond .le off, 3)) (ht : (pc : Int) + off = (tgt : Int)) (kt : x ≤ 0 → Z G p l e R s m args below meth c Q nL tgt lv st w) (kf : ¬ x ≤ 0 → Z G p l e R s m args below meth c Q nL (pc + 3) lv st w) : Z G p l e R s m args below meth c Q nL pc lv (.int x :: st) w := fun H locs ls hP hS hl => lv_if_le C.1 C.2.1 hd ht (fun q => kt q H locs ls hP hS hl) (fun q => kf q H locs ls hP hS hl)
theorem z_icmp_le (C : zC G own cc nL ret p s m args meth c) {x y : Int32} {off : Int} {tgt : Nat} (hd : decode cc pc = .ok (.if_icmp .le off, 3)) (ht : (pc : Int) + off = (tgt : Int)) (kt : x ≤ y → Z G p l e R s m args below meth c Q nL tgt lv st w) (kf : ¬ x ≤ y → Z G p l e R s m args below meth c Q nL (pc + 3) lv st w) : Z G p l e R s m args below meth c Q nL pc lv (.int y :: .int x :: st) w := fun H locs ls hP hS hl => lv_icmp_le C.1 C.2.1 hd ht (fun q => kt q H locs ls hP hS hl) (fun q => kf q H locs ls hP hS hl)
theorem z_goto (C : zC G own cc nL ret p s m args meth c) {off : Int} {tgt : Nat} (hd : decode cc pc = .ok (.goto off, 3)) (ht : (pc : Int) + off = (tgt : Int)) (kk : Z G p l e R s m args below meth c Q nL tgt lv st w) : Z G p l e R s m args below meth c Q nL pc lv st w := fun H locs ls hP hS hl => lv_goto C.1 C.2.1 hd ht (kk H locs ls hP hS hl)
theorem z_tabIn (C : zC G own cc nL ret p s m args meth c) {dflt lo hi : Int} {offs : Array Int} {len : Nat} {x : Int32} {off : Int} {tgt : Nat} (hd : decode cc pc = .ok (.tableswitch dflt lo hi offs, len)) (h1 : ¬ x.toInt < lo) (h2 : ¬ hi < x.toInt) (ho : offs[(x.toInt - lo).toNat]? = some off) (ht : (pc : Int) + off = (tgt : Int)) (kk : Z G p l e R s m args below meth c Q nL tgt lv st w) : Z G p l e R s m args below meth c Q nL pc lv (.int x :: st) w := fun H locs ls hP hS hl => lv_tableIn C.1 C.2.1 hd h1 h2 ho ht (kk H locs ls hP hS hl)
theorem z_tabOut (C : zC G own cc nL ret p s m args meth c) {dflt lo hi : Int} {offs : Array Int} {len : Nat} {x : Int32} {tgt : Nat} (hd : decode cc pc = .ok (.tableswitch dflt lo hi offs, len)) (h : x.toInt < lo ∨ hi < x.toInt) (ht : (pc : Int) + dflt = (tgt : Int)) (kk : Z G p l e R s m args below meth c Q nL tgt lv st w) : Z G p l e R s m args below meth c Q nL pc lv (.int x :: st) w := fun H locs ls hP hS hl => lv_tableOut C.1 C.2.1 hd h ht (kk H locs ls hP hS hl)
theorem z_lookup (C : zC G own cc nL ret p s m args meth c) {dflt : Int} {ps : Array (Int × Int)} {len : Nat} {x : Int32} {off : Int} {tgt : Nat} (hd : decode cc pc = .ok (.lookupswitch dflt ps, len)) (hp : (ps.toList.zip (ps.toList.drop 1)).all (fun (a, next) => a.1 < next.1) = true) (ho : Op.lookupswitch.offset ps.toList dflt x.toInt = off) (ht : (pc : Int) + off = (tgt : Int)) (kk : Z G p l e R s m args below meth c Q nL tgt lv st w) : Z G p l e R s m args below meth c Q nL pc lv (.int x :: st) w := fun H locs ls hP hS hl => lv_lookup C.1 C.2.1 hd hp ho ht (kk H locs ls hP hS hl)
theorem z_ldc (C : zC G own cc nL ret p s m args meth c) {index : Nat} {v : Int32} (hc : Cond.constant own index v ∈ zGW) (hd : decode cc pc = .ok (.ldc index, 2)) (kk : Z G p l e R s m args below meth c Q nL (pc + 2) lv (.int v :: st) w) : Z G p l e R s m args below meth c Q nL pc lv st w := fun H locs ls hP hS hl => lv_ldc C.1 C.2.1 C.2.2.2.1 (C.2.2.2.2.1 _ hc) hd (kk H locs ls hP hS hl)
theorem z_ldcw (C : zC G own cc nL ret p s m args meth c) {index : Nat} {v : Int32} (hc : Cond.constant own index v ∈ zGW) (hd : decode cc pc = .ok (.ldc_w index, 3)) (kk : Z G p l e R s m args below meth c Q nL (pc + 3) lv (.int v :: st) w) : Z G p l e R s m args below meth c Q nL pc lv st w := fun H locs ls hP hS hl => lv_ldcw C.1 C.2.1 C.2.2.2.1 (C.2.2.2.2.1 _ hc) hd (kk H locs ls hP hS hl)
theorem z_ldc2 (C : zC G own cc nL ret p s m args meth c) {index : Nat} {v : Int64} (hc : Cond.constantLong own index v ∈ zGW) (hd : decode cc pc = .ok (.ldc2_w index, 3)) (kk : Z G p l e R s m args below meth c Q nL (pc + 3) lv (.long v :: st) w) : Z G p l e R s m args below meth c Q nL pc lv st w := fun H locs ls hP hS hl => lv_ldc2 C.1 C.2.1 C.2.2.2.1 (C.2.2.2.2.1 _ hc) hd (kk H locs ls hP hS hl)
theorem z_ldcS (C : zC G own cc nL ret p s m args meth c) {index i : Nat} {tx : String} (hi : i < 17) (h1 : zsi.getD i 0 = index) (h2 : zst.getD i "" = tx) (ho : own = RX2) (hd : decode cc pc = .ok (.ldc index, 2)) (kk : Z G p l e R s m args below meth c Q nL (pc + 2) lv (.ref (zaK G i) :: st) w) : Z G p l e R s m args below meth c Q nL pc lv st w := fun H locs ls hP hS hl => by
  subst ho; subst h1; subst h2
  exact va_ldcS C.1 C.2.1 C.2.2.2.1 (C.2.2.2.2.2.1.2.2.1.2.1 i hi) hd (kk H locs ls hP hS hl)
theorem z_get (C : zC G own cc nL ret p s m args meth c) {ci k index N : Nat} {F : zG → (Nat → Int32) → List Value} {Cn : String} {T : u_T} {v : Value} (ho : zobj ci k F) (hc : vwCl[ci]? = some (Cn, T, N)) (hly : ∀ w ∈ u_ws Cn T N, w ∈ zGW) (j : Nat) (hj : j < N) (hl : Cond.fieldLink own index (T j).1 (T j).2.1 (T j).2.2.1 ∈ zGW) (hv : (F G (w k))[j]? = some v) (hd : decode cc pc = .ok (.getfield index, 3)) (kk : Z G p l e R s m args below meth c Q nL (pc + 3) lv (v :: st) w) : Z G p l e R s m args below meth c Q nL pc lv (.ref (zad G k) :: st) w := fun H locs ls hP hS hl9 => va_get (D := G.1) (cl := vwCl) (tys := ztys G) (ci := ci) (v := v) (C := Cn) (T := T) (N := N) C.1 C.2.1 C.2.2.2.2.1 hly C.2.2.2.1 C.2.2.2.2.2.1.1 hP k (by rw [z_ws_get ho.1, ho.2]) hc j hj (C.2.2.2.2.1 _ hl) (fun _ h => h) hv hd (kk H locs ls hP hS hl9)
theorem z_put (C : zC G own cc nL ret p s m args meth c) {ci k index N : Nat} {F : zG → (Nat → Int32) → List Value} {Cn : String} {T : u_T} {ty0 : Nat → FieldType} {x : Int32} {w' : zW} (ho : zobj ci k F) (hc : vwCl[ci]? = some (Cn, T, N)) (hly : ∀ w ∈ u_ws Cn T N, w ∈ zGW) (hty : ∀ k, k < N → parseFieldDescriptor (T k).2.2.1 = some (ty0 k)) (hnm : ∀ a, a < N → ∀ b, b < N → a ≠ b → (T a).2.1 ≠ (T b).2.1) (j : Nat) (hj : j < N) (hi : ty0 j = .int) (hfin : (T j).2.2.2 = false) (hl : Cond.fieldLink own index (T j).1 (T j).2.1 (T j).2.2.1 ∈ zGW) (hF : F G (upd (w k) j x) = (F G (w k)).set j (.int x)) (hN : j < (F G (w k)).length) (hw : w' = zup w k j x) (hd : decode cc pc = .ok (.putfield index, 3)) (kk : Z G p l e R s m args below meth c Q nL (pc + 3) lv st w') : Z G p l e R s m args below meth c Q nL pc lv (.int x :: .ref (zad G k) :: st) w := fun H locs ls hP hS hl9 => by
  subst hw
  refine va_put (D := G.1) (cl := vwCl) (tys := ztys G) (ci := ci) (v := .int x) (ty := .int) (C := Cn) (T := T) (N := N) (A := zA G) (H0 := s.heap) C.1 C.2.1 C.2.2.2.2.1 hly ty0 hty hnm C.2.2.2.1 C.2.2.2.2.2.1.1 hP (z_D C.2.2.2.2.2.1.2.2.2 w) hS k (by rw [z_ws_get ho.1, ho.2]) hc j hj (C.2.2.2.2.1 _ hl) (fun _ h => h) hfin (by rw [hty j hj, hi]) rfl rfl hN hd (fun H1 locs1 hP1 hD1 hS1 => ?_)
  rw [z_ws_up (by rw [ho.2, hF])] at hP1
  exact kk H1 locs1 ls hP1 hS1 hl9
theorem z_iald (C : zC G own cc nL ret p s m args meth c) {k n : Nat} {i : Int32} (ha : zarr 0 k n) (hi : zin i n = true) (hd : decode cc pc = .ok (.iaload, 1)) (kk : Z G p l e R s m args below meth c Q nL (pc + 1) lv (.int (w k (zx i)) :: st) w) : Z G p l e R s m args below meth c Q nL pc lv (.int i :: .ref (zad G k) :: st) w := fun H locs ls hP hS hl => va_iald (D := G.1) (cl := vwCl) (tys := ztys G) C.1 C.2.1 C.2.2.2.2.2.1.1 hP k 0 (by rw [z_ws_get ha.1, ha.2]) rfl (zin_vp hi) hd (kk H locs ls hP hS hl)
theorem z_zald (C : zC G own cc nL ret p s m args meth c) {k n : Nat} {i : Int32} (ha : zarr 1 k n) (hi : zin i n = true) (hd : decode cc pc = .ok (.baload, 1)) (kk : Z G p l e R s m args below meth c Q nL (pc + 1) lv (.int (w k (zx i)) :: st) w) : Z G p l e R s m args below meth c Q nL pc lv (.int i :: .ref (zad G k) :: st) w := fun H locs ls hP hS hl => va_zald (D := G.1) (cl := vwCl) (tys := ztys G) C.1 C.2.1 C.2.2.2.2.2.1.1 hP k 1 (by rw [z_ws_get ha.1, ha.2]) rfl (zin_vp hi) hd (kk H locs ls hP hS hl)
theorem z_bald (C : zC G own cc nL ret p s m args meth c) {k n : Nat} {i : Int32} (ha : zarr 2 k n) (hi : zin i n = true) (hd : decode cc pc = .ok (.baload, 1)) (kk : Z G p l e R s m args below meth c Q nL (pc + 1) lv (.int (w k (zx i)) :: st) w) : Z G p l e R s m args below meth c Q nL pc lv (.int i :: .ref (zad G k) :: st) w := fun H locs ls hP hS hl => va_bald (D := G.1) (cl := vwCl) (tys := ztys G) C.1 C.2.1 C.2.2.2.2.2.1.1 hP k 2 (by rw [z_ws_get ha.1, ha.2]) rfl (zin_vp hi) hd (kk H locs ls hP hS hl)
theorem z_iast (C : zC G own cc nL ret p s m args meth c) {k n : Nat} {i x : Int32} {w' : zW} (ha : zarr 0 k n) (hi : zin i n = true) (hw : w' = zup w k (zx i) x) (hd : decode cc pc = .ok (.iastore, 1)) (kk : Z G p l e R s m args below meth c Q nL (pc + 1) lv st w') : Z G p l e R s m args below meth c Q nL pc lv (.int x :: .int i :: .ref (zad G k) :: st) w := fun H locs ls hP hS hl => by
  subst hw
  refine va_iast (D := G.1) (cl := vwCl) (tys := ztys G) (A := zA G) (H0 := s.heap) C.1 C.2.1 C.2.2.2.2.2.1.1 hP (z_D C.2.2.2.2.2.1.2.2.2 w) hS k 0 (by rw [z_ws_get ha.1, ha.2]) rfl (zin_vp hi) hd (fun H1 locs1 hP1 hD1 hS1 => ?_)
  rw [z_ws_up (by rw [ha.2])] at hP1
  exact kk H1 locs1 ls hP1 hS1 hl
theorem z_zast (C : zC G own cc nL ret p s m args meth c) {k n : Nat} {i x : Int32} {w' : zW} (ha : zarr 1 k n) (hi : zin i n = true) (hw : w' = zup w k (zx i) (vp_nar .boolean x)) (hd : decode cc pc = .ok (.bastore, 1)) (kk : Z G p l e R s m args below meth c Q nL (pc + 1) lv st w') : Z G p l e R s m args below meth c Q nL pc lv (.int x :: .int i :: .ref (zad G k) :: st) w := fun H locs ls hP hS hl => by
  subst hw
  refine va_zast (D := G.1) (cl := vwCl) (tys := ztys G) (A := zA G) (H0 := s.heap) C.1 C.2.1 C.2.2.2.2.2.1.1 hP (z_D C.2.2.2.2.2.1.2.2.2 w) hS k 1 (by rw [z_ws_get ha.1, ha.2]) rfl (zin_vp hi) hd (fun H1 locs1 hP1 hD1 hS1 => ?_)
  rw [z_ws_up (by rw [ha.2])] at hP1
  exact kk H1 locs1 ls hP1 hS1 hl
theorem z_bast (C : zC G own cc nL ret p s m args meth c) {k n : Nat} {i x : Int32} {w' : zW} (ha : zarr 2 k n) (hi : zin i n = true) (hw : w' = zup w k (zx i) (vp_nar .byte x)) (hd : decode cc pc = .ok (.bastore, 1)) (kk : Z G p l e R s m args below meth c Q nL (pc + 1) lv st w') : Z G p l e R s m args below meth c Q nL pc lv (.int x :: .int i :: .ref (zad G k) :: st) w := fun H locs ls hP hS hl => by
  subst hw
  refine va_bast (D := G.1) (cl := vwCl) (tys := ztys G) (A := zA G) (H0 := s.heap) C.1 C.2.1 C.2.2.2.2.2.1.1 hP (z_D C.2.2.2.2.2.1.2.2.2 w) hS k 2 (by rw [z_ws_get ha.1, ha.2]) rfl (zin_vp hi) hd (fun H1 locs1 hP1 hD1 hS1 => ?_)
  rw [z_ws_up (by rw [ha.2])] at hP1
  exact kk H1 locs1 ls hP1 hS1 hl
theorem z_aald43 (C : zC G own cc nL ret p s m args meth c) {i : Int32} (hi : zin i 2 = true) (hd : decode cc pc = .ok (.aaload, 1)) (kk : Z G p l e R s m args below meth c Q nL (pc + 1) lv (.ref (zad G (26 + 8 * zx i)) :: st) w) : Z G p l e R s m args below meth c Q nL pc lv (.int i :: .ref (zad G 43) :: st) w := fun H locs ls hP hS hl => va_aldq (D := G.1) (cl := vwCl) (tys := ztys G) C.1 C.2.1 C.2.2.2.2.2.1.1 hP 43 3 (f := fun i => some (zad G (26 + 8 * i))) (by rw [z_ws_get (by decide)]; rfl) rfl (zin_vp hi) hd (kk H locs ls hP hS hl)
theorem z_aald47 (C : zC G own cc nL ret p s m args meth c) {i : Int32} (hi : zin i 4 = true) (hd : decode cc pc = .ok (.aaload, 1)) (kk : Z G p l e R s m args below meth c Q nL (pc + 1) lv (.ref (zad G (48 + 2 * zx i)) :: st) w) : Z G p l e R s m args below meth c Q nL pc lv (.int i :: .ref (zad G 47) :: st) w := fun H locs ls hP hS hl => va_aldq (D := G.1) (cl := vwCl) (tys := ztys G) C.1 C.2.1 C.2.2.2.2.2.1.1 hP 47 4 (f := fun i => some (zad G (48 + 2 * i))) (by rw [z_ws_get (by decide)]; rfl) rfl (zin_vp hi) hd (kk H locs ls hP hS hl)
theorem z_alen (C : zC G own cc nL ret p s m args meth c) {t k n : Nat} {v : Int32} {ty : FieldType} (ha : zarr t k n) (ht : (ztys G)[t]? = some (zcy G t, ty)) (hv : Int32.ofNat n = v) (hd : decode cc pc = .ok (.arraylength, 1)) (kk : Z G p l e R s m args below meth c Q nL (pc + 1) lv (.int v :: st) w) : Z G p l e R s m args below meth c Q nL pc lv (.ref (zad G k) :: st) w := fun H locs ls hP hS hl => va_alen (D := G.1) (cl := vwCl) (tys := ztys G) C.1 C.2.1 C.2.2.2.2.2.1.1 hP k t (by rw [z_ws_get ha.1, ha.2]) ht hv hd (kk H locs ls hP hS hl)
theorem z_max (C : zC G own cc nL ret p s m args meth c) {index : Nat} {x y : Int32} (hl : Cond.methodLink own index Lib.Math.max.name ∈ zGW) (hf : 1 ≤ R.frames) (hr : (st.map fun v => v.category).sum + 13 ≤ R.locals) (hd : decode cc pc = .ok (.invokestatic index, 3)) (kk : Z G p l e R s m args below meth c Q nL (pc + 3) lv (.int (if x < y then y else x) :: st) w) : Z G p l e R s m args below meth c Q nL pc lv (.int y :: .int x :: st) w := fun H locs ls hP hS hl9 => va_mmax C.1 C.2.1 (by rw [C.2.2.1, hl9.1]) C.2.2.2.1 (C.2.2.2.2.1 _ hl) (C.2.2.2.2.1 _ zw_st_Lib_Math_max_name) (C.2.2.2.2.1 _ zw_ini_J9) (C.2.2.2.2.1 _ zw_cd_Lib_Math_max) hf hr (Nat.zero_le _) (Nat.zero_le _) hd (kk H locs ls hP hS hl9)
theorem z_min (C : zC G own cc nL ret p s m args meth c) {index : Nat} {x y : Int32} (hl : Cond.methodLink own index Lib.Math.min.name ∈ zGW) (hf : 1 ≤ R.frames) (hr : (st.map fun v => v.category).sum + 13 ≤ R.locals) (hd : decode cc pc = .ok (.invokestatic index, 3)) (kk : Z G p l e R s m args below meth c Q nL (pc + 3) lv (.int (if y < x then y else x) :: st) w) : Z G p l e R s m args below meth c Q nL pc lv (.int y :: .int x :: st) w := fun H locs ls hP hS hl9 => va_mmin C.1 C.2.1 (by rw [C.2.2.1, hl9.1]) C.2.2.2.1 (C.2.2.2.2.1 _ hl) (C.2.2.2.2.1 _ zw_st_Lib_Math_min_name) (C.2.2.2.2.1 _ zw_ini_J9) (C.2.2.2.2.1 _ zw_cd_Lib_Math_min) hf hr (Nat.zero_le _) (Nat.zero_le _) hd (kk H locs ls hP hS hl9)
theorem z_iret (C : zC G own cc nL (some .int) p s m args meth c) {v : Int32} (hd : decode cc pc = .ok (.ireturn, 1)) : Z G p l e R s m args below meth c (MQ below (zQ G (some (.int v)) w) args s 0 0 (zA G)) nL pc lv [.int v] w := fun H locs ls hP hS hl => W.iret C.1 C.2.1 C.2.2.2.2.2.2.2 (fun t ht hW => ⟨rfl, ⟨by rw [ht]; exact hP, zK_warm C.2.2.2.2.2.1 hW (fun q h1 h2 => by rw [ht]; exact hS.2.1 q h1 h2)⟩, hS.F ht⟩) hS.2.2 hd C.2.2.2.2.2.2.1
theorem z_zret {ty : FieldType} (C : zC G own cc nL (some ty) p s m args meth c) {v : Int32} (hn : narrow ty (.int v) = .int v) (hd : decode cc pc = .ok (.ireturn, 1)) : Z G p l e R s m args below meth c (MQ below (zQ G (some (.int v)) w) args s 0 0 (zA G)) nL pc lv [.int v] w := fun H locs ls hP hS hl => W.zret C.1 C.2.1 C.2.2.2.2.2.2.2 hn (fun t ht hW => ⟨rfl, ⟨by rw [ht]; exact hP, zK_warm C.2.2.2.2.2.1 hW (fun q h1 h2 => by rw [ht]; exact hS.2.1 q h1 h2)⟩, hS.F ht⟩) hS.2.2 hd C.2.2.2.2.2.2.1
theorem z_lret (C : zC G own cc nL (some .long) p s m args meth c) {v : Int64} (hd : decode cc pc = .ok (.lreturn, 1)) : Z G p l e R s m args below meth c (MQ below (zQ G (some (.long v)) w) args s 0 0 (zA G)) nL pc lv [.long v] w := fun H locs ls hP hS hl => W.lret C.1 C.2.1 C.2.2.2.2.2.2.2 (fun t ht hW => ⟨rfl, ⟨by rw [ht]; exact hP, zK_warm C.2.2.2.2.2.1 hW (fun q h1 h2 => by rw [ht]; exact hS.2.1 q h1 h2)⟩, hS.F ht⟩) hS.2.2 hd C.2.2.2.2.2.2.1
theorem z_vret (C : zC G own cc nL none p s m args meth c) (hd : decode cc pc = .ok (.return_, 1)) : Z G p l e R s m args below meth c (MQ below (zQ G none w) args s 0 0 (zA G)) nL pc lv [] w := fun H locs ls hP hS hl => W.vret C.1 C.2.1 C.2.2.2.2.2.2.2 (fun t ht hW => ⟨rfl, ⟨by rw [ht]; exact hP, zK_warm C.2.2.2.2.2.1 hW (fun q h1 h2 => by rw [ht]; exact hS.2.1 q h1 h2)⟩, hS.F ht⟩) hS.2.2 hd C.2.2.2.2.2.2.1
end ZR
/-- a body walked from its start is a contract -/
theorem z_start {l : Launch} {G : zG} {y : MethodName} {cc : ByteArray} {nL : Nat} {ret : Option FieldType} {rm : Room} {av : List Value} {w w' : zW} {o : Option Value} {own : String} (hy : plainName y.cls = true) (hown : y.cls = own) (hav : (lg_sl av).length ≤ nL) {lv : List (Nat × Value)} (hlv : lv_args 0 av = lv)
    (body : ∀ (p : Program) (e : Env) (s : State) (m : MethodId) (args : Array Value) (below : List Frame) (meth : Method) (c : Code), zC G own cc nL ret p s m args meth c → Z G p l e rm s m args below meth c (MQ below (zQ G o w') args s 0 0 (zA G)) nL 0 lv [] w) : zMet l G y cc nL ret rm av w o w' := by
  refine Met.ofW (cc := cc) (maxL := nL) (ret := ret) hy rfl ?_
  intro p e s m args below meth c s₁ B hml hv
  obtain ⟨rfl, hP, hK⟩ := hv
  have hts := atoms_spec (ws := Cond.code y cc nL ret :: zGW) B.pre
  have hown' : s.vm.findClass own = some m.cls := hown ▸ findClass_of_methodNamed B.named
  rw [lg_entry_eq]
  refine body p e s m _ below meth c ⟨B.exec, B.bytes, hml, hown', fun w h => hts w (List.mem_cons_of_mem _ h), hK, B.notSynchronized, B.returns⟩ s.heap [] _ hP va_S.rf ?_
  rw [← hlv]
  exact lv_entry av hav
section ZCALL
variable {G : zG} {p : Program} {l : Launch} {e : Env} {R : Room} {s : State} {m : MethodId} {args : Array Value} {below : List Frame} {meth : Method} {c : Code} {Q : State → Prop} {own : String} {cc : ByteArray} {nL : Nat} {ret : Option FieldType} {pc : Nat} {lv : List (Nat × Value)} {st : List Value} {w : zW}
theorem z_run {g : JFrame} {ls : Array Slot} {rest : List Value} {o : Option Value} {w1 : zW} {a : Array Value} {H : Heap} {locs : List Loc} (hg : g = F0 m pc ls st) (hr : va_Run p l e R s m args below meth c H locs 0 0 0 0 g rest (zQ G o w1 a) (zA G)) (hS : va_S (zA G) s.heap H locs) (hl : lv_has ls nL lv) (kk : Z G p l e R s m args below meth c Q nL (pc + 3) lv (o.toList ++ rest) w1) : W p l e R s m args below meth c H locs 0 0 Q (F0 m pc ls st) := by
  subst hg
  intro T hT X
  obtain ⟨v, st₀, t, T', L, h0, X', hL, e1, e2, ⟨hv, hH, hz, hk⟩, hst⟩ := hr T hT X
  cases hv
  rw [h0] at hz hk
  have hS' : va_S (zA G) s.heap T'.heap (locs ++ L) := ⟨Nat.le_trans hS.1 (by rw [e1]; exact hz), fun q h1 h2 => by rw [e1, hk q (Nat.lt_of_lt_of_le h1 hS.1) h2]; exact hS.2.1 q h1 h2, fun q hq => by
    rcases List.mem_append.mp hq with h | h
    · exact hS.2.2 q h
    · exact hL q h⟩
  obtain ⟨t2, a1, b1⟩ := kk T'.heap (locs ++ L) ls (by rw [e1]; exact hH.1) hS' hl T' rfl X'
  exact ⟨t2, hst t2 a1, b1⟩
/-- what a call needs of the callee's words -/
def zYV (y : MethodName) (bytes : ByteArray) (maxL : Nat) (ret : Option FieldType) (Cn : String) (n : Nat) : Prop := Cond.code y bytes maxL ret ∈ zGW ∧ Cond.instanceMethod y ∈ zGW ∧ Cond.selects Cn y y ∈ zGW ∧ Cond.initialized Cn ∈ zGW ∧ (y.cls = Cn ∧ y.cls ≠ "java/lang/invoke/MethodHandle" ∧ y.cls ≠ "java/lang/invoke/VarHandle" ∧ (parseMethodDescriptor y.desc).map (fun d => d.parameters.length) = some n)
def zYS (y : MethodName) (bytes : ByteArray) (maxL : Nat) (ret : Option FieldType) (n : Nat) : Prop := Cond.code y bytes maxL ret ∈ zGW ∧ Cond.static y ∈ zGW ∧ Cond.initialized y.cls ∈ zGW ∧ (y.cls ≠ "java/lang/invoke/MethodHandle" ∧ y.cls ≠ "java/lang/invoke/VarHandle" ∧ (parseMethodDescriptor y.desc).map (fun d => d.parameters.length) = some n)
def zRm (R rm : Room) (maxL : Nat) : Prop := rm.cells = 0 ∧ rm.slots = 0 ∧ rm.frames + 1 ≤ R.frames ∧ 8 + (maxL + 11) + rm.locals ≤ R.locals
theorem zgw {wd : Cond} (h : wd ∈ zGW) : wd ∈ zGW ∧ ((wd.onTables && wd.keeps) = true ∨ ∃ ty, wd = .arrayClass ty) := ⟨h, good_of_word (List.mem_filter.mp h).2⟩
theorem z_pre {av : List Value} {H : Heap} {locs : List Loc} (hK : zK G s) (hP : va_P G.1 vwCl (z_ws G w) H) (hS : va_S (zA G) s.heap H locs) : ∀ U : State, U.heap = H → s.WarmedH U.vm → va_Pc av (zH G w) av.toArray U := fun U hU hW => ⟨rfl, by rw [hU]; exact hP, zK_warm hK hW (fun q h1 h2 => by rw [hU]; exact hS.2.1 q h1 h2)⟩
theorem z_callA (C : zC G own cc nL ret p s m args meth c) {y : MethodName} {bytes : ByteArray} {maxL n index b : Nat} {ret' : Option FieldType} {rm : Room} {As rest : List Value} {o : Option Value} {w1 : zW} {Cn : String} (hrv : ∀ (H : Heap) (locs : List Loc), va_P G.1 vwCl (z_ws G w) H → va_S (zA G) s.heap H locs → ∃ cell : Cell, H[b]? = some cell ∧ cell.vm.isStatics = false ∧ s.vm.findClass Cn = some cell.cls) (hM : zMet l G y bytes maxL ret' rm (.ref b :: As) w o w1) (hl : Cond.methodLink own index y ∈ zGW) (hY : zYV y bytes maxL ret' Cn n) (hr : zRm R rm maxL) (hn : As.length = n) (hst : st = As.reverse ++ .ref b :: rest) (hW : (rest.map fun v => v.category).sum ≤ 8) (hd : decode cc pc = .ok (.invokevirtual index, 3)) (kk : Z G p l e R s m args below meth c Q nL (pc + 3) lv (o.toList ++ rest) w1) : Z G p l e R s m args below meth c Q nL pc lv st w := fun H locs ls hP hS hl9 => by
  subst hst
  obtain ⟨y1, y2, y3, y4, y5⟩ := hY
  have hG : GoodIn zGW (wsV own index Cn y (Cond.code y bytes maxL ret' :: zGW)) := by
    intro wd hwd
    simp only [wsV, List.mem_append, List.mem_cons, List.not_mem_nil, or_false] at hwd
    rcases hwd with (rfl | rfl | rfl | rfl) | (rfl | hwd)
    · exact zgw hl
    · exact zgw y2
    · exact zgw y3
    · exact zgw y4
    · exact zgw y1
    · exact zgw hwd
  exact z_run rfl (va_runV (As := As) (rest := rest) ⟨C.1, C.2.1, C.2.2.1, C.2.2.2.1, C.2.2.2.2.1⟩ hM (cwV n C.2.2.2.2.1 hG rfl hr.1 hr.2.1 y5 hr.2.2) ⟨zH_blind, hrv H locs hP hS, z_pre C.2.2.2.2.2.1 hP hS⟩ rfl hn hl9.1 rfl (by show 2 * 0 + _ ≤ 8; omega) hd ⟨Nat.zero_le _, Nat.zero_le _⟩) hS hl9 kk
theorem z_callV (C : zC G own cc nL ret p s m args meth c) {y : MethodName} {bytes : ByteArray} {maxL n index ci k N : Nat} {F : zG → (Nat → Int32) → List Value} {T : u_T} {ret' : Option FieldType} {rm : Room} {As rest : List Value} {o : Option Value} {w1 : zW} {Cn : String} (ho : zobj ci k F) (hc : vwCl[ci]? = some (Cn, T, N)) (hM : zMet l G y bytes maxL ret' rm (.ref (zad G k) :: As) w o w1) (hl : Cond.methodLink own index y ∈ zGW) (hY : zYV y bytes maxL ret' Cn n) (hr : zRm R rm maxL) (hn : As.length = n) (hst : st = As.reverse ++ .ref (zad G k) :: rest) (hW : (rest.map fun v => v.category).sum ≤ 8) (hd : decode cc pc = .ok (.invokevirtual index, 3)) (kk : Z G p l e R s m args below meth c Q nL (pc + 3) lv (o.toList ++ rest) w1) : Z G p l e R s m args below meth c Q nL pc lv st w :=
  z_callA C (fun H locs hP hS => va_recv (q := (Cn, T, N)) C.2.2.2.2.2.1.1 hP hc (by rw [z_ws_get ho.1, ho.2])) hM hl hY hr hn hst hW hd kk
theorem z_callK (C : zC G own cc nL ret p s m args meth c) {y : MethodName} {bytes : ByteArray} {maxL n index i : Nat} {ret' : Option FieldType} {rm : Room} {As rest : List Value} {o : Option Value} {w1 : zW} (hi : i < 17) (hM : zMet l G y bytes maxL ret' rm (.ref (zaK G i) :: As) w o w1) (hl : Cond.methodLink own index y ∈ zGW) (hY : zYV y bytes maxL ret' "java/lang/String" n) (hr : zRm R rm maxL) (hn : As.length = n) (hst : st = As.reverse ++ .ref (zaK G i) :: rest) (hW : (rest.map fun v => v.category).sum ≤ 8) (hd : decode cc pc = .ok (.invokevirtual index, 3)) (kk : Z G p l e R s m args below meth c Q nL (pc + 3) lv (o.toList ++ rest) w1) : Z G p l e R s m args below meth c Q nL pc lv st w :=
  z_callA C (fun H locs hP hS => vk_recv C.2.2.2.2.2.1.2.2.1.1 hi hS) hM hl hY hr hn hst hW hd kk
theorem z_callS (C : zC G own cc nL ret p s m args meth c) {y : MethodName} {bytes : ByteArray} {maxL n index : Nat} {ret' : Option FieldType} {rm : Room} {As rest : List Value} {o : Option Value} {w1 : zW} (hM : zMet l G y bytes maxL ret' rm As w o w1) (hl : Cond.methodLink own index y ∈ zGW) (hY : zYS y bytes maxL ret' n) (hr : zRm R rm maxL) (hn : As.length = n) (hst : st = As.reverse ++ rest) (hW : (rest.map fun v => v.category).sum ≤ 8) (hd : decode cc pc = .ok (.invokestatic index, 3)) (kk : Z G p l e R s m args below meth c Q nL (pc + 3) lv (o.toList ++ rest) w1) : Z G p l e R s m args below meth c Q nL pc lv st w := fun H locs ls hP hS hl9 => by
  subst hst
  obtain ⟨y1, y2, y4, y5⟩ := hY
  have hG : GoodIn zGW (va_wsS own index y (Cond.code y bytes maxL ret' :: zGW)) := by
    intro wd hwd
    simp only [va_wsS, List.mem_append, List.mem_cons, List.not_mem_nil, or_false] at hwd
    rcases hwd with (rfl | rfl | rfl) | (rfl | hwd)
    · exact zgw hl
    · exact zgw y2
    · exact zgw y4
    · exact zgw y1
    · exact zgw hwd
  exact z_run rfl (va_runS (As := As) (rest := rest) ⟨C.1, C.2.1, C.2.2.1, C.2.2.2.1, C.2.2.2.2.1⟩ hM (va_cwS n C.2.2.2.2.1 hG rfl hr.1 hr.2.1 y5 hr.2.2) ⟨zH_blind, z_pre C.2.2.2.2.2.1 hP hS⟩ rfl hn hl9.1 rfl (by show 2 * 0 + _ ≤ 8; omega) hd ⟨Nat.zero_le _, Nat.zero_le _⟩) hS hl9 kk
theorem z_callN (C : zC G own cc nL ret p s m args meth c) {y : MethodName} {bytes : ByteArray} {maxL n index : Nat} {ret' : Option FieldType} {rm : Room} {As rest : List Value} {o : Option Value} {w1 : zW} {host : String} (hM : zMet l G y bytes maxL ret' rm As w o w1) (hl : va_Nw (.methodLinkNest own index y host) s) (hY : zYS y bytes maxL ret' n) (hr : zRm R rm maxL) (hn : As.length = n) (hst : st = As.reverse ++ rest) (hW : (rest.map fun v => v.category).sum ≤ 8) (hd : decode cc pc = .ok (.invokestatic index, 3)) (kk : Z G p l e R s m args below meth c Q nL (pc + 3) lv (o.toList ++ rest) w1) : Z G p l e R s m args below meth c Q nL pc lv st w := fun H locs ls hP hS hl9 => by
  subst hst
  obtain ⟨y1, y2, y4, y5⟩ := hY
  exact z_run rfl (va_runSN (As := As) (rest := rest) ⟨C.1, C.2.1, C.2.2.1, C.2.2.2.1, C.2.2.2.2.1⟩ hM ⟨va_cnB n C.2.2.2.2.1 (zGW_good y1) rfl hr.1 hr.2.1 hl (C.2.2.2.2.1 _ y4) y5 hr.2.2, C.2.2.2.2.1 _ y2, trivial⟩ ⟨zH_blind, z_pre C.2.2.2.2.2.1 hP hS⟩ rfl hn hl9.1 rfl (by show 2 * 0 + _ ≤ 8; omega) hd ⟨Nat.zero_le _, Nat.zero_le _⟩) hS hl9 kk
end ZCALL
/-! the words of the functions that mirror the methods -/
def zlet {α β : Type} (x : α) (f : α → β) : β := f x
def zjn {α β : Type} (f : α → β) (g : (α → β) → β) : β := g f
def zg {α : Type} (b : Bool) (k : Option α) : Option α := bif b then k else none
def zbd {α β : Type} (x : Option α) (f : α → Option β) : Option β := match x with
  | none => none
  | some a => f a
def zfix {σ ρ : Type} (b : (σ → Option ρ) → σ → Option ρ) : Nat → σ → Option ρ
  | 0 => fun _ => none
  | n + 1 => b (zfix b n)
theorem zlet_e {α β : Type} {x : α} {f : α → β} {o : β} (h : zlet x f = o) : ∃ y, y = x ∧ f y = o := ⟨x, rfl, h⟩
theorem zjn_e {α β : Type} {f : α → β} {g : (α → β) → β} {o : β} (h : zjn f g = o) : ∃ j : α → β, (∀ a, j a = o → f a = o) ∧ g j = o := ⟨f, fun _ h => h, h⟩
theorem zg_e {α : Type} {b : Bool} {k : Option α} {o : α} (h : zg b k = some o) : b = true ∧ k = some o := by
  cases b
  · cases h
  · exact ⟨rfl, h⟩
theorem zbd_e {α β : Type} {x : Option α} {f : α → Option β} {o : β} (h : zbd x f = some o) : ∃ a, x = some a ∧ f a = some o := by
  cases x with
  | none => cases h
  | some a => exact ⟨a, rfl, h⟩
theorem zfix_e {σ ρ : Type} {b : (σ → Option ρ) → σ → Option ρ} {n : Nat} {s : σ} {o : Option ρ} (h : zfix b (n + 1) s = o) : b (zfix b n) s = o := h
theorem zfix_0 {σ ρ : Type} {b : (σ → Option ρ) → σ → Option ρ} {s : σ} {o : ρ} (h : zfix b 0 s = some o) : False := by cases h
theorem zif_t {α : Type} {c : Prop} [Decidable c] {a b o : α} (hc : c) (h : (if c then a else b) = o) : a = o := by rw [if_pos hc] at h; exact h
theorem zif_f {α : Type} {c : Prop} [Decidable c] {a b o : α} (hc : ¬ c) (h : (if c then a else b) = o) : b = o := by rw [if_neg hc] at h; exact h
/-- an answer that is a truth -/
def zbo (v : Int32) : Bool := decide (v = 0) || decide (v = 1)
theorem zbo_n {v : Int32} (h : zbo v = true) : narrow .boolean (.int v) = .int v := by
  simp only [zbo, Bool.or_eq_true, decide_eq_true_eq] at h
  rcases h with rfl | rfl <;> rfl
theorem znt {x c : Int32} {k : Int} (hc : c.toInt = k) (h : ¬ x = c) : x.toInt ≠ k := fun e => h (Int32.toInt_inj.mp (by rw [e, hc]))
end
